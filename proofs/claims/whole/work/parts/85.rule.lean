/-! RULE -/
def eP (a : Nat) (k : Int) : Prop := (a = 17 ∧ k = 1) ∨ (a = 54 ∧ k = 1) ∨ ((a = 56 ∨ a = 57 ∨ a = 58) ∧ 4200 ≤ k) ∨ (a = 59 ∧ k = 14)
theorem scE_G {s s' : Nat → Int → Int} (hf : frG s s') : scE eP s s' := by
  intro a k x y
  rw [hf.1 a (by unfold pers psA psK at x; unfold eP at y; omega) (by unfold pers psA psK at x; omega) (by unfold pers psA psK at x; omega) (by unfold pers psA psK at x; omega)]
theorem scE_Q {s s' : Nat → Int → Int} (hf : frQ s s') : scE eP s s' := by
  intro a k x y
  by_cases c54 : a = 54
  · subst c54
    exact hf.2.1 k (by unfold pers psA psK at x; omega) (by unfold pers psA psK at x; omega) (by unfold pers psA psK at x; omega) (by unfold pers psA psK at x; omega) (by unfold pers psA psK at x; omega) (by unfold pers psA psK at x; omega) (by unfold pers psA psK at x; omega)
  by_cases c56 : a = 56
  · subst c56; exact (hf.2.2.1 k (by unfold eP at y; omega)).1
  by_cases c57 : a = 57
  · subst c57; exact (hf.2.2.1 k (by unfold eP at y; omega)).2.1
  by_cases c58 : a = 58
  · subst c58; exact (hf.2.2.1 k (by unfold eP at y; omega)).2.2
  by_cases c59 : a = 59
  · subst c59; exact hf.2.2.2 k (by unfold eP at y; omega)
  rw [hf.1 a c54 c56 c57 c58 c59 (by unfold pers psA psK at x; omega) (by unfold pers psA psK at x; omega)]
theorem scE_17 {s : Nat → Int → Int} {v : Int} : scE eP s (uf s 17 1 v) := scE_uf (fun _ => Or.inl ⟨rfl, rfl⟩)
theorem scE_541 {s : Nat → Int → Int} {v : Int} : scE eP s (uf s 54 1 v) := scE_uf (fun _ => Or.inr (Or.inl ⟨rfl, rfl⟩))
theorem rCode_lo {s s' : Nat → Int → Int} {k : Int} {c : Cd} (hc : c.1 ≤ 300) (h1 : ∀ j, 300 * k ≤ j → j < 300 * k + 300 → s' 56 j = s 56 j ∧ s' 57 j = s 57 j ∧ s' 58 j = s 58 j) (h2 : s' 59 k = s 59 k) (hr : rCode s k c) : rCode s' k c := by
  refine ⟨h2.trans hr.1, fun j hj => ?_⟩
  have e := h1 (300 * k + j) (by omega) (by omega)
  rw [e.1, e.2.1, e.2.2]
  exact hr.2 j hj
theorem J_P {h : az_H} {s s' : Nat → Int → Int} {r : Nat → Int → Option Nat} {cs : Int → Option Cd} {hk : Int → Option (Int × Int)} {ru : Int → Cd} (hs : scE eP s s') (njT : jT s') (njM : jM s') (hj : J h s r cs hk ru) : J h s' r cs hk ru := by
  obtain ⟨a1, a2, a3, a4, a5, a6, a7, a8, a9, a10, a11, a12, a13⟩ := hj
  have e : ∀ a, (∀ k, pers a k ∧ ¬ eP a k) → s' a = s a := fun a x => funext (fun k => hs a k (x k).1 (x k).2)
  have lo : ∀ k : Int, 0 ≤ k → k ≤ 13 → ∀ j, 300 * k ≤ j → j < 300 * k + 300 → s' 56 j = s 56 j ∧ s' 57 j = s 57 j ∧ s' 58 j = s 58 j := fun k k0 k1 j j0 j1 => ⟨hs 56 j (by unfold pers psA; omega) (by unfold eP; omega), hs 57 j (by unfold pers psA; omega) (by unfold eP; omega), hs 58 j (by unfold pers psA; omega) (by unfold eP; omega)⟩
  have l59 : ∀ k : Int, 0 ≤ k → k ≤ 13 → s' 59 k = s 59 k := fun k k0 k1 => hs 59 k (by unfold pers psA; omega) (by unfold eP; omega)
  have e61 := e 61 (fun k => ⟨by unfold pers psA; omega, by unfold eP; omega⟩)
  have e67 := e 67 (fun k => ⟨by unfold pers psA; omega, by unfold eP; omega⟩)
  have e68 := e 68 (fun k => ⟨by unfold pers psA; omega, by unfold eP; omega⟩)
  have e60 := e 60 (fun k => ⟨by unfold pers psA; omega, by unfold eP; omega⟩)
  refine ⟨a1, a2, ⟨fun k k0 k1 => ⟨fun z => ?_, fun c hc => ?_⟩, fun i i0 i1 => ⟨fun z => ?_, fun q hq => ?_⟩⟩, njT, ?_, ⟨?_, ?_, fun i i0 i1 => ?_⟩, jA_e (e 25 (fun k => ⟨by unfold pers psA; omega, by unfold eP; omega⟩)) (e 66 (fun k => ⟨by unfold pers psA; omega, by unfold eP; omega⟩)) a7, njM, jS_e (e 53 (fun k => ⟨by unfold pers psA; omega, by unfold eP; omega⟩)) (e 65 (fun k => ⟨by unfold pers psA; omega, by unfold eP; omega⟩)) (hs 16 11 (by unfold pers psA psK; omega) (by unfold eP; omega)) (hs 54 27 (by unfold pers psA psK; omega) (by unfold eP; omega)) a9, jC_e (hs 35 4 (by unfold pers psA psK; omega) (by unfold eP; omega)) (hs 54 40 (by unfold pers psA psK; omega) (by unfold eP; omega)) (e 76 (fun k => ⟨by unfold pers psA; omega, by unfold eP; omega⟩)) (e 77 (fun k => ⟨by unfold pers psA; omega, by unfold eP; omega⟩)) (e 78 (fun k => ⟨by unfold pers psA; omega, by unfold eP; omega⟩)) (e 79 (fun k => ⟨by unfold pers psA; omega, by unfold eP; omega⟩)) a10, jW_e (hs 48 3 (by unfold pers psA psK; omega) (by unfold eP; omega)) (hs 54 45 (by unfold pers psA psK; omega) (by unfold eP; omega)) (hs 54 40 (by unfold pers psA psK; omega) (by unfold eP; omega)) (e 50 (fun k => ⟨by unfold pers psA; omega, by unfold eP; omega⟩)) (e 80 (fun k => ⟨by unfold pers psA; omega, by unfold eP; omega⟩)) (e 49 (fun k => ⟨by unfold pers psA; omega, by unfold eP; omega⟩)) (e 81 (fun k => ⟨by unfold pers psA; omega, by unfold eP; omega⟩)) a11, jK_e (hs 45 3 (by unfold pers psA psK; omega) (by unfold eP; omega)) (hs 54 50 (by unfold pers psA psK; omega) (by unfold eP; omega)) (hs 54 40 (by unfold pers psA psK; omega) (by unfold eP; omega)) (e 47 (fun k => ⟨by unfold pers psA; omega, by unfold eP; omega⟩)) (e 83 (fun k => ⟨by unfold pers psA; omega, by unfold eP; omega⟩)) (e 46 (fun k => ⟨by unfold pers psA; omega, by unfold eP; omega⟩)) (e 84 (fun k => ⟨by unfold pers psA; omega, by unfold eP; omega⟩)) a12, jE_e (hs 35 5 (by unfold pers psA psK; omega) (by unfold eP; omega)) (hs 54 53 (by unfold pers psA psK; omega) (by unfold eP; omega)) a13⟩
  · rw [e61]; exact (a3.1 k k0 k1).1 z
  · obtain ⟨q1, q2, q3⟩ := (a3.1 k k0 k1).2 c hc
    rw [e61]
    exact ⟨q1, rCode_lo q3.1 (lo k k0 (by omega)) (l59 k k0 (by omega)) q2, q3⟩
  · rw [e67]; exact (a3.2 i i0 i1).1 z
  · rw [e67, e68]; exact (a3.2 i i0 i1).2 q hq
  · exact jL_e e60 a5
  · rw [hs 16 10 (by unfold pers psA psK; omega) (by unfold eP; omega), hs 54 13 (by unfold pers psA psK; omega) (by unfold eP; omega)]; exact a6.1
  · rw [hs 54 13 (by unfold pers psA psK; omega) (by unfold eP; omega)]; exact a6.2.1
  · rw [hs 54 13 (by unfold pers psA psK; omega) (by unfold eP; omega)] at i1
    obtain ⟨q1, q2, q3⟩ := a6.2.2 i i0 i1
    have h8 := a6.2.1
    exact ⟨q1, rCode_lo q1.1.1 (lo (6 + i) (by omega) (by omega)) (l59 (6 + i) (by omega) (by omega)) q2, q3⟩
theorem frQ_59 {s : Nat → Int → Int} {v : Int} : frQ s (uf s 59 14 v) := ⟨fun a _ _ _ _ x5 _ _ => up_ne x5, fun _ _ _ _ _ _ _ _ => rfl, fun _ _ => ⟨rfl, rfl, rfl⟩, fun j hj => ud_ne hj⟩
section RU
variable {h : az_H} {s : Nat → Int → Int} {r : Nat → Int → Option Nat} {G : az_G} {d : Nat} {Q : Option az_V → az_H → Prop} {T : Int → Int} {L : Nat}
theorem cDrop {p : Int} {K : Int → az_H → Prop} (hp : s 17 2 = p) (hl : s 17 1 = L) (hL : L ≤ 208) (hk : K p (PS h (uf s 17 1 0) r)) : rdO (PS h s r) 16 10 0 (fun o4 => rcv (PS h s r) o4 8 (cz G mX8_place (d + 1) 0 0 [vo o4] (PS h s r) (fun v h5 => atI v (fun r6 => rdO h5 16 10 0 (fun o7 => rdO h5 16 10 0 (fun o8 => rcv h5 o8 8 (cz G mX8_length (d + 1) 0 0 [vo o8] h5 (fun v h9 => atI v (fun r10 => rcv h9 o7 8 (cz G mX8_drop (d + 1) 0 0 [vo o7, vi r10] h9 (fun v h11 => atV v (K r6 h11)))))))))))) := by
  rw [ro_16_0, rc_17]
  refine vX8_place ?_
  rw [ri_17_2, hp, atI_q, ro_16_0, ro_16_0, rc_17]
  refine vX8_length ?_
  rw [ri_17_1, hl, atI_q, rc_17]
  refine vX8_drop ?_
  rw [ri_17_1, hl, show w32 ((L : Int) - (L : Int)) = 0 by rw [w32_id] <;> omega]
  refine sJ9_max ?_
  rw [atI_q, wi_17_1, atV_q]
  exact hk
theorem rBegin (hx : rTx T L s) (hq : ∀ s', frQ s s' → rTok T L s' 0 → s' 54 14 = 0 → s' 59 14 = 0 → Q none (PS h s' r)) : cz G mX11_begin (d + 4) 0 0 [vo 54] (PS h s r) Q := by
  refine vX11_begin ?_
  rw [wi_54_4, ro_54_10, st_59]
  refine ⟨by decide, by decide, ?_⟩
  rw [wb_54_14_0, rc_54]
  generalize hs1 : uf (uf (uf s 54 4 0) 59 14 0) 54 14 0 = s1
  have f1 : frQ s s1 := by
    rw [← hs1]
    exact frQ_tr (frQ_54 (k := 4) (v := 0) (by decide)) (frQ_tr frQ_59 (frQ_54 (by decide)))
  refine sX11_next (d := d) (rTx_Q f1 hx) (e := 0) (by rw [← hs1]; rfl) (Nat.zero_le _) (fun s2 f2 t2 => ?_)
  rw [atV_q]
  refine hq s2 (frQ_tr f1 (frQ_U (frU_n f2))) t2 ?_ ?_
  · rw [f2.2 14 (by decide) (by decide) (by decide) (by decide) (by decide), ← hs1]; rfl
  · rw [f2.1 59 (by decide), ← hs1]; rfl
theorem rEnd1 (h14 : s 54 14 = 0) (hq : Q (some (vi 0)) (PS h (uf s 54 1 0) r)) : cz G mX11_end d 0 0 [vo 54] (PS h s r) Q := by
  refine vX11_end ?_
  rw [ri_54_14, h14, if_pos rfl, wi_54_1]
  exact hq
theorem rEnd0 {p : Nat} (h14 : s 54 14 = 1) (h3 : s 54 3 = p) (hq : Q (some (vi (w32 (-10 - (p : Int))))) (PS h (uf s 54 1 0) r)) : cz G mX11_end d 0 0 [vo 54] (PS h s r) Q := by
  refine vX11_end ?_
  rw [ri_54_14, h14, if_neg (by decide), ri_54_3, h3, wi_54_1]
  exact hq
def kpS (s : Nat → Int → Int) (k n : Int) : Nat → Int → Int := up (up (up s 56 (cps (s 56) (s 56) 4200 (300 * k) n)) 57 (cps (s 57) (s 57) 4200 (300 * k) n)) 58 (cps (s 58) (s 58) 4200 (300 * k) n)
theorem cps_k {g : Int → Int} {k j : Int} (k0 : 0 ≤ k) (k1 : k ≤ 13) (j0 : 0 ≤ j) (j1 : j < 300) : ud (cps g g 4200 (300 * k) j) (300 * k + j) (cps g g 4200 (300 * k) j (4200 + j)) = cps g g 4200 (300 * k) (j + 1) := by
  funext x
  rw [ud_ap]
  unfold cps
  rw [if_neg (show ¬ (300 * k ≤ 4200 + j ∧ 4200 + j < 300 * k + j) by omega)]
  by_cases c : x = 300 * k + j
  · rw [if_pos c, if_pos (by omega)]
    congr 1
    omega
  · rw [if_neg c]
    by_cases c2 : 300 * k ≤ x ∧ x < 300 * k + j
    · rw [if_pos c2, if_pos (by omega)]
    · rw [if_neg c2, if_neg (by omega)]
theorem rKeep {k : Int} {n : Nat} (k0 : 0 ≤ k) (k1 : k ≤ 13) (hn : s 59 14 = n) (n1 : n ≤ 299) (hq : Q none (PS h (uf (kpS s k n) 59 k n) r)) : cz G mX11_keep d 0 0 [vo 54, vi k] (PS h s r) Q := by
  refine vX11_keep ?_
  have h3 : w32 (300 * k) = 300 * k := by rw [w32_id] <;> omega
  have W : ∀ (f j : Nat), n = j + f → pX11_keep_2 G d 54 k j (PS h (kpS s k j) r) Q := by
    intro f
    induction f with
    | zero =>
      intro j hj
      have : j = n := by omega
      subst this
      refine vX11_keep_2 ?_
      rw [ro_54_10, ld_59, show kpS s k (j : Int) 59 14 = s 59 14 from rfl, hn]
      refine ⟨by decide, by decide, ?_⟩
      rw [if_pos (Int.le_refl _), ro_54_10, ro_54_10, ld_59, show kpS s k (j : Int) 59 14 = s 59 14 from rfl, hn]
      refine ⟨by decide, by decide, ?_⟩
      rw [st_59]
      exact ⟨k0, by omega, hq⟩
    | succ f ih =>
      intro j hj
      refine vX11_keep_2 ?_
      rw [ro_54_10, ld_59, show kpS s k (j : Int) 59 14 = s 59 14 from rfl, hn]
      refine ⟨by decide, by decide, ?_⟩
      rw [if_neg (by omega), ro_54_7, ro_54_7, h3, show w32 (4200 + (j : Int)) = 4200 + (j : Int) by clear h3; rw [w32_id] <;> omega, show w32 (300 * k + (j : Int)) = 300 * k + (j : Int) by clear h3; rw [w32_id] <;> omega, show w32 ((j : Int) + 1) = ((j + 1 : Nat) : Int) by clear h3; rw [w32_id] <;> omega, ld_56]
      refine ⟨by omega, by omega, ?_⟩
      rw [st_56]
      refine ⟨by omega, by omega, ?_⟩
      rw [ro_54_8, ro_54_8, ld_57]
      refine ⟨by omega, by omega, ?_⟩
      rw [st_57]
      refine ⟨by omega, by omega, ?_⟩
      rw [ro_54_9, ro_54_9, ld_58]
      refine ⟨by omega, by omega, ?_⟩
      rw [st_58]
      refine ⟨by omega, by omega, ?_⟩
      have key : uf (uf (uf (kpS s k (j : Int)) 56 (300 * k + (j : Int)) (kpS s k (j : Int) 56 (4200 + (j : Int)))) 57 (300 * k + (j : Int)) (kpS s k (j : Int) 57 (4200 + (j : Int)))) 58 (300 * k + (j : Int)) (kpS s k (j : Int) 58 (4200 + (j : Int))) = kpS s k ((j + 1 : Nat) : Int) := by
        funext a
        by_cases c58 : a = 58
        · subst c58
          show ud (cps (s 58) (s 58) 4200 (300 * k) j) (300 * k + (j : Int)) (cps (s 58) (s 58) 4200 (300 * k) j (4200 + (j : Int))) = cps (s 58) (s 58) 4200 (300 * k) ((j + 1 : Nat) : Int)
          exact cps_k k0 k1 (by omega) (by omega)
        by_cases c57 : a = 57
        · subst c57
          show ud (cps (s 57) (s 57) 4200 (300 * k) j) (300 * k + (j : Int)) (cps (s 57) (s 57) 4200 (300 * k) j (4200 + (j : Int))) = cps (s 57) (s 57) 4200 (300 * k) ((j + 1 : Nat) : Int)
          exact cps_k k0 k1 (by omega) (by omega)
        by_cases c56 : a = 56
        · subst c56
          show ud (cps (s 56) (s 56) 4200 (300 * k) j) (300 * k + (j : Int)) (cps (s 56) (s 56) 4200 (300 * k) j (4200 + (j : Int))) = cps (s 56) (s 56) 4200 (300 * k) ((j + 1 : Nat) : Int)
          exact cps_k k0 k1 (by omega) (by omega)
        unfold kpS
        rw [uf, up_ne c58, uf, up_ne c57, uf, up_ne c56, up_ne c58, up_ne c57, up_ne c56, up_ne c58, up_ne c57, up_ne c56]
      have := ih (j + 1) (by omega)
      rw [← key] at this
      exact this
  have w0 := W n 0 (by omega)
  have e0 : kpS s k ((0 : Nat) : Int) = s := by
    have z : ∀ g : Int → Int, cps g g 4200 (300 * k) ((0 : Nat) : Int) = g := fun g => by
      funext x
      unfold cps
      rw [if_neg (by omega)]
    unfold kpS
    rw [z, z, z, up_same, up_same, up_same]
  rw [e0] at w0
  exact w0
/-- the code that is kept -/
theorem rCode_k {s1 s' : Nat → Int → Int} {k : Int} {c : C3} (k0 : 0 ≤ k) (k1 : k ≤ 13) (hl : c.length ≤ 299) (h56 : s' 56 = kpS s1 k c.length 56) (h57 : s' 57 = kpS s1 k c.length 57) (h58 : s' 58 = kpS s1 k c.length 58) (h59 : s' 59 k = c.length) (hg : sgR (shf (s1 56)) (shf (s1 57)) 0 (pr2 c)) (hgl : glR (shf (s1 58)) 0 c) : rCode s' k (cdO c) := by
  refine ⟨h59, fun j hj => ?_⟩
  have hj' : j < c.length := hj
  have g1 := sgR_at (pr2 c) 0 j hg (by rw [pr2_len]; exact hj')
  rw [Nat.zero_add, pr2_at c j hj'] at g1
  have cp3 : ∀ g : Int → Int, cps g g 4200 (300 * k) (c.length : Int) (300 * k + (j : Int)) = shf g j := fun g => by
    unfold cps shf
    rw [if_pos (by omega)]
    congr 1
    omega
  refine ⟨?_, ?_, fun z => ?_⟩
  · rw [h56]
    show cps (s1 56) (s1 56) 4200 (300 * k) (c.length : Int) (300 * k + (j : Int)) = (c.getD ((j : Int)).toNat (0, 0, 0)).1
    rw [cp3, g1.1, Int.toNat_natCast]
  · rw [h57]
    show cps (s1 57) (s1 57) 4200 (300 * k) (c.length : Int) (300 * k + (j : Int)) = (c.getD ((j : Int)).toNat (0, 0, 0)).2.1
    rw [cp3, g1.2, Int.toNat_natCast]
  · have z' : (c.getD ((j : Int)).toNat (0, 0, 0)).1 = 23 := z
    rw [Int.toNat_natCast] at z'
    have g2 := glR_at c 0 j hgl hj' z'
    rw [Nat.zero_add] at g2
    rw [h58]
    show cps (s1 58) (s1 58) 4200 (300 * k) (c.length : Int) (300 * k + (j : Int)) = (c.getD ((j : Int)).toNat (0, 0, 0)).2.2
    rw [cp3, g2, Int.toNat_natCast]
/-- the reference's rule -/
theorem rRule (hx : rTx T L s) {R : PR} (hR : pE (lxC T L) (lxE T L) (lxN T L) true 8 0 = R)
    (h1 : R.1 = true → lxC T L R.2.1 = 0 → ∀ s', frQ s s' → s' 59 14 = R.2.2.length → sgR (shf (s' 56)) (shf (s' 57)) 0 R.2.2 → (if s 54 13 = 8 then Q (some (vi (-3))) (PS h (uf s' 54 1 0) r) else rcv (PS h (uf s' 54 1 0) r) 54 11 (cz G mX11_keep (d + 5) 0 0 [vo 54, vi (w32 (6 + s 54 13))] (PS h (uf s' 54 1 0) r) (fun v h7 => atV v (rdI h7 54 11 13 (fun f8 => wrF h7 54 11 13 (.int) (vi (w32 (f8 + 1))) (fun h9 => rdI h9 54 11 13 (fun f10 => Q (some (vi (w32 (f10 - 1)))) h9))))))))
    (h0 : ¬ (R.1 = true ∧ lxC T L R.2.1 = 0) → ∀ s', frQ s s' → Q (some (vi (w32 (-10 - ((lxP T L R.2.1 : Nat) : Int))))) (PS h (uf s' 54 1 0) r)) : cz G mX11_rule (d + 6) 0 0 [vo 54] (PS h s r) Q := by
  have ha : adv (lxC T L) (lxE T L) L := lx_adv hx.2.1 hx.2.2.2
  have hL := hx.2.1
  refine vX11_rule (d := d + 5) ?_
  rw [rc_54]
  refine rBegin (d := d + 1) hx (fun s1 f1 t1 w1 n1 => ?_)
  rw [atV_q, rc_54]
  have hRo := pE_ok (V := lxN T L) (ru := true) ha 8 0 (Nat.zero_le _)
  show cz G mX11_expression (d + 5) 0 0 [vo 54, vi (wI true)] (PS h s1 r) _
  refine sX11_expression (d := d + 1) (o := []) (ru := true) (rTx_Q f1 hx) (Nat.zero_le _) t1 w1 n1 trivial (Nat.le_refl _) (fun s2 f2 t2 g2 b2 => ?_)
  rw [hR] at t2 g2 b2 hRo
  rw [atV_q, ri_54_14]
  have f12 : frQ s s2 := frQ_tr f1 (frQ_U f2)
  have lxp := lxP_le (T := T) (L := L) hRo.2.1
  have bad : s2 54 3 = (lxP T L R.2.1 : Nat) → ¬ (R.1 = true ∧ lxC T L R.2.1 = 0) → pX11_rule_29 G (d + 5) 54 1 (some 54) (PS h s2 r) Q := by
    intro h3 hn
    refine vX11_rule_29 ?_
    rw [nnR_q, wb_54_14_1, rc_54]
    refine rEnd0 (p := lxP T L R.2.1) rfl h3 ?_
    rw [atI_q, if_neg (by rw [w32_id] <;> omega)]
    exact h0 hn _ (frQ_tr f12 (frQ_54 (by decide)))
  cases hRb : R.1 with
  | true =>
    obtain ⟨q1, q2, q3⟩ := g2 hRb
    rw [q1, if_pos rfl, ri_54_2]
    by_cases c0 : lxC T L R.2.1 = 0
    · rw [if_pos ((TK_0 t2.2.2.2).mpr c0)]
      refine vX11_rule_29 ?_
      rw [nnR_q, wb_54_14_0, uf_same q1, rc_54]
      refine rEnd1 q1 ?_
      rw [atI_q, if_pos (by decide), ri_54_13, show uf s2 54 1 0 54 13 = s2 54 13 from rfl, f12.2.1 13 (by decide) (by decide) (by decide) (by decide) (by decide) (by decide) (by decide)]
      have := h1 hRb c0 s2 f12 q2 q3
      by_cases c8 : s 54 13 = 8
      · rw [if_pos c8] at this ⊢; exact this
      · rw [if_neg c8] at this ⊢
        rw [ri_54_13, show uf s2 54 1 0 54 13 = s2 54 13 from rfl, f12.2.1 13 (by decide) (by decide) (by decide) (by decide) (by decide) (by decide) (by decide)]
        exact this
    · rw [if_neg (fun z => c0 ((TK_0 t2.2.2.2).mp z))]
      exact bad t2.1 (fun z => c0 z.2)
  | false =>
    obtain ⟨q1, q2⟩ := b2 hRb
    rw [q1, if_neg (by decide)]
    exact bad t2.1 (fun z => by rw [hRb] at z; cases z.1)
end RU
