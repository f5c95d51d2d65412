/-! RULE: both -/
def eK (k : Int) (a : Nat) (j : Int) : Prop := eP a j ∨ ((a = 56 ∨ a = 57 ∨ a = 58) ∧ 300 * k ≤ j ∧ j < 300 * k + 300) ∨ (a = 59 ∧ j = k) ∨ (a = 16 ∧ j = 10) ∨ (a = 54 ∧ j = 13) ∨ a = 60 ∨ a = 61
theorem scE_w {k : Int} {s s' : Nat → Int → Int} (h : scE eP s s') : scE (eK k) s s' := fun a j x y => h a j x (fun z => y (Or.inl z))
theorem scE_kp {k : Int} {n : Nat} {s : Nat → Int → Int} (hn : n ≤ 300) : scE (eK k) s (kpS s k n) := by
  intro a j x y
  unfold kpS
  have hj : a = 56 ∨ a = 57 ∨ a = 58 → ¬ (300 * k ≤ j ∧ j < 300 * k + n) := fun z w => y (Or.inr (Or.inl ⟨z, by omega, by omega⟩))
  by_cases c58 : a = 58
  · subst c58
    show cps (s 58) (s 58) 4200 (300 * k) n j = s 58 j
    unfold cps
    rw [if_neg (hj (by omega))]
  by_cases c57 : a = 57
  · subst c57
    show cps (s 57) (s 57) 4200 (300 * k) n j = s 57 j
    unfold cps
    rw [if_neg (hj (by omega))]
  by_cases c56 : a = 56
  · subst c56
    show cps (s 56) (s 56) 4200 (300 * k) n j = s 56 j
    unfold cps
    rw [if_neg (hj (by omega))]
  rw [up_ne c58, up_ne c57, up_ne c56]
theorem rC_K {k k' : Int} {s s' : Nat → Int → Int} {c : Cd} (hs : scE (eK k) s s') (k0 : 0 ≤ k') (k1 : k' ≤ 13) (hne : k' ≠ k) (hc : c.1 ≤ 300) (hr : rCode s k' c) : rCode s' k' c := by
  refine rCode_lo hc (fun j j0 j1 => ⟨hs 56 j (by unfold pers psA; omega) ?_, hs 57 j (by unfold pers psA; omega) ?_, hs 58 j (by unfold pers psA; omega) ?_⟩) (hs 59 k' (by unfold pers psA; omega) ?_) hr
  · unfold eK eP; omega
  · unfold eK eP; omega
  · unfold eK eP; omega
  · unfold eK eP; omega
theorem J_K {k : Int} {h h' : az_H} {s s' : Nat → Int → Int} {r r' : Nat → Int → Option Nat} {cs cs' : Int → Option Cd} {hk : Int → Option (Int × Int)} {ru ru' : Int → Cd} (hs : scE (eK k) s s') (hxx : hx h h') (nH : jH h') (r42 : r' 42 = r 42) (nC : CEnv h' r' cs' hk) (nR : REnv s' cs' hk) (nT : jT s') (nL : jL h' s' r' cs') (nRu : jR h' s' r' ru') (nM : jM s') (hj : J h s r cs hk ru) : J h' s' r' cs' hk ru' := by
  obtain ⟨a1, a2, a3, a4, a5, a6, a7, a8, a9, a10, a11, a12, a13⟩ := hj
  have e : ∀ a, (∀ j, pers a j ∧ ¬ eK k a j) → s' a = s a := fun a x => funext (fun j => hs a j (x j).1 (x j).2)
  have c10 : jC h' s' r' := by
    have := jC_x a1 hxx (jC_e (hs 35 4 (by unfold pers psA psK; omega) (by unfold eK eP; omega)) (hs 54 40 (by unfold pers psA psK; omega) (by unfold eK eP; omega)) (e 76 (fun j => ⟨by unfold pers psA; omega, by unfold eK eP; omega⟩)) (e 77 (fun j => ⟨by unfold pers psA; omega, by unfold eK eP; omega⟩)) (e 78 (fun j => ⟨by unfold pers psA; omega, by unfold eK eP; omega⟩)) (e 79 (fun j => ⟨by unfold pers psA; omega, by unfold eK eP; omega⟩)) a10)
    unfold jC at this ⊢
    rw [r42]
    exact this
  exact ⟨nH, nC, nR, nT, nL, nRu, jA_e (e 25 (fun j => ⟨by unfold pers psA; omega, by unfold eK eP; omega⟩)) (e 66 (fun j => ⟨by unfold pers psA; omega, by unfold eK eP; omega⟩)) a7, nM, jS_e (e 53 (fun j => ⟨by unfold pers psA; omega, by unfold eK eP; omega⟩)) (e 65 (fun j => ⟨by unfold pers psA; omega, by unfold eK eP; omega⟩)) (hs 16 11 (by unfold pers psA psK; omega) (by unfold eK eP; omega)) (hs 54 27 (by unfold pers psA psK; omega) (by unfold eK eP; omega)) a9, c10, jW_e (hs 48 3 (by unfold pers psA psK; omega) (by unfold eK eP; omega)) (hs 54 45 (by unfold pers psA psK; omega) (by unfold eK eP; omega)) (hs 54 40 (by unfold pers psA psK; omega) (by unfold eK eP; omega)) (e 50 (fun j => ⟨by unfold pers psA; omega, by unfold eK eP; omega⟩)) (e 80 (fun j => ⟨by unfold pers psA; omega, by unfold eK eP; omega⟩)) (e 49 (fun j => ⟨by unfold pers psA; omega, by unfold eK eP; omega⟩)) (e 81 (fun j => ⟨by unfold pers psA; omega, by unfold eK eP; omega⟩)) a11, jK_e (hs 45 3 (by unfold pers psA psK; omega) (by unfold eK eP; omega)) (hs 54 50 (by unfold pers psA psK; omega) (by unfold eK eP; omega)) (hs 54 40 (by unfold pers psA psK; omega) (by unfold eK eP; omega)) (e 47 (fun j => ⟨by unfold pers psA; omega, by unfold eK eP; omega⟩)) (e 83 (fun j => ⟨by unfold pers psA; omega, by unfold eK eP; omega⟩)) (e 46 (fun j => ⟨by unfold pers psA; omega, by unfold eK eP; omega⟩)) (e 84 (fun j => ⟨by unfold pers psA; omega, by unfold eK eP; omega⟩)) a12, jE_e (hs 35 5 (by unfold pers psA psK; omega) (by unfold eK eP; omega)) (hs 54 53 (by unfold pers psA psK; omega) (by unfold eK eP; omega)) a13⟩
theorem jT_0 {s : Nat → Int → Int} (h1 : s 17 1 = 0) (h2 : s 54 1 = 0) : jT s := ⟨by rw [h1, h2], by rw [h2]; omega, fun i i0 i1 => by rw [h2] at i1; omega⟩
theorem Tx_J {s : Nat → Int → Int} (hT : jT s) : ∃ L : Nat, s 54 1 = L ∧ cTx (s 55) L s ∧ rTx (s 55) L s := by
  obtain ⟨t1, t2, t3⟩ := hT
  obtain ⟨L, hL⟩ : ∃ L : Nat, s 54 1 = L := ⟨(s 54 1).toNat, by omega⟩
  rw [hL] at t1 t2 t3
  exact ⟨L, hL, ⟨t1, by omega, fun i i0 i1 => (t3 i i0 i1).1, fun i i0 i1 => (t3 i i0 i1).2⟩, ⟨hL, by omega, fun _ _ _ => rfl, fun i i0 i1 => (t3 i i0 i1).2⟩⟩
/-- a rule's code -/
theorem rule_wf {T : Int → Int} {L : Nat} {R : PR} (hR : pE (lxC T L) (lxE T L) (lxN T L) true 8 0 = R) (cR : R.1 = true) (hl : R.2.2.length ≤ 208) : wfR (cdO (e3 R.2.2)) ∧ cp (cdO (e3 R.2.2)).2.1 (cdO (e3 R.2.2)).1 = (R.2.2.map tau).length ∧ ∀ (OC AC : Int → Int), sgR OC AC 0 (R.2.2.map tau) → ∀ j, j < (cdO (e3 R.2.2)).1 → cIns OC AC (cdO (e3 R.2.2)) j := by
  have hw := w_E (C := lxC T L) (X := lxE T L) (V := lxN T L) (ru := true) 8 0 0 (by rw [hR]; exact cR) (by decide)
  rw [hR] at hw
  have h18 := pE_w (C := lxC T L) (X := lxE T L) (V := lxN T L) (ru := true) 8 0
  rw [hR] at h18
  have key := fun OC AC hs => EL (O := fO (e3 R.2.2)) (A := fA (e3 R.2.2)) (Gf := fG (e3 R.2.2)) (OC := OC) (AC := AC) (N := (e3 R.2.2).length) R.2.2 0 1 0 0 hw (mt3_0 _) hs rfl rfl (by decide)
  have hex : ∃ OC AC : Int → Int, sgR OC AC 0 (R.2.2.map tau) := by
    have gen : ∀ (c a : C2), sgR (fun i => ((a ++ c).getD i.toNat (0, 0)).1) (fun i => ((a ++ c).getD i.toNat (0, 0)).2) a.length c := by
      intro c
      induction c with
      | nil => intro a; trivial
      | cons p c ih =>
        intro a
        have h := ih (a ++ [p])
        rw [List.append_assoc, List.length_append, List.length_singleton] at h
        have e : (a ++ p :: c).getD ((a.length : Int)).toNat (0, 0) = p := by
          rw [Int.toNat_natCast, List.getD_eq_getElem?_getD, List.getElem?_append_right (Nat.le_refl _), Nat.sub_self]
          rfl
        exact ⟨by show ((a ++ p :: c).getD ((a.length : Int)).toNat (0, 0)).1 = p.1; rw [e], by show ((a ++ p :: c).getD ((a.length : Int)).toNat (0, 0)).2 = p.2; rw [e], h⟩
    exact ⟨_, _, gen (R.2.2.map tau) []⟩
  obtain ⟨OC, AC, hs⟩ := hex
  have k1 := key OC AC hs
  rw [Nat.zero_add] at k1
  have len : (e3 R.2.2).length = R.2.2.length := e3_len _
  refine ⟨⟨⟨by show (e3 R.2.2).length ≤ 300; omega, dpc (fO (e3 R.2.2)), rfl, ?_, fun j hj => ?_⟩, fun j hj => ?_⟩, ?_, fun OC AC hs j hj => ?_⟩
  · show dpc (fO (e3 R.2.2)) (e3 R.2.2).length = 1
    rw [len]; exact k1.2.1
  · have hj' : j < (e3 R.2.2).length := hj
    have := k1.1 j (Nat.zero_le _) (by omega)
    exact ⟨this.1, this.2.1⟩
  · have hj' : j < (e3 R.2.2).length := hj
    show ((e3 R.2.2).getD ((j : Int)).toNat (0, 0, 0)).1 < 20
    rw [Int.toNat_natCast, List.getD_eq_getElem?_getD, List.getElem?_eq_getElem hj']
    have hm : (e3 R.2.2)[j] ∈ e3 R.2.2 := List.getElem_mem _
    obtain ⟨p, hp, he⟩ := List.mem_map.mp hm
    have := h18 p hp
    show ((e3 R.2.2)[j]).1 < 20
    rw [← he]
    show p.1 < 20
    omega
  · show cp (fO (e3 R.2.2)) (e3 R.2.2).length = (R.2.2.map tau).length
    rw [len, List.length_map]; exact k1.2.2
  · have hj' : j < (e3 R.2.2).length := hj
    have := (key OC AC hs).1 j (Nat.zero_le _) (by omega)
    exact this.2.2
section SR2
variable {G : az_G} {D : Nat} {xs : List Int}
theorem st_rule : stp xs (Inv xs) G (D + 60) 3 421 mX10_rule mX11_rule [] := by
  refine stp_i (fun h s r cs hk ru hc hJ => ?_)
  obtain ⟨a1, a2, a3, a4, a5, a6, a7, a8, a9, a10, a11, a12, a13⟩ := hJ
  have hJ : J h s r cs hk ru := ⟨a1, a2, a3, a4, a5, a6, a7, a8, a9, a10, a11, a12, a13⟩
  obtain ⟨L, hL1, hcx, hrx⟩ := Tx_J a4
  have hL := hcx.2.1
  have h8 := a6.2.1
  have ha : adv (lxC (s 55) L) (lxE (s 55) L) L := lx_adv hL hcx.2.2.2
  obtain ⟨R, hR⟩ : ∃ R, pE (lxC (s 55) L) (lxE (s 55) L) (lxN (s 55) L) true 8 0 = R := ⟨_, rfl⟩
  have hRo := pE_ok (V := lxN (s 55) L) (ru := true) ha 8 0 (Nat.zero_le _)
  rw [hR] at hRo
  have lxp := lxP_le (T := s 55) (L := L) hRo.2.1
  have jMf : ∀ s' : Nat → Int → Int, s' 24 = s 24 → s' 69 = s 69 → s' 22 = s 22 → s' 54 29 = s 54 29 → jM s' := fun s' e1 e2 e3 e4 => jM_e e1 e2 (by rw [e3]) e4 a8
  refine vX10_rule (d := D + 59) ?_
  rw [ro_16_1, rc_19]
  refine cReadRule (d := D + 5) (T := s 55) (L := L) (fun s' => strs_c hc) hcx a1.1 hR (fun cR c0 s1 lv f1 t1 g1 => ?_) (fun hn s1 f1 t1 => ?_)
  rotate_left
  · -- a fault
    rw [atR_q]
    refine cDrop (d := D + 58) (K := fun r6 h11 => aft xs G (D + 60) mX11_rule [] (some (vi (w32 (((-10)) - r6)))) h11) t1.1 (f1.2.trans hcx.1) hL ?_
    have e54 : ∀ a, 54 ≤ a → uf s1 17 1 0 a = s a := fun a ha => by rw [uf, up_ne (by omega)]; exact f1.1 a (by omega) (by omega) (by omega) (by omega)
    have hrx1 : rTx (s 55) L (uf s1 17 1 0) := by
      unfold rTx
      rw [e54 54 (by decide), e54 55 (by decide)]
      exact hrx
    refine aft_i hc (rRule (d := D + 54) hrx1 hR (fun cR c0 => absurd ⟨cR, c0⟩ hn) (fun _ s2 f2 => ?_))
    refine fin_i rfl (J_P (scE_tr (scE_G f1) (scE_tr scE_17 (scE_tr (scE_Q f2) scE_541))) (jT_0 ?_ rfl) (jMf _ ?_ ?_ ?_ ?_) hJ)
    · show s2 17 1 = 0
      rw [f2.1 17 (by decide) (by decide) (by decide) (by decide) (by decide) (by decide) (by decide)]; rfl
    · show s2 24 = s 24
      rw [f2.1 24 (by decide) (by decide) (by decide) (by decide) (by decide) (by decide) (by decide)]
      exact f1.1 24 (by decide) (by decide) (by decide) (by decide)
    · show s2 69 = s 69
      rw [f2.1 69 (by decide) (by decide) (by decide) (by decide) (by decide) (by decide) (by decide)]
      exact f1.1 69 (by decide) (by decide) (by decide) (by decide)
    · show s2 22 = s 22
      rw [f2.1 22 (by decide) (by decide) (by decide) (by decide) (by decide) (by decide) (by decide)]
      exact f1.1 22 (by decide) (by decide) (by decide) (by decide)
    · show s2 54 29 = s 54 29
      rw [f2.2.1 29 (by decide) (by decide) (by decide) (by decide) (by decide) (by decide) (by decide), e54 54 (by decide)]
  · -- a rule
    have h4 := hRo.2.2 cR
    have hln : R.2.2.length ≤ 208 := by omega
    obtain ⟨wf, hcp, hins⟩ := rule_wf hR cR hln
    have hln2 : (R.2.2.map tau).length ≤ 208 := by rw [List.length_map]; exact hln
    have hcode := cCode_N (st := 0) (lv := lv) (c := cdO (e3 R.2.2)) a1 g1 hln2 hcp hins
    generalize hh' : hN3 h 0 lv ((R.2.2.map tau).length : Int) (rgm (R.2.2.map tau).length (s1 20)) (rgm (R.2.2.map tau).length (s1 21)) = h' at hcode ⊢
    have hxx : hx h h' := by rw [← hh']; exact hx_N3
    have nH : jH h' := by rw [← hh']; exact jH_N3 a1
    have hc' : ∀ i, i < 16 → h'.1 i = con0 xs i := by rw [← hh']; exact cst_N3 a1 hc
    rw [atR_q]
    refine cDrop (h := h') (d := D + 58) (K := fun r6 h11 => rdI h11 16 10 10 (fun f13 => (if f13 < 8 then rdO h11 16 10 7 (fun o14 => rdI h11 16 10 10 (fun f15 => stR h11 o14 "InvariantSearch$Code" 1 f15 (some h.2) (fun h16 => rdI h16 16 10 10 (fun f17 => wrF h16 16 10 10 (.int) (vi (w32 (f17 + 1))) (fun h18 => rdI h18 16 10 10 (fun f19 => aft xs G (D + 60) mX11_rule [] (some (vi (w32 (f19 - 1)))) h18)))))) else aft xs G (D + 60) mX11_rule [] (some (vi ((-3)))) h11))) t1.1 (f1.2.trans hcx.1) hL ?_
    have e16 : uf s1 17 1 0 16 = s 16 := by rw [uf, up_ne (by decide)]; exact f1.1 16 (by decide) (by decide) (by decide) (by decide)
    rw [ri_16_10, e16, a6.1]
    have e54 : ∀ a, 54 ≤ a → uf s1 17 1 0 a = s a := fun a ha => by rw [uf, up_ne (by omega)]; exact f1.1 a (by omega) (by omega) (by omega) (by omega)
    by_cases c8 : s 54 13 < 8
    rotate_left
    · rw [if_neg c8]
      have hrx1 : rTx (s 55) L (uf s1 17 1 0) := by
        unfold rTx
        rw [e54 54 (by decide), e54 55 (by decide)]
        exact hrx
      refine aft_i hc' (rRule (d := D + 54) hrx1 hR (fun _ _ s2 f2 n2 g2 => ?_) (fun hn => absurd ⟨cR, c0⟩ hn))
      rw [e54 54 (by decide), if_pos (by omega)]
      refine fin_i rfl (J_x hxx nH (J_P (scE_tr (scE_G f1) (scE_tr scE_17 (scE_tr (scE_Q f2) scE_541))) (jT_0 ?_ rfl) (jMf _ ?_ ?_ ?_ ?_) hJ))
      · show s2 17 1 = 0
        rw [f2.1 17 (by decide) (by decide) (by decide) (by decide) (by decide) (by decide) (by decide)]; rfl
      · show s2 24 = s 24
        rw [f2.1 24 (by decide) (by decide) (by decide) (by decide) (by decide) (by decide) (by decide)]
        exact f1.1 24 (by decide) (by decide) (by decide) (by decide)
      · show s2 69 = s 69
        rw [f2.1 69 (by decide) (by decide) (by decide) (by decide) (by decide) (by decide) (by decide)]
        exact f1.1 69 (by decide) (by decide) (by decide) (by decide)
      · show s2 22 = s 22
        rw [f2.1 22 (by decide) (by decide) (by decide) (by decide) (by decide) (by decide) (by decide)]
        exact f1.1 22 (by decide) (by decide) (by decide) (by decide)
      · show s2 54 29 = s 54 29
        rw [f2.2.1 29 (by decide) (by decide) (by decide) (by decide) (by decide) (by decide) (by decide), e54 54 (by decide)]
    · rw [if_pos c8, ro_16_7, ri_16_10, e16, a6.1, sr_51]
      refine ⟨fun c0' hc0 => ?_, h8.1, c8, ?_⟩
      · have := Option.some.inj hc0
        subst this
        exact ⟨[vi 0, vi lv, vi ((R.2.2.map tau).length : Int), vo (h.2 + 1), vo (h.2 + 1 + 1)], (PS_out a1.1).trans (by rw [← hh']; exact at_p2)⟩
      rw [ri_16_10, e16, a6.1, wi_16_10, ri_16_10, show w32 (s 54 13 + 1) = s 54 13 + 1 by rw [w32_id] <;> omega, show uf (uf s1 17 1 0) 16 10 (s 54 13 + 1) 16 10 = s 54 13 + 1 from rfl, show w32 (s 54 13 + 1 - 1) = s 54 13 by rw [w32_id] <;> omega]
      have e54' : ∀ a, 54 ≤ a → uf (uf s1 17 1 0) 16 10 (s 54 13 + 1) a = s a := fun a ha => by rw [uf, up_ne (by omega)]; exact e54 a ha
      have hrx1 : rTx (s 55) L (uf (uf s1 17 1 0) 16 10 (s 54 13 + 1)) := by
        unfold rTx
        rw [e54' 54 (by decide), e54' 55 (by decide)]
        exact hrx
      refine aft_i hc' (rRule (d := D + 54) hrx1 hR (fun _ _ s2 f2 n2 g2 => ?_) (fun hn => absurd ⟨cR, c0⟩ hn))
      rw [e54' 54 (by decide), if_neg (by omega), rc_54, show w32 (6 + s 54 13) = 6 + s 54 13 by rw [w32_id] <;> omega]
      have z13 : s2 54 13 = s 54 13 := by rw [f2.2.1 13 (by decide) (by decide) (by decide) (by decide) (by decide) (by decide) (by decide), e54' 54 (by decide)]
      refine rKeep (k := 6 + s 54 13) (n := R.2.2.length) (by omega) (by omega) n2 (by omega) ?_
      rw [atV_q, ri_54_13, wi_54_13, ri_54_13, show uf (kpS (uf s2 54 1 0) (6 + s 54 13) (R.2.2.length : Int)) 59 (6 + s 54 13) (R.2.2.length : Int) 54 13 = s2 54 13 from rfl, z13, show w32 (s 54 13 + 1) = s 54 13 + 1 by rw [w32_id] <;> omega, show uf (uf (kpS (uf s2 54 1 0) (6 + s 54 13) (R.2.2.length : Int)) 59 (6 + s 54 13) (R.2.2.length : Int)) 54 13 (s 54 13 + 1) 54 13 = s 54 13 + 1 from rfl, show w32 (s 54 13 + 1 - 1) = s 54 13 by rw [w32_id] <;> omega]
      generalize hs' : uf (uf (kpS (uf s2 54 1 0) (6 + s 54 13) (R.2.2.length : Int)) 59 (6 + s 54 13) (R.2.2.length : Int)) 54 13 (s 54 13 + 1) = s'
      have hsc : scE (eK (6 + s 54 13)) s s' := by
        rw [← hs']
        exact scE_tr (scE_w (scE_tr (scE_G f1) scE_17)) (scE_tr (scE_uf (fun _ => Or.inr (Or.inr (Or.inr (Or.inl ⟨rfl, rfl⟩))))) (scE_tr (scE_w (scE_tr (scE_Q f2) scE_541)) (scE_tr (scE_kp (by omega)) (scE_tr (scE_uf (fun _ => Or.inr (Or.inr (Or.inl ⟨rfl, rfl⟩)))) (scE_uf (fun _ => Or.inr (Or.inr (Or.inr (Or.inr (Or.inl ⟨rfl, rfl⟩))))))))))
      have lo : ∀ a, a ≤ 53 → s' a = s2 a := fun a ha => by
        rw [← hs', uf, up_ne (by omega), uf, up_ne (by omega)]
        unfold kpS
        rw [up_ne (by omega), up_ne (by omega), up_ne (by omega), uf, up_ne (by omega)]
      have lo2 : ∀ a, a ≤ 53 → a ≠ 16 → a ≠ 17 → a ≠ 19 → a ≠ 20 → a ≠ 21 → s' a = s a := fun a ha x1 x2 x3 x4 x5 => by
        rw [lo a ha, f2.1 a (by omega) (by omega) (by omega) (by omega) (by omega) (by omega) (by omega), uf, up_ne x1, uf, up_ne x2]
        exact f1.1 a x2 x3 x4 x5
      have rnew : rCode s' (6 + s 54 13) (cdO (e3 R.2.2)) := by
        refine rCode_k (s1 := uf s2 54 1 0) (by omega) (by omega) (by rw [e3_len]; omega) ?_ ?_ ?_ ?_ ?_ ?_
        · rw [← hs', e3_len]; rfl
        · rw [← hs', e3_len]; rfl
        · rw [← hs', e3_len]; rfl
        · rw [← hs', e3_len]; exact ud_at
        · rw [pr2_e3]; exact g2
        · refine glR_e3 _ _ (fun p hp => ?_)
          have h18 := pE_w (C := lxC (s 55) L) (X := lxE (s 55) L) (V := lxN (s 55) L) (ru := true) 8 0
          rw [hR] at h18
          have := h18 p hp
          omega
      have e13 : s' 54 13 = s 54 13 + 1 := by rw [← hs']; rfl
      have e1610 : s' 16 10 = s 54 13 + 1 := by
        rw [lo 16 (by decide), f2.1 16 (by decide) (by decide) (by decide) (by decide) (by decide) (by decide) (by decide)]; rfl
      have e61 : s' 61 = s 61 := funext (fun j => by rw [← hs']; show s2 61 j = s 61 j; rw [f2.1 61 (by decide) (by decide) (by decide) (by decide) (by decide) (by decide) (by decide), e54' 61 (by decide)])
      have e60 : s' 60 = s 60 := funext (fun j => by rw [← hs']; show s2 60 j = s 60 j; rw [f2.1 60 (by decide) (by decide) (by decide) (by decide) (by decide) (by decide) (by decide), e54' 60 (by decide)])
      have e69 : s' 69 = s 69 := funext (fun j => by rw [← hs']; show s2 69 j = s 69 j; rw [f2.1 69 (by decide) (by decide) (by decide) (by decide) (by decide) (by decide) (by decide), e54' 69 (by decide)])
      have e67 : s' 67 = s 67 := funext (fun j => hsc 67 j (by unfold pers psA; omega) (by unfold eK eP; omega))
      have e68 : s' 68 = s 68 := funext (fun j => hsc 68 j (by unfold pers psA; omega) (by unfold eK eP; omega))
      refine ⟨rfl, s', cs, hk, ud ru (s 54 13) (cdO (e3 R.2.2)), rfl, J_K (r := r) (r' := uq r 51 (s 54 13) (some h.2)) (cs := cs) (ru := ru) hsc hxx nH rfl (show CEnv h' (uq r 51 (s 54 13) (some h.2)) cs hk from CEnv_x a1 hxx a2) ⟨fun k k0 k1 => ⟨fun z => ?_, fun c hcc => ?_⟩, fun i i0 i1 => ⟨fun z => ?_, fun q hq => ?_⟩⟩ (jT_0 ?_ ?_) (show jL h' s' (uq r 51 (s 54 13) (some h.2)) cs from jL_e e60 (jL_x a1 hxx a5)) ⟨by rw [e1610, e13], by rw [e13]; omega, fun i i0 i1 => ?_⟩ (jMf s' (lo2 24 (by decide) (by decide) (by decide) (by decide) (by decide) (by decide)) e69 (lo2 22 (by decide) (by decide) (by decide) (by decide) (by decide) (by decide)) ?_) hJ⟩
      · rw [e61]; exact (a3.1 k k0 k1).1 z
      · obtain ⟨q1, q2, q3⟩ := (a3.1 k k0 k1).2 c hcc
        rw [e61]
        exact ⟨q1, rC_K hsc k0 (by omega) (by omega) q3.1 q2, q3⟩
      · rw [e67]; exact (a3.2 i i0 i1).1 z
      · rw [e67, e68]; exact (a3.2 i i0 i1).2 q hq
      · rw [lo 17 (by decide), f2.1 17 (by decide) (by decide) (by decide) (by decide) (by decide) (by decide) (by decide)]; rfl
      · rw [← hs']; rfl
      · rw [e13] at i1
        by_cases ci : i = s 54 13
        · subst ci
          rw [ud_at]
          refine ⟨wf, rnew, h.2, lv, ?_, hcode⟩
          show (if (51 : Nat) = 51 then ud (r 51) (s 54 13) (some h.2) else r 51) (s 54 13) = some h.2
          rw [if_pos rfl, ud_at]
        · obtain ⟨q1, q2, b, lv', q3, q4⟩ := a6.2.2 i i0 (by omega)
          rw [ud_ne ci]
          refine ⟨q1, rC_K hsc (by omega) (by omega) (by omega) q1.1.1 q2, b, lv', ?_, cCode_x a1 hxx q4⟩
          show (if (51 : Nat) = 51 then ud (r 51) (s 54 13) (some h.2) else r 51) i = some b
          rw [if_pos rfl, ud_ne ci]
          exact q3
      · rw [← hs']
        show s2 54 29 = s 54 29
        rw [f2.2.1 29 (by decide) (by decide) (by decide) (by decide) (by decide) (by decide) (by decide), e54' 54 (by decide)]
end SR2
