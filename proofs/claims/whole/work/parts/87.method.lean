/-! METHOD: the reference -/
def zr (g : Int → Int) (a n : Int) : Int → Int := fun i => if a ≤ i ∧ i < a + n then 0 else g i
def mtS (s : Nat → Int → Int) (k : Int) (n lp : Nat) : Nat → Int → Int := uf (uf (uf (kpS (uf s 54 1 0) k n) 59 k n) 61 k 1) 60 k (2 * (lp : Int))
section RM
variable {h : az_H} {s : Nat → Int → Int} {r : Nat → Int → Option Nat} {G : az_G} {d : Nat} {Q : Option az_V → az_H → Prop} {T : Int → Int} {L : Nat}
theorem rClear {k v : Int} (k0 : 0 ≤ k) (k1 : k ≤ 5) (hv : s 54 18 = v) (hq : Q (some (vi v)) (PS h (up s 69 (zr (s 69) (24 * k) 24)) r)) : pX11_method_159 G d 54 k (24 * k) (PS h s r) Q := by
  have h24 : w32 (w32 (24 * k) + 24) = 24 * k + 24 := by
    rw [show w32 (24 * k) = 24 * k by rw [w32_id] <;> omega]
    rw [w32_id] <;> omega
  have W : ∀ (f j : Nat), 24 = j + f → pX11_method_159 G d 54 k (24 * k + (j : Int)) (PS h (up s 69 (zr (s 69) (24 * k) j)) r) Q := by
    intro f
    induction f with
    | zero =>
      intro j hj
      have : j = 24 := by omega
      subst this
      refine vX11_method_159 ?_
      rw [h24, if_pos (by omega), ri_54_18, show up s 69 (zr (s 69) (24 * k) ((24 : Nat) : Int)) 54 18 = s 54 18 from rfl, hv]
      exact hq
    | succ f ih =>
      intro j hj
      refine vX11_method_159 ?_
      rw [h24, if_neg (by omega), ro_54_28, st_69, show w32 (24 * k + (j : Int) + 1) = 24 * k + ((j + 1 : Nat) : Int) by clear h24; rw [w32_id] <;> omega]
      refine ⟨by omega, by omega, ?_⟩
      have key : uf (up s 69 (zr (s 69) (24 * k) (j : Int))) 69 (24 * k + (j : Int)) 0 = up s 69 (zr (s 69) (24 * k) ((j + 1 : Nat) : Int)) := by
        funext a
        by_cases c : a = 69
        · subst c
          show ud (zr (s 69) (24 * k) (j : Int)) (24 * k + (j : Int)) 0 = zr (s 69) (24 * k) ((j + 1 : Nat) : Int)
          funext x
          rw [ud_ap]
          unfold zr
          by_cases c1 : x = 24 * k + (j : Int)
          · rw [if_pos c1, if_pos (by omega)]
          · rw [if_neg c1]
            by_cases c2 : 24 * k ≤ x ∧ x < 24 * k + (j : Int)
            · rw [if_pos c2, if_pos (by omega)]
            · rw [if_neg c2, if_neg (by omega)]
        · rw [uf, up_ne c, up_ne c, up_ne c]
      rw [key]
      exact ih (j + 1) (by omega)
  have w0 := W 24 0 (by omega)
  have e0 : up s 69 (zr (s 69) (24 * k) ((0 : Nat) : Int)) = s := by
    have : zr (s 69) (24 * k) ((0 : Nat) : Int) = s 69 := by
      funext x
      unfold zr
      rw [if_neg (by omega)]
    rw [this, up_same]
  rw [e0, show 24 * k + ((0 : Nat) : Int) = 24 * k by omega] at w0
  exact w0
theorem rMethod (hx : rTx T L s) {k : Int} (k0 : 0 ≤ k) (k1 : k ≤ 5) {S : SR} (hS : pSS (lxC T L) (lxE T L) (lxN T L) 4 0 0 0 0 0 = S)
    (h1 : S.1 = true → lxC T L S.2.1 = 0 → ∀ s', frQ s s' → sgR (shf (s' 56)) (shf (s' 57)) 0 (pr2 S.2.2.2.2.1) → glR (shf (s' 58)) 0 S.2.2.2.2.1 → Q (some (vi (S.2.2.1 : Int))) (PS h (up (mtS s' k S.2.2.2.2.1.length S.2.2.2.1) 69 (zr (s' 69) (24 * k) 24)) r))
    (h0 : ¬ (S.1 = true ∧ lxC T L S.2.1 = 0) → ∀ s', frQ s s' → Q (some (vi (w32 (-10 - ((lxP T L S.2.1 : Nat) : Int))))) (PS h (uf s' 54 1 0) r)) : cz G mX11_method (d + 7) 0 0 [vo 54, vi k] (PS h s r) Q := by
  have ha : adv (lxC T L) (lxE T L) L := lx_adv hx.2.1 hx.2.2.2
  have hL := hx.2.1
  have hSo := pSS_ok (V := lxN T L) ha 4 0 0 0 0 0 (Nat.zero_le _) (by decide) (by decide)
  rw [hS] at hSo
  have lxp := lxP_le (T := T) (L := L) hSo.2.1
  refine vX11_method (d := d + 6) ?_
  refine sX11_in (fun _ _ => ?_) (fun c => absurd ⟨k0, k1⟩ c)
  rw [atI_q, if_neg (by decide), rc_54]
  refine rBegin (d := d + 2) hx (fun s1 f1 t1 w1 n1 => ?_)
  rw [atV_q, wi_54_18, wi_54_19, wi_54_21]
  generalize hs2 : uf (uf (uf s1 54 18 0) 54 19 0) 54 21 0 = s2
  have f2 : frQ s s2 := by
    rw [← hs2]
    exact frQ_tr f1 (frQ_tr (frQ_54 (by decide)) (frQ_tr (frQ_54 (by decide)) (frQ_54 (by decide))))
  have m2 : RM T L s2 0 0 0 [] 0 := by
    rw [← hs2]
    exact ⟨rTok_e (fun k k0 k1 => by show ud (ud (ud (s1 54) 18 0) 19 0) 21 0 k = s1 54 k; rw [ud_ne (by omega), ud_ne (by omega), ud_ne (by omega)]) t1, w1, rfl, rfl, rfl, n1, trivial, trivial⟩
  have bad : ∀ s', frQ s s' → rTok T L s' S.2.1 → s' 54 14 = 1 → ¬ (S.1 = true ∧ lxC T L S.2.1 = 0) → pX11_method_119 G (d + 6) 54 k (PS h s' r) Q := by
    intro s' f' t' w' hn
    refine vX11_method_119 ?_
    rw [rc_54]
    refine rEnd0 (p := lxP T L S.2.1) w' t'.1 ?_
    rw [atI_q, if_neg (by rw [w32_id] <;> omega)]
    exact h0 hn s' f'
  refine rSS (d := d) hL ha 4 (Nat.le_refl _) s2 0 0 0 0 [] S (rTx_Q f2 hx) (Nat.zero_le _) (by decide) (by decide) m2 (Nat.le_refl _) hS (fun cS ce s3 f3 _ m3 => ?_) (fun cS s3 f3 _ t3 w3 => bad s3 (frQ_tr f2 f3) t3 w3 (fun z => by rw [cS] at z; cases z.1))
  have f23 := frQ_tr f2 f3
  have h5 := hSo.2.2 cS
  rw [List.nil_append] at m3
  obtain ⟨b1, b2, b3, b4, b5, b6, b7, b8⟩ := m3
  have b5 : s3 54 19 = 0 := b5
  have t0' : s3 54 2 = 0 ↔ lxC T L S.2.1 = 0 := TK_0 b1.2.2.2
  have t125' : s3 54 2 = 125 ↔ lxC T L S.2.1 = 125 := TK_sg b1.2.2.2 (by decide)
  refine vX11_method_33 ?_
  rw [ri_54_14, b2, if_pos rfl, ri_54_2]
  by_cases c0 : lxC T L S.2.1 = 0
  · rw [if_pos (t0'.mpr c0), ri_54_19, b5, if_pos (Int.le_refl _)]
    refine vX11_method_119 ?_
    rw [rc_54]
    refine rEnd1 b2 ?_
    rw [atI_q, if_pos (Int.le_refl _), rc_54]
    refine rKeep (k := k) (n := S.2.2.2.2.1.length) k0 (by omega) b6 (by omega) ?_
    rw [atV_q, ro_54_12, st_61]
    refine ⟨k0, by omega, ?_⟩
    rw [ro_54_11, ri_54_21, show uf (uf (kpS (uf s3 54 1 0) k (S.2.2.2.2.1.length : Int)) 59 k (S.2.2.2.2.1.length : Int)) 61 k 1 54 21 = s3 54 21 from rfl, b4, st_60]
    refine ⟨k0, by omega, ?_⟩
    rw [show w32 (2 * (S.2.2.2.1 : Int)) = 2 * (S.2.2.2.1 : Int) by rw [w32_id] <;> omega, show w32 (24 * k) = 24 * k by rw [w32_id] <;> omega]
    exact rClear k0 k1 b3 (h1 cS c0 s3 f23 b7 b8)
  · have c125 : lxC T L S.2.1 = 125 := by
      rcases ce with y | y
      · exact absurd y c0
      · exact y
    rw [if_neg (fun z => c0 (t0'.mp z))]
    refine vX11_method_54 ?_
    rw [ri_54_2, if_pos (t125'.mpr c125), ri_54_19, b5, if_pos (Int.le_refl _), rc_54]
    refine rStmtS (d := d) (op := 0) (o := S.2.2.2.2.1) (k := 0) (n := 0) (m := 0) (inner := fun e _ _ _ _ => flS e) (rTx_Q f23 hx) hSo.2.1 h5.2.1 h5.2.2.1 ⟨b1, b2, b3, b4, b5, b6, b7, b8⟩ (by omega) (by omega) (pSt_0 (Or.inr c125)) (fun cS2 => by cases cS2) (fun _ s4 f4 e63' t4 w4 => ?_)
    rw [atV_q]
    exact r33W w4 (bad s4 (frQ_tr f23 f4) t4 w4 (fun z => c0 z.2))
end RM
/-- a method's code -/
theorem sg_ex (c2 : C2) : ∃ OC AC : Int → Int, sgR OC AC 0 c2 := by
  have gen : ∀ (c a : C2), sgR (fun i => ((a ++ c).getD i.toNat (0, 0)).1) (fun i => ((a ++ c).getD i.toNat (0, 0)).2) a.length c := by
    intro c
    induction c with
    | nil => intro a; trivial
    | cons p c ih =>
      intro a
      have h := ih (a ++ [p])
      rw [List.append_assoc, List.length_append, List.length_singleton] at h
      have e : (a ++ p :: c).getD ((a.length : Int)).toNat (0, 0) = p := by
        rw [Int.toNat_natCast, List.getD_eq_getElem?_getD, List.getElem?_append_right (Nat.le_refl _), Nat.sub_self]
        rfl
      exact ⟨by show ((a ++ p :: c).getD ((a.length : Int)).toNat (0, 0)).1 = p.1; rw [e], by show ((a ++ p :: c).getD ((a.length : Int)).toNat (0, 0)).2 = p.2; rw [e], h⟩
  exact ⟨_, _, gen c2 []⟩
theorem meth_wf {T : Int → Int} {L : Nat} (ha : adv (lxC T L) (lxE T L) L) {S : SR} (hS : pSS (lxC T L) (lxE T L) (lxN T L) 4 0 0 0 0 0 = S) (cS : S.1 = true) (hl : S.2.2.2.2.1.length ≤ 208) : wfC (cdO S.2.2.2.2.1) 0 ∧ cp (cdO S.2.2.2.2.1).2.1 (cdO S.2.2.2.2.1).1 = S.2.2.2.2.2.length ∧ ∀ (OC AC : Int → Int), sgR OC AC 0 S.2.2.2.2.2 → ∀ j, j < (cdO S.2.2.2.2.1).1 → cIns OC AC (cdO S.2.2.2.2.1) j := by
  have hw := w_SS (V := lxN T L) ha 4 0 0 0 0 0 (Nat.zero_le _) (by decide) (by decide) (by rw [hS]; exact cS)
  rw [hS] at hw
  have key := fun OC AC hs => hw (fO S.2.2.2.2.1) (fA S.2.2.2.2.1) (fG S.2.2.2.2.1) OC AC S.2.2.2.2.1.length (mt3_0 _) hs rfl rfl (by omega)
  obtain ⟨OC, AC, hs⟩ := sg_ex S.2.2.2.2.2
  have k1 := key OC AC hs
  rw [Nat.zero_add, Nat.zero_add] at k1
  refine ⟨⟨by show S.2.2.2.2.1.length ≤ 300; omega, dpc (fO S.2.2.2.2.1), rfl, k1.2.1, fun j hj => ?_⟩, k1.2.2, fun OC AC hs j hj => ?_⟩
  · have hj' : j < S.2.2.2.2.1.length := hj
    have := k1.1 j (Nat.zero_le _) (by omega)
    exact ⟨this.1, this.2.1⟩
  · have hj' : j < S.2.2.2.2.1.length := hj
    have := (key OC AC hs).1 j (Nat.zero_le _) (by omega)
    exact this.2.2
