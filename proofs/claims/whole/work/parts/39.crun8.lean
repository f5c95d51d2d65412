/-! THE CLASS'S MACHINE: the whole of the loop; run, perform, attempt, keeps -/
section C8
variable {h : az_H} {s : Nat → Int → Int} {r : Nat → Int → Option Nat} {G : az_G} {d e m : Nat} {Q : Option az_V → az_H → Prop} {w : Int} {cs : Int → Option Cd} {hk : Int → Option (Int × Int)} {z : Z3} {b bc : Nat} {lv x3 : Int} {ops args : List Int} {c : Cd} {who k n v : Int}
theorem cRun8 (hE : CEnv h r cs hk) (hm : m ≤ 2) (hp : ∀ m', m = m' + 1 → PFs G h r w cs hk e m') (hC : cCodx h b lv ops args c) (hc : isCl h r bc who k n v) (hw : 0 ≤ who ∧ who < 4) (hk6 : 0 ≤ k ∧ k < 6) {dp : Nat → Nat} (hdp : ∀ j, j < c.1 → wIns c dp j ∧ dp j ≤ 31) (s0 : Nat → Int → Int) (X : Option (List Int) × Z3)
    (hq1 : ∀ s' st', X.1 = some st' → cSt w s' X.2 → stk st' (s' 34) → s' 27 5 = st'.length → st'.length = dp c.1 → frM (34 - m) s0 s' → Q (some (vi 1)) (PS h s' r))
    (hq0 : ∀ s', X.1 = none → cSt w s' X.2 → frM (34 - m) s0 s' → Q (some (vi 0)) (PS h s' r)) :
    ∀ (f j : Nat) (st : List Int) (z : Z3) (s : Nat → Int → Int), cSt w s z → stk st (s 34) → s 27 5 = st.length → st.length = dp j → j ≤ c.1 → c.1 - j ≤ f → frM (34 - m) s0 s → exec (hfZ w cs hk m who) w c k who n v f j st z = X →
    pX4_run_8 G (e + 3 * m + 2) 27 (some b) (some bc) (3 - (m : Int)) (cp c.2.1 j : Nat) (PS h s r) Q := by
  intro f
  induction f with
  | zero =>
    intro j st z s hst hs ht hd hj hf hfr hX
    have : j = c.1 := by omega
    subst this
    subst hX
    exact run8_end hC (hq1 s st rfl hst hs ht hd hfr)
  | succ f ih =>
    intro j st z s hst hs ht hd hj hf hfr hX
    rw [exec_s] at hX
    by_cases hj2 : c.1 ≤ j
    · have : j = c.1 := by omega
      subst this
      rw [if_pos (Nat.le_refl _)] at hX
      subst hX
      exact run8_end hC (hq1 s st rfl hst hs ht hd hfr)
    rw [if_neg hj2] at hX
    have hjc : j < c.1 := by omega
    obtain ⟨hwi, hd31⟩ := hdp j hjc
    by_cases ho20 : c.2.1 j < 20
    · rw [if_pos ho20] at hX
      have ho : 1 ≤ c.2.1 j ∧ c.2.1 j ≤ 18 := by rcases hwi with x | x | x | x <;> omega
      have hsn := rv_snd (c.2.1 j) (c.2.2.1 j) who n v z.1 st
      have hpre : (c.2.1 j = 9 ∨ c.2.1 j = 10 → 1 ≤ st.length) ∧ (11 ≤ c.2.1 j → 2 ≤ st.length) := by
        constructor <;> intro hx <;> rcases hwi with x | x | x | x <;> omega
      have harg : (c.2.1 j = 2 → 0 ≤ c.2.2.1 j ∧ c.2.2.1 j ≤ 7) ∧ (c.2.1 j = 7 → 0 ≤ c.2.2.1 j ∧ c.2.2.1 j ≤ 1) ∧ (c.2.1 j = 8 → 0 ≤ c.2.2.1 j ∧ c.2.2.1 j ≤ 3) := by
        rcases hwi with x | x | x | x
        · exact x.2.2.2.2
        · refine ⟨fun _ => ?_, fun _ => ?_, fun _ => ?_⟩ <;> omega
        · refine ⟨fun _ => ?_, fun _ => ?_, fun _ => ?_⟩ <;> omega
        · refine ⟨fun _ => ?_, fun _ => ?_, fun _ => ?_⟩ <;> omega
      have hsl : stk (rv (c.2.1 j) (c.2.2.1 j) who n v z.1 st).2 (s 34) ∧ (rv (c.2.1 j) (c.2.2.1 j) who n v z.1 st).2.length + 1 = dp (j + 1) ∧ (rv (c.2.1 j) (c.2.2.1 j) who n v z.1 st).2.length < 32 := by
        rcases hwi with x | x | x | x
        · rw [hsn.1 x.1 x.2.1]; exact ⟨hs, by omega, by omega⟩
        · rw [hsn.2.1 (by omega)]; exact ⟨stk_tl hs, by rw [List.length_tail]; omega, by rw [List.length_tail]; omega⟩
        · rw [hsn.2.2 (by omega)]; exact ⟨stk_tl (stk_tl hs), by rw [List.length_tail, List.length_tail]; omega, by rw [List.length_tail, List.length_tail]; omega⟩
        · exact absurd x.1 (by omega)
      unfold rk at hX
      generalize hR : rv (c.2.1 j) (c.2.2.1 j) who n v z.1 st = R at hX hsl
      obtain ⟨x, st'⟩ := R
      refine c_ar (d := e + 3 * m + 1) (st := st) (z := z) (w := w) hC hjc hc hw ho hst hs ht (by omega) hpre harg hR hsl.2.2 (fun hx => ?_) (fun hx => ?_)
      · have ep : psh x st' = some (x :: st') := if_pos hx
        simp only [ep] at hX
        refine ih (j + 1) (x :: st') z _ (cSt_fr rfl rfl rfl hst) ?_ ?_ ?_ (by omega) (by omega) ?_ hX
        · show stk (x :: st') (ud (s 34) st'.length x)
          exact stk_psh hsl.1 hx
        · show ((st'.length : Int) + 1) = _
          rw [List.length_cons]
          omega
        · rw [List.length_cons]; exact hsl.2.1
        · exact frM_tr (Nat.le_refl _) (frM_tr (Nat.le_refl _) (frM_tr (Nat.le_refl _) hfr (frM_uf (by omega))) (frM_uf (by omega))) (frM_uf (by omega))
      · have ep : psh x st' = none := if_neg hx
        simp only [ep] at hX
        subst hX
        exact hq0 _ rfl (cSt_fr rfl rfl rfl hst) (frM_tr (Nat.le_refl _) hfr (frM_uf (by omega)))
    rw [if_neg ho20] at hX
    have hac : 20 ≤ c.2.1 j ∧ c.2.1 j ≤ 23 ∧ dp j = 1 ∧ dp (j + 1) = 0 ∧ 0 ≤ c.2.2.1 j ∧ (c.2.1 j = 20 ∨ c.2.1 j = 23 → c.2.2.1 j ≤ 11) ∧ (c.2.1 j = 21 → c.2.2.1 j ≤ 7) ∧ (c.2.1 j = 23 → (j : Int) < c.2.2.2 j ∧ c.2.2.2 j ≤ c.1 ∧ dp (c.2.2.2 j).toNat = 0) := by
      rcases hwi with x | x | x | x
      · exact absurd x.2.1 (by omega)
      · exact absurd x.2.1 (by omega)
      · exact absurd x.2.1 (by omega)
      · exact x
    clear hwi
    obtain ⟨x, rfl⟩ : ∃ x, st = [x] := by
      match st, hd with
      | [x], _ => exact ⟨x, rfl⟩
      | [], hd => exact absurd hd (by rw [hac.2.2.1]; decide)
      | _ :: _ :: _, hd => exact absurd hd (by rw [hac.2.2.1]; simp)
    rw [show ([x] : List Int).headD 0 = x from rfl] at hX
    have n0' : ([] : List Int).length = dp (j + 1) := by rw [hac.2.2.2.1]; rfl
    by_cases hmt : c.2.1 j = 20 ∨ c.2.1 j = 23
    · refine c_meet (d := e + 3 * m + 1) (z := z) (w := w) hC hjc hc hk6 hmt ⟨hac.2.2.2.2.1, hac.2.2.2.2.2.1 hmt⟩ hst hs ht (fun g' hst1 => ?_)
      have hfr1 : frM (34 - m) s0 (uf (up s 24 g') 22 5 (meetZ w (24 * k + (2 * c.2.2.1 j + if x = 0 then 1 else 0)) z).2.2) := frM_tr (Nat.le_refl _) (frM_tr (Nat.le_refl _) hfr (frM_up (by omega))) (frM_uf (by omega))
      generalize hs1 : uf (up s 24 g') 22 5 (meetZ w (24 * k + (2 * c.2.2.1 j + if x = 0 then 1 else 0)) z).2.2 = s1 at hst1 hfr1 ⊢
      have hk1 : stk [x] (s1 34) := by rw [← hs1]; exact hs
      have ht1 : s1 27 5 = 1 := by rw [← hs1]; exact ht
      have hst2 := cSt_fr (s' := uf s1 27 5 0) rfl rfl rfl hst1
      have hfr2 : frM (34 - m) s0 (uf s1 27 5 0) := frM_tr (Nat.le_refl _) hfr1 (frM_uf (by omega))
      by_cases h20 : c.2.1 j = 20
      · rw [if_pos h20] at hX
        refine c_need hC hjc h20 hk1 ht1 (fun cx => ?_) (fun cx => ?_)
        · rw [if_pos cx] at hX
          rw [if_pos cx] at hst2
          subst hX
          exact hq0 _ rfl hst2 hfr2
        · rw [if_neg cx] at hX
          rw [if_neg cx, Int.add_zero] at hst2
          exact ih (j + 1) [] _ _ hst2 trivial rfl n0' (by omega) (by omega) hfr2 hX
      · have h23 : c.2.1 j = 23 := by omega
        rw [if_neg h20, if_pos h23] at hX
        have hg := hac.2.2.2.2.2.2.2 h23
        refine c_if hC hjc h23 ⟨hg.1, hg.2.1⟩ hk1 ht1 (fun cx => ?_) (fun cx => ?_)
        · rw [if_pos cx] at hX
          rw [if_pos cx] at hst2
          exact ih (c.2.2.2 j).toNat [] _ _ hst2 trivial rfl (by rw [hg.2.2]; rfl) (by omega) (by omega) hfr2 hX
        · rw [if_neg cx] at hX
          rw [if_neg cx, Int.add_zero] at hst2
          exact ih (j + 1) [] _ _ hst2 trivial rfl n0' (by omega) (by omega) hfr2 hX
    rw [if_neg (by omega), if_neg (by omega)] at hX
    have hfr1 : frM (34 - m) s0 (uf s 27 5 0) := frM_tr (Nat.le_refl _) hfr (frM_uf (by omega))
    by_cases h21 : c.2.1 j = 21
    · rw [if_pos h21] at hX
      refine c_set hC hjc hc hw h21 ⟨hac.2.2.2.2.1, hac.2.2.2.2.2.2.1 h21⟩ hs ht ?_
      have hx := hs.2.1
      refine ih (j + 1) [] (ud z.1 (cellI (c.2.2.1 j) who) x, z.2) _ ⟨eq19_ud hst.1, hst.2.1, hst.2.2.1, hst.2.2.2.1, rgN_ud hst.2.2.2.2 (by omega) (by omega)⟩ trivial rfl n0' (by omega) (by omega) ?_ hX
      exact frM_tr (Nat.le_refl _) hfr1 (frM_uf (by omega))
    rw [if_neg h21] at hX
    refine c_pay (z := z) (w := w) hE hm hp hC hjc hc hw (by omega) hst hs ht (fun y => ?_) (fun y0 y1 s' q1 q2 q3 => ?_)
    · by_cases y0 : x < 0
      · rw [if_pos y0] at hX
        subst hX
        exact hq0 _ rfl (cSt_fr rfl rfl rfl hst) hfr1
      · rw [if_neg y0, if_pos (by omega)] at hX
        subst hX
        exact hq0 _ rfl (cSt_fr rfl rfl rfl hst) hfr1
    · rw [if_neg (by omega), if_neg (by omega)] at hX
      exact ih (j + 1) [] _ _ q1 trivial q3 n0' (by omega) (by omega) (frM_tr (Nat.le_refl _) hfr1 q2) hX
end C8
