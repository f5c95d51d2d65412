/-! THE LAW, given an invariant that holds at the start and that the calls keep -/
theorem law_of (I : List Int → az_H → Prop) (hok : ∀ (G : az_G) (xs : List Int), G.2.2.2.2.2 = con0 xs → lawOK xs (I xs) G 299) (hini : ∀ (xs : List Int) (h : az_H), h.2 = 89 → (∀ i, i < 16 → h.1 i = con0 xs i) → (∀ i, 89 ≤ i → h.1 i = cO 999 []) → I xs (PH h (fun _ _ => 0) A0 B0))
    (G : az_G) (xs : List Int) (hc : G.2.2.2.2.2 = con0 xs) (hL : xs.length ≤ 2560) (hr : ∀ x ∈ xs, -2147483648 ≤ x ∧ x < 2147483648) : ez G mL_law 300 600000 7302250 0 [some (vo 0), none, none, none] [] (heap0 xs) (fun v _ => v = some (vi 1)) := by
  refine ez_wide (mc := 0 + 3 * 512 + 73) (ms := 0 + 421 * 512 + 35666) (by decide) (by decide) ?_
  refine vL_law (d := 299) (mc := 0 + 3 * 512) (ms := 0 + 421 * 512) ?_
  with_reducible refine nwO_i ?_
  refine ini_c (d := 295) (h := heap0 xs) rfl (fun h1 z1 l1 c1 u1 => ?_)
  with_reducible refine atV_i ?_
  with_reducible refine nwO_i ?_
  rw [z1]
  refine ini_r (d := 298) z1 (fun h2 z2 l2 c2 u2 => ?_)
  with_reducible refine atV_i ?_
  have he : h2 = PH h2 (fun _ _ => 0) A0 B0 := by
    refine Prod.ext (funext fun i => ?_) rfl
    show h2.1 i = if 16 ≤ i ∧ i < 89 then pcx i (fun _ => 0) (A0 i) (B0 i) else h2.1 i
    by_cases hi : 16 ≤ i ∧ i < 89
    · rw [if_pos hi]
      by_cases h54 : i < 54
      · rw [l2 i h54]
        exact c1 i hi.1 h54
      · exact c2 i (by omega) hi.2
    · rw [if_neg hi]
  have hI : I xs h2 := by
    rw [he]
    refine hini xs h2 z2 (fun i hi => ?_) (fun i hi => ?_)
    · rw [l2 i (by omega), l1 i hi]
      exact if_pos hi
    · rw [u2 i hi, u1 i (by omega)]
      exact if_neg (by omega)
  exact law_loop (hok G xs hc) hL hr 512 0 0 0 h2 hI (by decide) (by decide) (by omega)
