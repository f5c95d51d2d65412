/-! THE CALLS THAT ONLY TELL -/
section EZ
variable {h : az_H} {s : Nat → Int → Int} {r : Nat → Int → Option Nat} {G : az_G} {d D : Nat} {Q : Option az_V → az_H → Prop} {cs : Int → Option Cd} {hk : Int → Option (Int × Int)} {ru : Int → Cd} {xs : List Int} {hh : az_H} {a b c e : Int}
theorem sX10_isWithin {lo hi : Int} (h1 : lo ≤ a → a ≤ hi → Q (some (vi 1)) hh) (h0 : ¬ (lo ≤ a ∧ a ≤ hi) → Q (some (vi 0)) hh) : cz G mX10_isWithin d 0 0 [vi a, vi lo, vi hi] hh Q := by
  refine vX10_isWithin ?_
  by_cases c1 : a < lo
  · rw [if_pos c1]; exact h0 (by omega)
  by_cases c2 : hi < a
  · rw [if_neg c1, if_pos c2]; exact h0 (by omega)
  rw [if_neg c1, if_neg c2]; exact h1 (by omega) (by omega)
abbrev okC (a b c e : Int) : Prop := (0 ≤ a ∧ a ≤ 3) ∧ (0 ≤ b ∧ b ≤ 5) ∧ (-1000000 ≤ c ∧ c ≤ 1000000) ∧ (0 ≤ e ∧ e ≤ 1000000)
theorem sX10_isCall (h1 : okC a b c e → Q (some (vi 1)) hh) (h0 : ¬ okC a b c e → Q (some (vi 0)) hh) : cz G mX10_isCall (d + 1) 0 0 [vi a, vi b, vi c, vi e] hh Q := by
  refine vX10_isCall ?_
  refine sX10_isWithin (fun y1 y2 => ?_) (fun y => ?_)
  · rw [atI_q, if_neg (by decide)]
    refine sX10_isWithin (fun y3 y4 => ?_) (fun y => ?_)
    · rw [atI_q, if_neg (by decide)]
      refine sX10_isWithin (fun y5 y6 => ?_) (fun y => ?_)
      · rw [atI_q, if_neg (by decide)]
        refine sX10_isWithin (fun y7 y8 => ?_) (fun y => ?_)
        · rw [atI_q, if_neg (by decide)]
          exact h1 ⟨⟨y1, y2⟩, ⟨y3, y4⟩, ⟨y5, y6⟩, y7, y8⟩
        · rw [atI_q, if_pos rfl]; exact h0 (fun z => y z.2.2.2)
      · rw [atI_q, if_pos rfl]; exact h0 (fun z => y z.2.2.1)
    · rw [atI_q, if_pos rfl]; exact h0 (fun z => y z.2.1)
  · rw [atI_q, if_pos rfl]; exact h0 (fun z => y z.1)
theorem sX11_isCall (h1 : okC a b c e → Q (some (vi 1)) hh) (h0 : ¬ okC a b c e → Q (some (vi 0)) hh) : cz G mX11_isCall (d + 1) 0 0 [vi a, vi b, vi c, vi e] hh Q := by
  refine vX11_isCall ?_
  refine sX11_in (fun y1 y2 => ?_) (fun y => ?_)
  · rw [atI_q, if_neg (by decide)]
    refine sX11_in (fun y3 y4 => ?_) (fun y => ?_)
    · rw [atI_q, if_neg (by decide)]
      refine sX11_in (fun y5 y6 => ?_) (fun y => ?_)
      · rw [atI_q, if_neg (by decide)]
        refine sX11_in (fun y7 y8 => ?_) (fun y => ?_)
        · rw [atI_q, if_neg (by decide)]
          exact h1 ⟨⟨y1, y2⟩, ⟨y3, y4⟩, ⟨y5, y6⟩, y7, y8⟩
        · rw [atI_q, if_pos rfl]; exact h0 (fun z => y z.2.2.2)
      · rw [atI_q, if_pos rfl]; exact h0 (fun z => y z.2.2.1)
    · rw [atI_q, if_pos rfl]; exact h0 (fun z => y z.2.1)
  · rw [atI_q, if_pos rfl]; exact h0 (fun z => y z.1)
theorem sX10_isRule (hn : 0 ≤ s 16 10 ∧ s 16 10 ≤ 8) (h1 : 0 ≤ a → a < s 16 10 → Q (some (vi 1)) (PS h s r)) (h0 : ¬ (0 ≤ a ∧ a < s 16 10) → Q (some (vi 0)) (PS h s r)) : cz G mX10_isRule (d + 1) 0 0 [vo 16, vi a] (PS h s r) Q := by
  refine vX10_isRule ?_
  rw [ri_16_10, w32_id (by omega) (by omega)]
  refine sX10_isWithin (fun y1 y2 => ?_) (fun y => ?_)
  · rw [atI_q, fit1]; exact ⟨trivial, h1 y1 (by omega)⟩
  · rw [atI_q, fit0]; exact ⟨trivial, h0 (by omega)⟩
theorem sX11_isRule (hn : 0 ≤ s 54 13 ∧ s 54 13 ≤ 8) (h1 : 0 ≤ a → a < s 54 13 → Q (some (vi 1)) (PS h s r)) (h0 : ¬ (0 ≤ a ∧ a < s 54 13) → Q (some (vi 0)) (PS h s r)) : cz G mX11_isRule (d + 1) 0 0 [vo 54, vi a] (PS h s r) Q := by
  refine vX11_isRule ?_
  rw [ri_54_13, w32_id (by omega) (by omega)]
  refine sX11_in (fun y1 y2 => ?_) (fun y => ?_)
  · rw [atI_q, fit1]; exact ⟨trivial, h1 y1 (by omega)⟩
  · rw [atI_q, fit0]; exact ⟨trivial, h0 (by omega)⟩
theorem sX11_isRow (hn : 0 ≤ s 54 45 ∧ s 54 45 ≤ 20) (h1 : 0 ≤ a → a < s 54 45 → Q (some (vi 1)) (PS h s r)) (h0 : ¬ (0 ≤ a ∧ a < s 54 45) → Q (some (vi 0)) (PS h s r)) : cz G mX11_isRow (d + 1) 0 0 [vo 54, vi a] (PS h s r) Q := by
  refine vX11_isRow ?_
  rw [ri_54_45, w32_id (by omega) (by omega)]
  refine sX11_in (fun y1 y2 => ?_) (fun y => ?_)
  · rw [atI_q, fit1]; exact ⟨trivial, h1 y1 (by omega)⟩
  · rw [atI_q, fit0]; exact ⟨trivial, h0 (by omega)⟩
/-- state -/
theorem st_state : stp xs (Inv xs) G (D + 1) 0 0 mX10_state mX11_state [vi a] := by
  refine stp_i (fun h s r cs hk ru hc hJ => ?_)
  have hS := hJ.2.2.2.2.2.2.2.2.1
  refine vX10_state ?_
  refine sX10_isWithin (fun y1 y2 => ?_) (fun y => ?_)
  · rw [atI_q, if_neg (by decide), ro_16_9, ld_53]
    refine ⟨y1, by omega, aft_i hc ?_⟩
    refine vX11_state ?_
    refine sX11_in (fun _ _ => ?_) (fun y => absurd ⟨y1, y2⟩ y)
    rw [atI_q, if_neg (by decide), ro_54_23, ld_65]
    exact ⟨y1, by omega, fin_i (hS.1 a y1 (by omega)).symm hJ⟩
  · rw [atI_q, if_pos rfl]
    refine aft_i hc ?_
    refine vX11_state ?_
    refine sX11_in (fun y1 y2 => absurd ⟨y1, y2⟩ y) (fun _ => ?_)
    rw [atI_q, if_pos rfl]
    exact fin_i rfl hJ
/-- states -/
theorem st_states : stp xs (Inv xs) G (D + 1) 0 0 mX10_states mX11_states [] := by
  refine stp_i (fun h s r cs hk ru hc hJ => ?_)
  refine vX10_states ?_
  rw [ro_16_4, rc_35]
  refine vX7_statesSeen ?_
  rw [ri_35_5, atI_q]
  refine aft_i hc ?_
  refine vX11_states ?_
  rw [ri_54_53]
  exact fin_i hJ.2.2.2.2.2.2.2.2.2.2.2.2.symm hJ
/-- cut -/
theorem st_cut (ha : rg a) : stp xs (Inv xs) G (D + 2) 0 0 mX10_cut mX11_cut [vi a] := by
  refine stp_i (fun h s r cs hk ru hc hJ => ?_)
  obtain ⟨a1, a2, a3, a4, a5, a6, a7, a8, a9, a10, a11, a12, a13⟩ := hJ
  have hJ : J h s r cs hk ru := ⟨a1, a2, a3, a4, a5, a6, a7, a8, a9, a10, a11, a12, a13⟩
  obtain ⟨t1, t2, t3⟩ := a4
  have hbad : ¬ (0 ≤ a ∧ a ≤ s 54 1) → aft xs G (D + 2) mX11_cut [vi a] (some (vi (-1))) (PS h s r) := by
    intro y
    refine aft_i hc ?_
    refine vX11_cut ?_
    rw [ri_54_1]
    refine sX11_in (fun y1 y2 => absurd ⟨y1, y2⟩ y) (fun _ => ?_)
    rw [atI_q, if_pos rfl]
    exact fin_i rfl hJ
  refine vX10_cut ?_
  by_cases y1 : a < 0
  · rw [if_pos y1]; exact hbad (by omega)
  rw [if_neg y1, ro_16_0, rc_17]
  refine vX8_length ?_
  rw [ri_17_1, atI_q, t1]
  by_cases y2 : a ≤ s 54 1
  · rw [if_pos y2, ro_16_0, rc_17]
    refine vX8_drop ?_
    rw [ri_17_1, t1, w32_id (by omega) (by omega)]
    refine vJ9_max_7cf53 ?_
    have e1 : uf s 17 1 (s 54 1 - a) 17 1 = s 54 1 - a := rfl
    have fin : aft xs G (D + 2) mX11_cut [vi a] (some (vi (s 54 1 - a))) (PS h (uf s 17 1 (s 54 1 - a)) r) := by
      refine aft_i hc ?_
      refine vX11_cut ?_
      rw [ri_54_1, show uf s 17 1 (s 54 1 - a) 54 1 = s 54 1 from rfl]
      refine sX11_in (fun _ _ => ?_) (fun y => absurd ⟨by omega, y2⟩ y)
      rw [atI_q, if_neg (by decide), ri_54_1, wi_54_1, ri_54_1]
      rw [show uf s 17 1 (s 54 1 - a) 54 1 = s 54 1 from rfl, w32_id (by omega) (by omega)]
      refine fin_i rfl ⟨a1, a2, a3, ⟨rfl, ?_, fun i i0 i1 => ?_⟩, a5, a6, a7, a8, a9, a10, a11, a12, a13⟩
      · show 0 ≤ s 54 1 - a ∧ s 54 1 - a ≤ 208
        omega
      · have i1' : i < s 54 1 - a := i1
        exact t3 i i0 (by omega)
    by_cases y3 : 0 < s 54 1 - a
    · rw [if_pos y3, atI_q, wi_17_1, atV_q, ro_16_0, rc_17]
      refine vX8_length ?_
      rw [ri_17_1, atI_q]
      exact fin
    · have e0 : (0 : Int) = s 54 1 - a := by omega
      rw [if_neg y3, atI_q, wi_17_1, atV_q, ro_16_0, rc_17]
      refine vX8_length ?_
      rw [ri_17_1, atI_q, e0]
      exact fin
  · rw [if_neg y2]; exact hbad (by omega)
theorem st_at : stp xs (Inv xs) G (D + 3) 0 0 mX10_at mX11_at_ [vi a, vi b] := by
  refine stp_i (fun h s r cs hk ru hc hJ => ?_)
  obtain ⟨w1, w2, w3⟩ := hJ.2.2.2.2.2.2.2.2.2.2.1
  have hbad : ¬ (0 ≤ a ∧ a < s 54 45 ∧ -1 ≤ b ∧ b < s 80 a) → aft xs G (D + 3) mX11_at_ [vi a, vi b] (some (vi (-1))) (PS h s r) := by
    intro y
    refine aft_i hc ?_
    refine vX11_at_ ?_
    rw [rc_54]
    refine sX11_isRow w2 (fun y1 y2 => ?_) (fun _ => ?_)
    · rw [atI_q, if_neg (by decide), ro_54_46, ld_80]
      have := (w3 a y1 y2).2.1
      refine ⟨by omega, by omega, ?_⟩
      rw [w32_id (by omega) (by omega)]
      refine sX11_in (fun y3 y4 => absurd ⟨y1, y2, y3, by omega⟩ y) (fun _ => ?_)
      rw [atI_q, if_pos rfl]
      exact fin_i rfl hJ
    · rw [atI_q, if_pos rfl]
      exact fin_i rfl hJ
  refine vX10_at ?_
  rw [ro_16_6, rc_48]
  refine vX6_tell ?_
  rw [rc_48]
  refine vX6_has ?_
  by_cases y1 : a < 0
  · rw [if_pos y1, atI_q, if_pos rfl, atI_q]; exact hbad (by omega)
  rw [if_neg y1, ri_48_3, w1]
  by_cases y2 : s 54 45 ≤ a
  · rw [if_pos y2, atI_q, if_pos rfl, atI_q]; exact hbad (by omega)
  rw [if_neg y2, atI_q, if_neg (by decide)]
  by_cases y3 : b < -1
  · rw [if_pos y3, atI_q]; exact hbad (by omega)
  obtain ⟨w4, w5, w6⟩ := w3 a (by omega) (by omega)
  rw [if_neg y3, ro_48_2, ld_50, w4]
  refine ⟨by omega, by omega, ?_⟩
  by_cases y4 : b < s 80 a
  · rw [if_pos y4]
    have fin : ∀ x, (if 0 ≤ b then s 81 (12 * a + b) else s 80 a) = x → aft xs G (D + 3) mX11_at_ [vi a, vi b] (some (vi x)) (PS h s r) := by
      intro x hx
      refine aft_i hc ?_
      refine vX11_at_ ?_
      rw [rc_54]
      refine sX11_isRow w2 (fun y1 y2 => ?_) (fun y => absurd ⟨by omega, by omega⟩ y)
      rw [atI_q, if_neg (by decide), ro_54_46, ld_80]
      refine ⟨by omega, by omega, ?_⟩
      rw [w32_id (by omega) (by omega)]
      refine sX11_in (fun y3 y4 => ?_) (fun y => absurd ⟨by omega, by omega⟩ y)
      rw [atI_q, if_neg (by decide)]
      by_cases y5 : 0 ≤ b
      · rw [if_pos y5] at hx
        rw [if_pos y5, ro_54_47, ld_81, w32_id (x := 12 * a) (by omega) (by omega), w32_id (by omega) (by omega)]
        exact ⟨by omega, by omega, fin_i hx hJ⟩
      · rw [if_neg y5] at hx
        rw [if_neg y5, ro_54_46, ld_80]
        exact ⟨by omega, by omega, fin_i hx hJ⟩
    by_cases y5 : b = -1
    · rw [if_pos y5, ro_48_2, ld_50, w4]
      refine ⟨by omega, by omega, ?_⟩
      rw [atI_q]
      exact fin _ (if_neg (by omega))
    · rw [if_neg y5, ro_48_1, ld_49, w32_id (x := a * 12) (by omega) (by omega), w32_id (by omega) (by omega)]
      refine ⟨by omega, by omega, ?_⟩
      rw [atI_q]
      refine fin _ ?_
      rw [if_pos (by omega), show a * 12 + b = 12 * a + b by omega]
      exact (w6 b (by omega) y4).1.symm
  · rw [if_neg y4, atI_q]; exact hbad (by omega)
/-- kept -/
theorem st_kept : stp xs (Inv xs) G (D + 3) 0 0 mX10_kept mX11_kept [vi a, vi b] := by
  refine stp_i (fun h s r cs hk ru hc hJ => ?_)
  obtain ⟨w1, w2, w3⟩ := hJ.2.2.2.2.2.2.2.2.2.2.2.1
  have hbad : ¬ (0 ≤ a ∧ a < s 54 50 ∧ -1 ≤ b ∧ b < s 83 a) → aft xs G (D + 3) mX11_kept [vi a, vi b] (some (vi (-1))) (PS h s r) := by
    intro y
    refine aft_i hc ?_
    refine vX11_kept ?_
    rw [ri_54_50, w32_id (by omega) (by omega)]
    refine sX11_in (fun y1 y2 => ?_) (fun _ => ?_)
    · rw [atI_q, if_neg (by decide), ro_54_51, ld_83]
      have := (w3 a y1 (by omega)).2.1
      refine ⟨by omega, by omega, ?_⟩
      rw [w32_id (by omega) (by omega)]
      refine sX11_in (fun y3 y4 => absurd ⟨y1, by omega, y3, by omega⟩ y) (fun _ => ?_)
      rw [atI_q, if_pos rfl]
      exact fin_i rfl hJ
    · rw [atI_q, if_pos rfl]
      exact fin_i rfl hJ
  refine vX10_kept ?_
  rw [ro_16_5, rc_44]
  refine vX2_tellKept ?_
  rw [ro_44_2, rc_45]
  refine vX6_tell ?_
  rw [rc_45]
  refine vX6_has ?_
  by_cases y1 : a < 0
  · rw [if_pos y1, atI_q, if_pos rfl, atI_q, atI_q]; exact hbad (by omega)
  rw [if_neg y1, ri_45_3, w1]
  by_cases y2 : s 54 50 ≤ a
  · rw [if_pos y2, atI_q, if_pos rfl, atI_q, atI_q]; exact hbad (by omega)
  rw [if_neg y2, atI_q, if_neg (by decide)]
  by_cases y3 : b < -1
  · rw [if_pos y3, atI_q, atI_q]; exact hbad (by omega)
  obtain ⟨w4, w5, w6⟩ := w3 a (by omega) (by omega)
  rw [if_neg y3, ro_45_2, ld_47, w4]
  refine ⟨by omega, by omega, ?_⟩
  by_cases y4 : b < s 83 a
  · rw [if_pos y4]
    have fin : ∀ x, (if 0 ≤ b then s 84 (12 * a + b) else s 83 a) = x → aft xs G (D + 3) mX11_kept [vi a, vi b] (some (vi x)) (PS h s r) := by
      intro x hx
      refine aft_i hc ?_
      refine vX11_kept ?_
      rw [ri_54_50, w32_id (by omega) (by omega)]
      refine sX11_in (fun y1 y2 => ?_) (fun y => absurd ⟨by omega, by omega⟩ y)
      rw [atI_q, if_neg (by decide), ro_54_51, ld_83]
      refine ⟨by omega, by omega, ?_⟩
      rw [w32_id (by omega) (by omega)]
      refine sX11_in (fun y3 y4 => ?_) (fun y => absurd ⟨by omega, by omega⟩ y)
      rw [atI_q, if_neg (by decide)]
      by_cases y5 : 0 ≤ b
      · rw [if_pos y5] at hx
        rw [if_pos y5, ro_54_52, ld_84, w32_id (x := 12 * a) (by omega) (by omega), w32_id (by omega) (by omega)]
        exact ⟨by omega, by omega, fin_i hx hJ⟩
      · rw [if_neg y5] at hx
        rw [if_neg y5, ro_54_51, ld_83]
        exact ⟨by omega, by omega, fin_i hx hJ⟩
    by_cases y5 : b = -1
    · rw [if_pos y5, ro_45_2, ld_47, w4]
      refine ⟨by omega, by omega, ?_⟩
      rw [atI_q, atI_q]
      exact fin _ (if_neg (by omega))
    · rw [if_neg y5, ro_45_1, ld_46, w32_id (x := a * 12) (by omega) (by omega), w32_id (by omega) (by omega)]
      refine ⟨by omega, by omega, ?_⟩
      rw [atI_q, atI_q]
      refine fin _ ?_
      rw [if_pos (by omega), show a * 12 + b = 12 * a + b by omega]
      exact (w6 b (by omega) y4).1.symm
  · rw [if_neg y4, atI_q, atI_q]; exact hbad (by omega)
/-- leaves -/
theorem sX9_leavesOf (hE : CEnv h r cs hk) (hL : jL h s r cs) (h1 : 0 ≤ a → a < 6 → Q (some (vi (s 60 a))) (PS h s r)) (h0 : ¬ (0 ≤ a ∧ a < 6) → Q (some (vi 0)) (PS h s r)) : cz G mX9_leavesOf (d + 1) 0 0 [vo 22, vi a] (PS h s r) Q := by
  refine vX9_leavesOf ?_
  rw [rc_22]
  by_cases y : 0 ≤ a ∧ a < 6
  · refine sX9_codeOf y.1 y.2 ?_
    obtain ⟨l1, l2, l3⟩ := hL a y.1 y.2
    rw [atR_q]
    cases hcs : cs a with
    | none =>
      rw [(hE.1 a y.1 y.2).1 hcs]
      rw [l1 hcs] at h1
      exact h1 y.1 y.2
    | some c =>
      obtain ⟨b, q1, q2⟩ := l2 c hcs
      obtain ⟨ops, args, st, bo, ba, b9, bo9, ba9, hb, hr⟩ := q2
      rw [q1]
      show rdI (PS h s r) b 1 1 _
      rw [rdI_q ((PS_out b9).trans hb) rfl]
      exact h1 y.1 y.2
  · refine vX9_codeOf ?_
    by_cases y1 : a < 0
    · rw [if_pos y1]
      exact h0 y
    · rw [if_neg y1, if_pos (by omega)]
      exact h0 y
/-- told -/
theorem st_told (ha : rg a) : stp xs (Inv xs) G (D + 3) 0 0 mX10_told mX11_told [vi a] := by
  refine stp_i (fun h s r cs hk ru hc hJ => ?_)
  obtain ⟨a1, a2, a3, a4, a5, a6, a7, a8, a9, a10, a11, a12, a13⟩ := hJ
  have hJ : J h s r cs hk ru := ⟨a1, a2, a3, a4, a5, a6, a7, a8, a9, a10, a11, a12, a13⟩
  refine vX10_told ?_
  by_cases e0 : a = 0
  · rw [if_pos e0, ro_16_0, rc_17]
    refine vX8_length ?_
    rw [ri_17_1, atI_q]
    refine aft_i hc ?_
    refine vX11_told ?_
    rw [if_pos e0, ri_54_1]
    exact fin_i a4.1.symm hJ
  rw [if_neg e0]
  by_cases e1 : a = 1
  · rw [if_pos e1, ri_16_10]
    refine aft_i hc ?_
    refine vX11_told ?_
    rw [if_neg e0, if_pos e1, ri_54_13]
    exact fin_i a6.1.symm hJ
  rw [if_neg e1]
  by_cases e2 : a = 2
  · rw [if_pos e2, ro_16_4, rc_35]
    refine vX7_choiceCount ?_
    rw [ri_35_4, atI_q]
    refine aft_i hc ?_
    refine vX11_told ?_
    rw [if_neg e0, if_neg e1, if_pos e2, ri_54_40]
    exact fin_i a10.1.symm hJ
  rw [if_neg e2]
  by_cases e3 : a = 3
  · rw [if_pos e3, ro_16_6, rc_48]
    refine vX6_size ?_
    rw [ri_48_3, atI_q]
    refine aft_i hc ?_
    refine vX11_told ?_
    rw [if_neg e0, if_neg e1, if_neg e2, if_pos e3, ri_54_45]
    exact fin_i a11.1.symm hJ
  rw [if_neg e3]
  by_cases e4 : a = 4
  · rw [if_pos e4, ro_16_5, rc_44]
    refine vX2_keptCount ?_
    rw [ro_44_2, rc_45]
    refine vX6_size ?_
    rw [ri_45_3, atI_q, atI_q]
    refine aft_i hc ?_
    refine vX11_told ?_
    rw [if_neg e0, if_neg e1, if_neg e2, if_neg e3, if_pos e4, ri_54_50]
    exact fin_i a12.1.symm hJ
  rw [if_neg e4]
  refine sX10_isWithin (fun y1 y2 => ?_) (fun y => ?_)
  · rw [atI_q, if_neg (by decide), ro_16_2, rc_22, w32_id (by omega) (by omega)]
    refine sX9_leavesOf a2 a5 (fun z1 z2 => ?_) (fun z => absurd ⟨by omega, by omega⟩ z)
    rw [atI_q]
    refine aft_i hc ?_
    refine vX11_told ?_
    rw [if_neg e0, if_neg e1, if_neg e2, if_neg e3, if_neg e4]
    refine sX11_in (fun _ _ => ?_) (fun z => absurd ⟨y1, y2⟩ z)
    rw [atI_q, if_neg (by decide), ro_54_11, ld_60, w32_id (by omega) (by omega)]
    exact ⟨by omega, by omega, fin_i rfl hJ⟩
  · rw [atI_q, if_pos rfl]
    refine aft_i hc ?_
    refine vX11_told ?_
    rw [if_neg e0, if_neg e1, if_neg e2, if_neg e3, if_neg e4]
    refine sX11_in (fun y1 y2 => absurd ⟨y1, y2⟩ y) (fun _ => ?_)
    rw [atI_q, if_pos rfl]
    exact fin_i rfl hJ
/-- met -/
theorem st_met (hb : rg b) : stp xs (Inv xs) G (D + 3) 0 0 mX10_met mX11_met [vi a, vi b] := by
  refine stp_i (fun h s r cs hk ru hc hJ => ?_)
  obtain ⟨a1, a2, a3, a4, a5, a6, a7, a8, a9, a10, a11, a12, a13⟩ := hJ
  have hJ : J h s r cs hk ru := ⟨a1, a2, a3, a4, a5, a6, a7, a8, a9, a10, a11, a12, a13⟩
  have hbad : ¬ (0 ≤ a ∧ a < 6 ∧ 0 ≤ b ∧ b < s 60 a) → aft xs G (D + 3) mX11_met [vi a, vi b] (some (vi (-1))) (PS h s r) := by
    intro y
    refine aft_i hc ?_
    refine vX11_met ?_
    refine sX11_in (fun y1 y2 => ?_) (fun _ => ?_)
    · rw [atI_q, if_neg (by decide), ro_54_12, ld_61]
      refine ⟨by omega, by omega, ?_⟩
      by_cases y3 : s 61 a = 0
      · rw [if_pos y3]
        exact fin_i rfl hJ
      · rw [if_neg y3, ro_54_11, ld_60]
        have := (a5 a y1 (by omega)).2.2
        rw [w32_id (by omega) (by omega)]
        refine ⟨by omega, by omega, ?_⟩
        refine sX11_in (fun y3 y4 => absurd ⟨y1, by omega, y3, by omega⟩ y) (fun _ => ?_)
        rw [atI_q, if_pos rfl]
        exact fin_i rfl hJ
    · rw [atI_q, if_pos rfl]
      exact fin_i rfl hJ
  refine vX10_met ?_
  rw [ro_16_2, rc_22]
  refine sX9_leavesOf a2 a5 (fun z1 z2 => ?_) (fun z => ?_)
  · have l3 := (a5 a z1 z2).2.2
    rw [atI_q, w32_id (by omega) (by omega)]
    refine sX10_isWithin (fun y1 y2 => ?_) (fun y => ?_)
    · rw [atI_q, if_neg (by decide), ro_16_2, rc_22]
      refine vX9_hasMet ?_
      have m1 := a8.1 a z1 z2
      have m2 := m1.2 b y1 (by omega)
      rw [if_neg (by omega), if_neg (by omega), ro_22_1, ld_24, bit_get m1.1.1 m1.1.2 y1 (by omega), ← m2]
      refine ⟨z1, z2, ?_⟩
      have ht : cs a ≠ none := by
        intro hn
        have := (a5 a z1 z2).1 hn
        omega
      obtain ⟨cc, hcc⟩ := Option.ne_none_iff_exists'.mp ht
      have h61 := ((a3.1 a z1 z2).2 cc hcc).1
      have fin : ∀ x, (if s 69 (24 * a + b) = 0 then 0 else 1) = x → aft xs G (D + 3) mX11_met [vi a, vi b] (some (vi x)) (PS h s r) := by
        intro x hx
        refine aft_i hc ?_
        refine vX11_met ?_
        refine sX11_in (fun _ _ => ?_) (fun y => absurd ⟨z1, by omega⟩ y)
        rw [atI_q, if_neg (by decide), ro_54_12, ld_61, h61, if_neg (by decide), ro_54_11, ld_60]
        refine ⟨by omega, by omega, by omega, by omega, ?_⟩
        rw [w32_id (by omega) (by omega)]
        refine sX11_in (fun _ _ => ?_) (fun y => absurd ⟨y1, y2⟩ y)
        rw [atI_q, if_neg (by decide), ro_54_28, ld_69, w32_id (x := 24 * a) (by omega) (by omega), w32_id (by omega) (by omega)]
        refine ⟨by omega, by omega, ?_⟩
        by_cases y3 : s 69 (24 * a + b) = 0
        · rw [if_pos y3] at hx ⊢
          exact fin_i hx hJ
        · rw [if_neg y3] at hx ⊢
          exact fin_i hx hJ
      by_cases y3 : s 69 (24 * a + b) = 1
      · rw [if_pos y3, atI_q, if_neg (by decide)]
        exact fin _ (if_neg (by omega))
      · rw [if_neg y3, atI_q, if_pos rfl]
        refine fin _ (if_pos ?_)
        rw [m2] at y3 ⊢
        omega
    · rw [atI_q, if_pos rfl]; exact hbad (by omega)
  · rw [atI_q, show w32 (0 - 1) = -1 by decide]
    refine sX10_isWithin (fun y1 y2 => absurd y1 (by omega)) (fun _ => ?_)
    rw [atI_q, if_pos rfl]
    exact hbad (by omega)
end EZ
