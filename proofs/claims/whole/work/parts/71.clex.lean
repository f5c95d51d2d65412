/-! TEXTS: the class's next token -/
section CN
variable {h : az_H} {s : Nat → Int → Int} {r : Nat → Int → Option Nat} {G : az_G} {d : Nat} {Q : Option az_V → az_H → Prop} {T : Int → Int} {L e : Nat}
theorem sX8_isLetter {hh : az_H} {c : Int} (h1 : isL c → Q (some (vi 1)) hh) (h0 : ¬ isL c → Q (some (vi 0)) hh) : cz G mX8_isLetter d 0 0 [vi c] hh Q := by
  refine vX8_isLetter ?_
  by_cases c1 : c < 97
  · rw [if_pos c1]
    by_cases c2 : c < 65
    · rw [if_pos c2]; exact h0 (by unfold isL; omega)
    rw [if_neg c2]
    by_cases c3 : 90 < c
    · rw [if_pos c3]; exact h0 (by unfold isL; omega)
    rw [if_neg c3]; exact h1 (by unfold isL; omega)
  rw [if_neg c1]
  by_cases c2 : c ≤ 122
  · rw [if_pos c2]; exact h1 (by unfold isL; omega)
  rw [if_neg c2, if_neg (by omega), if_pos (by omega)]; exact h0 (by unfold isL; omega)
theorem sX8_isFigure {hh : az_H} {c : Int} (h1 : isF c → Q (some (vi 1)) hh) (h0 : ¬ isF c → Q (some (vi 0)) hh) : cz G mX8_isFigure d 0 0 [vi c] hh Q := by
  refine vX8_isFigure ?_
  by_cases c1 : c < 48
  · rw [if_pos c1]; exact h0 (by unfold isF; omega)
  rw [if_neg c1]
  by_cases c2 : 57 < c
  · rw [if_pos c2]; exact h0 (by unfold isF; omega)
  rw [if_neg c2]; exact h1 (by unfold isF; omega)
theorem pLt_t {c : Int} (x : isL c) : pLt c = true := decide_eq_true x
theorem pLt_f {c : Int} (x : ¬ isL c) : ¬ pLt c = true := by unfold pLt; rw [decide_eq_false x]; decide
theorem pFg_t {c : Int} (x : isF c) : pFg c = true := decide_eq_true x
theorem pFg_f {c : Int} (x : ¬ isF c) : ¬ pFg c = true := by unfold pFg; rw [decide_eq_false x]; decide
theorem sX8_isSpelled (hs : strs (PS h s r)) (hx : cTx T L s) {q n i : Nat} (hi : i < 4) (hq : s 17 2 = q) (hE : s 17 3 = ((q + n : Nat) : Int)) (hn : q + n ≤ L)
    (h1 : n = (skB i).length → (∀ j : Nat, j < n → T ((q + j : Nat) : Int) = (skB i).getD j 0) → Q (some (vi 1)) (PS h s r)) (h0 : ¬ (n = (skB i).length ∧ ∀ j : Nat, j < n → T ((q + j : Nat) : Int) = (skB i).getD j 0) → Q (some (vi 0)) (PS h s r)) : cz G mX8_isSpelled (d + 5) 0 0 [vo 17, vo (i + 1)] (PS h s r) Q := by
  obtain ⟨x1, x2, x3, x4⟩ := hx
  have h14 := skB_l14 i hi
  refine vX8_isSpelled ?_
  rw [ri_17_3, ri_17_2, hq, hE, nnR_q, rcv_q (hs i hi).1]
  refine sJ_length (d := d + 3) hs hi ?_
  rw [atI_q, show w32 (((q + n : Nat) : Int) - (q : Int)) = (n : Int) by rw [w32_id] <;> omega]
  by_cases c : (n : Int) = ((skB i).length : Int)
  · have cn : n = (skB i).length := by omega
    rw [if_pos c]
    have W : ∀ (f j : Nat), n = j + f → (∀ k : Nat, k < j → T ((q + k : Nat) : Int) = (skB i).getD k 0) → pX8_isSpelled_20 G (d + 4) 17 (some (i + 1)) j (PS h s r) Q := by
      intro f
      induction f with
      | zero =>
        intro j hj hk
        refine vX8_isSpelled_20 ?_
        rw [nnR_q, rcv_q (hs i hi).1]
        refine sJ_length (d := d + 3) hs hi ?_
        rw [atI_q, if_pos (by omega)]
        exact h1 cn (fun k hk2 => hk k (by omega))
      | succ f ih =>
        intro j hj hk
        refine vX8_isSpelled_20 ?_
        rw [nnR_q, rcv_q (hs i hi).1]
        refine sJ_length (d := d + 3) hs hi ?_
        rw [atI_q, if_neg (by omega), ro_17_0, ri_17_2, hq, show w32 ((q : Int) + (j : Int)) = ((q + j : Nat) : Int) by rw [w32_id] <;> omega, ld_18]
        refine ⟨by omega, by omega, ?_⟩
        rw [rcv_q (hs i hi).1, x3 _ (by omega) (by omega)]
        refine sJ_charAt (d := d) hs hi (by omega) (by omega) ?_
        rw [atI_q, Int.toNat_natCast]
        by_cases ce : T ((q + j : Nat) : Int) = (skB i).getD j 0
        · rw [if_pos ce, show w32 ((j : Int) + 1) = ((j + 1 : Nat) : Int) by rw [w32_id] <;> omega]
          refine ih (j + 1) (by omega) (fun k hk2 => ?_)
          by_cases ck : k = j
          · subst ck; exact ce
          · exact hk k (by omega)
        · rw [if_neg ce]
          exact h0 (fun z => ce (z.2 j (by omega)))
    exact W n 0 (by omega) (fun k hk => absurd hk (by omega))
  · rw [if_neg c]
    exact h0 (fun z => c (by rw [z.1]))
/-- a word has been read: its token -/
theorem sX8_word (hs : ∀ s', strs (PS h s' r)) (hx : cTx T L s) {q n : Nat} (hq : s 17 2 = q) (hn1 : 1 ≤ n) (hn : q + n ≤ L) (hk : Q none (PS h (uf (uf s 17 3 ((q + n : Nat) : Int)) 17 4 (wdC T q n)) r)) : pX8_readWord_57 G (d + 5) 17 ((q + n : Nat) : Int) (PS h s r) Q := by
  have hx0 := hx
  obtain ⟨x1, x2, x3, x4⟩ := hx
  refine vX8_readWord_57 ?_
  rw [wi_17_3, ri_17_2, show uf s 17 3 ((q + n : Nat) : Int) 17 2 = s 17 2 from rfl, hq, show w32 (((q + n : Nat) : Int) - (q : Int)) = (n : Int) by rw [w32_id] <;> omega]
  have hx1 : cTx T L (uf s 17 3 ((q + n : Nat) : Int)) := cTx_17 (fr17_uf (by decide)) hx0
  have t0 := x4 q (by omega) (by omega)
  unfold wdC at hk
  by_cases c1 : n = 1
  · rw [if_pos (by omega), ro_17_0, ri_17_2, show uf s 17 3 ((q + n : Nat) : Int) 17 2 = s 17 2 from rfl, hq, ld_18]
    refine ⟨by omega, by omega, ?_⟩
    rw [wi_17_4, show uf s 17 3 ((q + n : Nat) : Int) 18 q = s 18 q from rfl, x3 q (by omega) (by omega)]
    rw [if_pos c1] at hk
    exact hk
  rw [if_neg (by omega), rc_17]
  rw [if_neg c1] at hk
  refine sX8_isSpelled (i := 0) (d := d) (hs _) hx1 (by decide) hq rfl hn (fun y1 y2 => ?_) (fun y => ?_)
  · rw [atI_q, if_neg (by decide), wi_17_4]
    have n4 : n = 4 := y1
    have k0 := y2 0 (by omega); have k1 := y2 1 (by omega); have k2 := y2 2 (by omega); have k3 := y2 3 (by omega)
    rw [if_pos ⟨n4, k0, k1, k2, k3⟩] at hk
    exact hk
  rw [atI_q, if_pos rfl, rc_17]
  rw [if_neg (fun z => y ⟨z.1, fun j hj => by
    obtain ⟨z0, z1, z2, z3, z4⟩ := z
    have : j = 0 ∨ j = 1 ∨ j = 2 ∨ j = 3 := by omega
    rcases this with rfl | rfl | rfl | rfl
    · exact z1
    · exact z2
    · exact z3
    · exact z4⟩)] at hk
  clear y
  refine sX8_isSpelled (i := 1) (d := d) (hs _) hx1 (by decide) hq rfl hn (fun y1 y2 => ?_) (fun y => ?_)
  · rw [atI_q, if_neg (by decide), wi_17_4]
    have n4 : n = 2 := y1
    have k0 := y2 0 (by omega); have k1 := y2 1 (by omega)
    rw [if_pos ⟨n4, k0, k1⟩] at hk
    exact hk
  rw [atI_q, if_pos rfl, rc_17]
  rw [if_neg (fun z => y ⟨z.1, fun j hj => by
    obtain ⟨z0, z1, z2⟩ := z
    have : j = 0 ∨ j = 1 := by omega
    rcases this with rfl | rfl
    · exact z1
    · exact z2⟩)] at hk
  clear y
  refine sX8_isSpelled (i := 2) (d := d) (hs _) hx1 (by decide) hq rfl hn (fun y1 y2 => ?_) (fun y => ?_)
  · rw [atI_q, if_neg (by decide), wi_17_4]
    have n4 : n = 3 := y1
    have k0 := y2 0 (by omega); have k1 := y2 1 (by omega); have k2 := y2 2 (by omega)
    rw [if_pos ⟨n4, k0, k1, k2⟩] at hk
    exact hk
  rw [atI_q, if_pos rfl, rc_17]
  rw [if_neg (fun z => y ⟨z.1, fun j hj => by
    obtain ⟨z0, z1, z2, z3⟩ := z
    have : j = 0 ∨ j = 1 ∨ j = 2 := by omega
    rcases this with rfl | rfl | rfl
    · exact z1
    · exact z2
    · exact z3⟩)] at hk
  clear y
  refine vX8_moneyWord ?_
  rw [ri_17_3, show uf s 17 3 ((q + n : Nat) : Int) 17 3 = ((q + n : Nat) : Int) from rfl, ri_17_2, show uf s 17 3 ((q + n : Nat) : Int) 17 2 = s 17 2 from rfl, hq, show w32 (((q + n : Nat) : Int) - (q : Int)) = (n : Int) by rw [w32_id] <;> omega]
  by_cases c2 : n = 2
  · rw [if_pos (by omega), ro_17_0, ri_17_2, show uf s 17 3 ((q + n : Nat) : Int) 17 2 = s 17 2 from rfl, hq, ld_18]
    refine ⟨by omega, by omega, ?_⟩
    rw [show uf s 17 3 ((q + n : Nat) : Int) 18 q = s 18 q from rfl, x3 q (by omega) (by omega)]
    by_cases c3 : T q = 109
    · rw [if_pos c3, ro_17_0, ri_17_2, show uf s 17 3 ((q + n : Nat) : Int) 17 2 = s 17 2 from rfl, hq, show w32 ((q : Int) + 1) = (q : Int) + 1 by rw [w32_id] <;> omega, ld_18]
      refine ⟨by omega, by omega, ?_⟩
      have t1 := x4 (q + 1) (by omega) (by omega)
      rw [show uf s 17 3 ((q + n : Nat) : Int) 18 ((q : Int) + 1) = s 18 ((q : Int) + 1) from rfl, x3 ((q : Int) + 1) (by omega) (by omega), show w32 (T ((q : Int) + 1) - 48) = T ((q : Int) + 1) - 48 by rw [w32_id] <;> omega]
      by_cases c4 : T ((q : Int) + 1) - 48 < 0
      · rw [if_pos c4, atI_q, wi_17_4]
        rw [if_neg (by omega)] at hk
        exact hk
      rw [if_neg c4]
      by_cases c5 : 4 ≤ T ((q : Int) + 1) - 48
      · rw [if_pos c5, atI_q, wi_17_4]
        rw [if_neg (by omega)] at hk
        exact hk
      rw [if_neg c5, atI_q, wi_17_4, show w32 (5 + (T ((q : Int) + 1) - 48)) = 5 + (T ((q : Int) + 1) - 48) by rw [w32_id] <;> omega]
      rw [if_pos (by omega)] at hk
      exact hk
    · rw [if_neg c3, atI_q, wi_17_4]
      rw [if_neg (by omega)] at hk
      exact hk
  · rw [if_neg (by omega), atI_q, wi_17_4]
    rw [if_neg (by omega)] at hk
    exact hk
theorem sX8_readWord (hs : ∀ s', strs (PS h s' r)) (hx : cTx T L s) {q : Nat} (hq : s 17 2 = q) (hqL : q < L) (hl : isL (T q)) (hk : Q none (PS h (uf (uf s 17 3 (go T L pFg (go T L pLt q) : Nat)) 17 4 (wdC T q (go T L pFg (go T L pLt q) - q))) r)) : cz G mX8_readWord (d + 6) 0 0 [vo 17] (PS h s r) Q := by
  have hx0 := hx
  obtain ⟨x1, x2, x3, x4⟩ := hx
  refine vX8_readWord ?_
  rw [ri_17_2, hq]
  have F : ∀ (f i : Nat), L = i + f → q < i → go T L pFg i = go T L pFg (go T L pLt q) → pX8_readWord_31 G (d + 5) 17 i (PS h s r) Q := by
    intro f
    induction f with
    | zero =>
      intro i hi hqi hg
      rw [go_n (by omega)] at hg
      refine vX8_readWord_31 ?_
      rw [ri_17_1, x1, if_pos (by omega)]
      rw [← hg] at hk
      have := sX8_word (G := G) (d := d) hs hx0 (q := q) (n := i - q) hq (by omega) (by omega) (by rw [show q + (i - q) = i by omega]; exact hk)
      rw [show q + (i - q) = i by omega] at this
      exact this
    | succ f ih =>
      intro i hi hqi hg
      have ti := x4 i (by omega) (by omega)
      refine vX8_readWord_31 ?_
      rw [ri_17_1, x1, if_neg (by omega), ro_17_0, ld_18, x3 i (by omega) (by omega)]
      refine ⟨by omega, by omega, ?_⟩
      refine sX8_isFigure (fun y => ?_) (fun y => ?_)
      · rw [atI_q, if_neg (by decide), show w32 ((i : Int) + 1) = ((i + 1 : Nat) : Int) by rw [w32_id] <;> omega]
        rw [go_y (by omega) (pFg_t y)] at hg
        exact ih (i + 1) (by omega) (by omega) hg
      · rw [atI_q, if_pos rfl]
        rw [go_n (fun z => pFg_f y z.2)] at hg
        rw [← hg] at hk
        have := sX8_word (G := G) (d := d) hs hx0 (q := q) (n := i - q) hq (by omega) (by omega) (by rw [show q + (i - q) = i by omega]; exact hk)
        rw [show q + (i - q) = i by omega] at this
        exact this
  have A : ∀ (f i : Nat), L = i + f → q < i → go T L pLt i = go T L pLt q → pX8_readWord_5 G (d + 5) 17 i (PS h s r) Q := by
    intro f
    induction f with
    | zero =>
      intro i hi hqi hg
      refine vX8_readWord_5 ?_
      rw [ri_17_1, x1, if_pos (by omega)]
      rw [go_n (by omega)] at hg
      exact F 0 i hi hqi (by rw [← hg])
    | succ f ih =>
      intro i hi hqi hg
      have ti := x4 i (by omega) (by omega)
      refine vX8_readWord_5 ?_
      rw [ri_17_1, x1, if_neg (by omega), ro_17_0, ld_18, x3 i (by omega) (by omega)]
      refine ⟨by omega, by omega, ?_⟩
      refine sX8_isLetter (fun y => ?_) (fun y => ?_)
      · rw [atI_q, if_neg (by decide), show w32 ((i : Int) + 1) = ((i + 1 : Nat) : Int) by rw [w32_id] <;> omega]
        rw [go_y (by omega) (pLt_t y)] at hg
        exact ih (i + 1) (by omega) (by omega) hg
      · rw [atI_q, if_pos rfl]
        rw [go_n (fun z => pLt_f y z.2)] at hg
        exact F (f + 1) i hi hqi (by rw [← hg])
  refine vX8_readWord_5 ?_
  rw [ri_17_1, x1, if_neg (by omega), ro_17_0, ld_18, x3 q (by omega) (by omega)]
  refine ⟨by omega, by omega, ?_⟩
  refine sX8_isLetter (fun y => ?_) (fun y => absurd hl y)
  rw [atI_q, if_neg (by decide), show w32 ((q : Int) + 1) = ((q + 1 : Nat) : Int) by rw [w32_id] <;> omega]
  exact A (L - (q + 1)) (q + 1) (by omega) (by omega) (go_y hqL (pLt_t hl)).symm
theorem pow_9 {k : Nat} (h : k ≤ 9) : (10 : Int) ^ k ≤ 1000000000 := by
  have : k = 0 ∨ k = 1 ∨ k = 2 ∨ k = 3 ∨ k = 4 ∨ k = 5 ∨ k = 6 ∨ k = 7 ∨ k = 8 ∨ k = 9 := by omega
  rcases this with rfl | rfl | rfl | rfl | rfl | rfl | rfl | rfl | rfl | rfl <;> decide
theorem nvr_rg {q : Nat} : ∀ k : Nat, (∀ j : Nat, j < k → isF (T ((q + j : Nat) : Int))) → 0 ≤ nvr T q k ∧ nvr T q k < 10 ^ k
  | 0, _ => ⟨by show (0 : Int) ≤ 0; omega, by show (0 : Int) < 10 ^ 0; decide⟩
  | k + 1, hk => by
    have h1 := nvr_rg k (fun j hj => hk j (by omega))
    have h2 := hk k (by omega)
    unfold isF at h2
    rw [Int.pow_succ]
    show 0 ≤ 10 * nvr T q k + (T ((q + k : Nat) : Int) - 48) ∧ 10 * nvr T q k + (T ((q + k : Nat) : Int) - 48) < 10 ^ k * 10
    generalize nvr T q k = v at h1
    generalize (10 : Int) ^ k = p at h1
    omega
theorem sX8_readNumber (hx : cTx T L s) {q : Nat} (hq : s 17 2 = q) (hqL : q < L) (hk : ∀ v : Int, (go T L pFg q - q ≤ 9 → v = nvr T q (go T L pFg q - q)) → Q none (PS h (uf (uf (uf s 17 3 (go T L pFg q : Nat)) 17 5 v) 17 4 (if go T L pFg q - q ≤ 9 then 1 else 9)) r)) : cz G mX8_readNumber (d + 1) 0 0 [vo 17] (PS h s r) Q := by
  have hx0 := hx
  obtain ⟨x1, x2, x3, x4⟩ := hx
  refine vX8_readNumber ?_
  rw [ri_17_2, hq]
  have fin : ∀ (i : Nat) (v : Int), q ≤ i → i ≤ L → i = go T L pFg q → (i - q ≤ 9 → v = nvr T q (i - q)) → pX8_readNumber_48 G d 17 i v (PS h s r) Q := by
    intro i v hqi hiL hg hv
    subst hg
    refine vX8_readNumber_48 ?_
    rw [wi_17_3, wi_17_5, ri_17_2, show uf (uf s 17 3 (go T L pFg q : Nat)) 17 5 v 17 2 = s 17 2 from rfl, hq, show w32 ((go T L pFg q : Int) - (q : Int)) = (go T L pFg q : Int) - (q : Int) by rw [w32_id] <;> omega]
    have := hk v hv
    by_cases c : go T L pFg q - q ≤ 9
    · rw [if_pos c] at this
      rw [if_neg (by omega), wi_17_4]
      exact this
    · rw [if_neg c] at this
      rw [if_pos (by omega), wi_17_4]
      exact this
  have A : ∀ (f i : Nat) (v : Int), L = i + f → q ≤ i → go T L pFg i = go T L pFg q → (i - q ≤ 9 → v = nvr T q (i - q)) → (∀ j : Nat, j < i - q → isF (T ((q + j : Nat) : Int))) → pX8_readNumber_7 G d 17 i v (PS h s r) Q := by
    intro f
    induction f with
    | zero =>
      intro i v hi hqi hg hv hF
      refine vX8_readNumber_7 ?_
      rw [ri_17_1, x1, if_pos (by omega)]
      rw [go_n (by omega)] at hg
      exact fin i v hqi (by omega) hg hv
    | succ f ih =>
      intro i v hi hqi hg hv hF
      have ti := x4 i (by omega) (by omega)
      refine vX8_readNumber_7 ?_
      rw [ri_17_1, x1, if_neg (by omega), ro_17_0, ld_18, x3 i (by omega) (by omega)]
      refine ⟨by omega, by omega, ?_⟩
      refine sX8_isFigure (fun y => ?_) (fun y => ?_)
      · rw [atI_q, if_neg (by decide), ro_17_0, ld_18, x3 i (by omega) (by omega), show w32 ((i : Int) + 1) = ((i + 1 : Nat) : Int) by rw [w32_id] <;> omega]
        refine ⟨by omega, by omega, ?_⟩
        rw [go_y (by omega) (pFg_t y)] at hg
        refine ih (i + 1) _ (by omega) (by omega) hg (fun h9 => ?_) (fun j hj => ?_)
        · have e1 := hv (by omega)
          have e2 := nvr_rg (T := T) (q := q) (i - q) hF
          have e3 := pow_9 (k := i - q) (by omega)
          have e4 : (10 : Int) ^ (i - q) ≤ 100000000 := by
            have h8 : i - q ≤ 8 := by omega
            have : i - q = 0 ∨ i - q = 1 ∨ i - q = 2 ∨ i - q = 3 ∨ i - q = 4 ∨ i - q = 5 ∨ i - q = 6 ∨ i - q = 7 ∨ i - q = 8 := by omega
            rcases this with z | z | z | z | z | z | z | z | z <;> rw [z] <;> decide
          rw [← e1] at e2
          unfold isF at y
          rw [show i + 1 - q = (i - q) + 1 by omega]
          show _ = 10 * nvr T q (i - q) + (T ((q + (i - q) : Nat) : Int) - 48)
          rw [← e1, show q + (i - q) = i by omega]
          generalize (10 : Int) ^ (i - q) = p at e2 e4
          clear hv ih hF hk fin e3 e1 hx0 x3 x4 hg
          rw [w32_id (x := v * 10) (by omega) (by omega), w32_id (x := T i - 48) (by omega) (by omega), w32_id (by omega) (by omega)]
          omega
        · by_cases cj : j < i - q
          · exact hF j cj
          · rw [show q + j = i by omega]; exact y
      · rw [atI_q, if_pos rfl]
        rw [go_n (fun z => pFg_f y z.2)] at hg
        exact fin i v hqi (by omega) hg hv
  exact A (L - q) q 0 (by omega) (Nat.le_refl _) rfl (fun _ => by rw [show q - q = 0 by omega]; rfl) (fun j hj => absurd hj (by omega))
/-- the class's next token: what is left of the place -/
theorem cn_w {s1 : Nat → Int → Int} (hs : ∀ s', strs (PS h s' r)) (hx : cTx T L s1) (c : lxP T L e < L) (p1 : s1 17 2 = (lxP T L e : Nat)) (yl : isL (T (lxP T L e : Nat))) (hk : ∀ s', fr17 s1 s' → cTok T L s' e → Q none (PS h s' r)) : cz G mX8_readWord (d + 6) 0 0 [vo 17] (PS h s1 r) Q := by
  have tq := hx.2.2.2 (lxP T L e : Nat) (by omega) (by omega)
  have eE : go T L pFg (go T L pLt (lxP T L e)) = lxE T L e := by unfold lxE; rw [if_neg (by omega), if_pos yl]
  have eC : lxC T L e = wdC T (lxP T L e) (lxE T L e - lxP T L e) := by unfold lxC; rw [if_neg (by omega), if_pos yl]
  refine sX8_readWord (d := d) hs hx p1 c yl ?_
  rw [eE]
  refine hk _ (fr17_tr (fr17_uf (by decide)) (fr17_uf (by decide))) ⟨p1, rfl, eC.symm, fun z => ?_⟩
  exfalso
  rw [eC] at z
  unfold wdC at z
  repeat' split at z
  all_goals omega
theorem cn_n {s1 : Nat → Int → Int} (hx : cTx T L s1) (c : lxP T L e < L) (p1 : s1 17 2 = (lxP T L e : Nat)) (yl : ¬ isL (T (lxP T L e : Nat))) (yf : isF (T (lxP T L e : Nat))) (hk : ∀ s', fr17 s1 s' → cTok T L s' e → Q none (PS h s' r)) : cz G mX8_readNumber (d + 1) 0 0 [vo 17] (PS h s1 r) Q := by
  have eE : go T L pFg (lxP T L e) = lxE T L e := by unfold lxE; rw [if_neg (by omega), if_neg yl, if_pos yf]
  have eC : lxC T L e = (if lxE T L e - lxP T L e ≤ 9 then 1 else 9) := by unfold lxC; rw [if_neg (by omega), if_neg yl, if_pos yf]
  refine sX8_readNumber hx p1 c (fun v hv => ?_)
  rw [eE] at hv ⊢
  refine hk _ (fr17_tr (fr17_tr (fr17_uf (by decide)) (fr17_uf (by decide))) (fr17_uf (by decide))) ⟨p1, rfl, eC.symm, fun z => ?_⟩
  rw [eC] at z
  by_cases c9 : lxE T L e - lxP T L e ≤ 9
  · exact hv c9
  · rw [if_neg c9] at z; omega
theorem cn_s {s1 : Nat → Int → Int} {t : Int} (c : lxP T L e < L) (p1 : s1 17 2 = (lxP T L e : Nat)) (yl : ¬ isL (T (lxP T L e : Nat))) (yf : ¬ isF (T (lxP T L e : Nat))) (ht : t = (if isS (T (lxP T L e : Nat)) then T (lxP T L e : Nat) else 9)) (t1 : t ≠ 1) : cTok T L (uf (uf s1 17 3 ((lxP T L e + 1 : Nat) : Int)) 17 4 t) e := by
  have eE : lxE T L e = lxP T L e + 1 := by unfold lxE; rw [if_neg (by omega), if_neg yl, if_neg yf]
  have eC : lxC T L e = t := by unfold lxC; rw [if_neg (by omega), if_neg yl, if_neg yf, ht]
  refine ⟨p1, ?_, eC.symm, fun z => absurd (eC.symm.trans z) t1⟩
  rw [eE]
  rfl
theorem cn_30 {s1 : Nat → Int → Int} (hs : ∀ s', strs (PS h s' r)) (hx : cTx T L s) (heL : e ≤ L) (hk : ∀ s', fr17 s s' → cTok T L s' e → Q none (PS h s' r)) : pX8_next_30 G (d + 6) 17 (lxP T L e : Nat) (PS h s r) Q := by
  have hx0 := hx
  obtain ⟨x1, x2, x3, x4⟩ := hx
  have hpL := lxP_le (T := T) heL
  refine vX8_next_30 ?_
  rw [wi_17_2, wi_17_3, ri_17_1]
  generalize hs1 : uf (uf s 17 2 (lxP T L e : Nat)) 17 3 (lxP T L e : Nat) = s1
  have f1 : fr17 s s1 := by rw [← hs1]; exact fr17_tr (fr17_uf (by decide)) (fr17_uf (by decide))
  have hx1 := cTx_17 f1 hx0
  have p1 : s1 17 2 = (lxP T L e : Nat) := by rw [← hs1]; rfl
  have p2 : s1 17 3 = (lxP T L e : Nat) := by rw [← hs1]; rfl
  have hk1 : ∀ s', fr17 s1 s' → cTok T L s' e → Q none (PS h s' r) := fun s' z1 z2 => hk s' (fr17_tr f1 z1) z2
  clear hk hs1 f1 hx0 x1 x3
  obtain ⟨y1, y2, y3, y4⟩ := hx1
  rw [y1]
  by_cases c : lxP T L e < L
  · rw [if_pos (by omega), ro_17_0, ld_18, y3 _ (by omega) (by omega)]
    refine ⟨by omega, by omega, ?_⟩
    have tq := x4 (lxP T L e : Nat) (by omega) (by omega)
    refine sX8_isLetter (fun yl => ?_) (fun yl => ?_)
    · rw [atI_q, if_neg (by decide), rc_17]
      exact cn_w (d := d) hs ⟨y1, y2, y3, y4⟩ c p1 yl (fun s' z1 z2 => by rw [atV_q]; exact hk1 s' z1 z2)
    · rw [atI_q, if_pos rfl, ro_17_0, ld_18, y3 _ (by omega) (by omega)]
      refine ⟨by omega, by omega, ?_⟩
      refine sX8_isFigure (fun yf => ?_) (fun yf => ?_)
      · rw [atI_q, if_neg (by decide), rc_17]
        exact cn_n (d := d + 5) ⟨y1, y2, y3, y4⟩ c p1 yl yf (fun s' z1 z2 => by rw [atV_q]; exact hk1 s' z1 z2)
      · have ew : w32 (((lxP T L e : Nat) : Int) + 1) = ((lxP T L e + 1 : Nat) : Int) := by rw [w32_id] <;> omega
        rw [atI_q, if_pos rfl, ew, wi_17_3, ro_17_0, ld_18]
        refine ⟨by omega, by omega, ?_⟩
        have u18 : uf s1 17 3 ((lxP T L e + 1 : Nat) : Int) 18 = s1 18 := up_ne (by decide)
        rw [u18, y3 _ (by omega) (by omega), rcv_q (hs _ 3 (by decide)).1, show T (lxP T L e : Nat) % 65536 = T (lxP T L e : Nat) by omega]
        refine sJ_indexOf (d := d + 2) (hs _) tq.1 tq.2 (fun x x0 ys => ?_) (fun ys => ?_)
        · rw [atI_q, if_neg (by omega), ro_17_0, ld_18]
          refine ⟨by omega, by omega, ?_⟩
          rw [u18, y3 _ (by omega) (by omega), wi_17_4]
          exact hk1 _ (fr17_tr (fr17_uf (by decide)) (fr17_uf (by decide))) (cn_s c p1 yl yf (by rw [if_pos ys]) (by omega))
        · rw [atI_q, if_pos (by decide), wi_17_4]
          exact hk1 _ (fr17_tr (fr17_uf (by decide)) (fr17_uf (by decide))) (cn_s c p1 yl yf (by rw [if_neg ys]) (by decide))
  · rw [if_neg (by omega), wi_17_4]
    have eE : lxE T L e = lxP T L e := by unfold lxE; rw [if_pos (by omega)]
    have eC : lxC T L e = 0 := by unfold lxC; rw [if_pos (by omega)]
    refine hk1 _ (fr17_uf (by decide)) ⟨p1, ?_, eC.symm, fun z => ?_⟩
    · rw [eE]; exact p2
    · rw [eC] at z
      omega
/-- the class's next token -/
theorem sX8_next (hs : ∀ s', strs (PS h s' r)) (hx : cTx T L s) (he : s 17 3 = e) (heL : e ≤ L) (hk : ∀ s', fr17 s s' → cTok T L s' e → Q none (PS h s' r)) : cz G mX8_next (d + 7) 0 0 [vo 17] (PS h s r) Q := by
  have fin : pX8_next_30 G (d + 6) 17 (lxP T L e : Nat) (PS h s r) Q := cn_30 (s1 := s) hs hx heL hk
  obtain ⟨x1, x2, x3, x4⟩ := hx
  refine vX8_next ?_
  rw [ri_17_3, he]
  have A : ∀ (f i : Nat), L = i + f → go T L pSp i = lxP T L e → pX8_next_5 G (d + 6) 17 i (PS h s r) Q := by
    intro f
    induction f with
    | zero =>
      intro i hi hg
      refine vX8_next_5 ?_
      rw [ri_17_1, x1, if_pos (by omega)]
      rw [go_n (by omega)] at hg
      rw [hg]
      exact fin
    | succ f ih =>
      intro i hi hg
      refine vX8_next_5 ?_
      rw [ri_17_1, x1, if_neg (by omega), ro_17_0, ld_18, x3 i (by omega) (by omega)]
      refine ⟨by omega, by omega, ?_⟩
      by_cases c : T i = 32
      · rw [if_pos c, show w32 ((i : Int) + 1) = ((i + 1 : Nat) : Int) by rw [w32_id] <;> omega]
        rw [go_y (by omega) (decide_eq_true c)] at hg
        exact ih (i + 1) (by omega) hg
      · rw [if_neg c]
        rw [go_n (fun z => c (of_decide_eq_true z.2))] at hg
        rw [hg]
        exact fin
  exact A (L - e) e (by omega) rfl
end CN
