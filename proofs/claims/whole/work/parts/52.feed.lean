/-! FEED -/
/-- the bytes of a word, from the highest -/
def byt (x j : Int) : Int := (x % 4294967296 / (if j = 0 then 16777216 else if j = 1 then 65536 else if j = 2 then 256 else 1)) % 256
def plain (x : Int) : Prop := (32 ≤ byt x 0 ∧ byt x 0 ≤ 126) ∧ (32 ≤ byt x 1 ∧ byt x 1 ≤ 126) ∧ (32 ≤ byt x 2 ∧ byt x 2 ≤ 126) ∧ (32 ≤ byt x 3 ∧ byt x 3 ≤ 126)
theorem byt_0 (x : Int) : byt x 0 = x % 4294967296 / 16777216 % 256 := rfl
theorem byt_1 (x : Int) : byt x 1 = x % 4294967296 / 65536 % 256 := rfl
theorem byt_2 (x : Int) : byt x 2 = x % 4294967296 / 256 % 256 := rfl
theorem byt_3 (x : Int) : byt x 3 = x % 4294967296 / 1 % 256 := rfl
theorem b_0 (x : Int) : bAnd (bUshr x 24) 255 = byt x 0 := by rw [bAnd_255, bUshr_24, byt_0]
theorem b_1 (x : Int) : bAnd (bUshr x 16) 255 = byt x 1 := by rw [bAnd_255, bUshr_16, byt_1]
theorem b_2 (x : Int) : bAnd (bUshr x 8) 255 = byt x 2 := by rw [bAnd_255, bUshr_8, byt_2]
theorem b_3 (x : Int) : bAnd (bUshr x 0) 255 = byt x 3 := by
  rw [bAnd_255, bUshr_0, byt_3]
  unfold w32
  omega
theorem b_0' (x : Int) : bUshr x 24 = byt x 0 := by
  rw [bUshr_24, byt_0]
  omega
theorem b_3' (x : Int) : bAnd x 255 = byt x 3 := by
  rw [bAnd_255, byt_3]
  omega
theorem w8_b {y z : Int} (h : y % 256 = z) (h1 : 32 ≤ z) (h2 : z ≤ 126) : w8 (w8 y) = z := by
  unfold w8
  omega
section FE
variable {h : az_H} {s : Nat → Int → Int} {r : Nat → Int → Option Nat} {G : az_G} {d D : Nat} {Q : Option az_V → az_H → Prop} {cs : Int → Option Cd} {hk : Int → Option (Int × Int)} {ru : Int → Cd} {xs : List Int} {hh : az_H} {a b c e x t : Int}
theorem sX8_isPlain (h1 : plain x → Q (some (vi 1)) hh) (h0 : ¬ plain x → Q (some (vi 0)) hh) : cz G mX8_isPlain d 0 0 [vi x] hh Q := by
  refine vX8_isPlain ?_
  unfold plain at h1 h0
  refine vX8_isPlain_3 ?_
  rw [if_neg (by decide), b_0]
  by_cases c1 : byt x 0 < 32
  · rw [if_pos c1]; exact h0 (by omega)
  rw [if_neg c1]
  by_cases c2 : byt x 0 ≤ 126
  rotate_left
  · rw [if_neg c2]; exact h0 (by omega)
  rw [if_pos c2, show w32 (24 + -8) = 16 by decide]
  refine vX8_isPlain_3 ?_
  rw [if_neg (by decide), b_1]
  by_cases c3 : byt x 1 < 32
  · rw [if_pos c3]; exact h0 (by omega)
  rw [if_neg c3]
  by_cases c4 : byt x 1 ≤ 126
  rotate_left
  · rw [if_neg c4]; exact h0 (by omega)
  rw [if_pos c4, show w32 (16 + -8) = 8 by decide]
  refine vX8_isPlain_3 ?_
  rw [if_neg (by decide), b_2]
  by_cases c5 : byt x 2 < 32
  · rw [if_pos c5]; exact h0 (by omega)
  rw [if_neg c5]
  by_cases c6 : byt x 2 ≤ 126
  rotate_left
  · rw [if_neg c6]; exact h0 (by omega)
  rw [if_pos c6, show w32 (8 + -8) = 0 by decide]
  refine vX8_isPlain_3 ?_
  rw [if_neg (by decide), b_3]
  by_cases c7 : byt x 3 < 32
  · rw [if_pos c7]; exact h0 (by omega)
  rw [if_neg c7]
  by_cases c8 : byt x 3 ≤ 126
  rotate_left
  · rw [if_neg c8]; exact h0 (by omega)
  rw [if_pos c8, show w32 (0 + -8) = -8 by decide]
  refine vX8_isPlain_3 ?_
  rw [if_pos (by decide)]
  exact h1 (by omega)
theorem sX11_isText (h1 : plain x → Q (some (vi 1)) hh) (h0 : ¬ plain x → Q (some (vi 0)) hh) : cz G mX11_isText (d + 1) 0 0 [vi x] hh Q := by
  refine vX11_isText ?_
  unfold plain at h1 h0
  rw [b_0']
  refine sX11_in (fun y1 y2 => ?_) (fun y => ?_)
  · rw [atI_q, if_neg (by decide), b_1]
    refine sX11_in (fun y3 y4 => ?_) (fun y => ?_)
    · rw [atI_q, if_neg (by decide), b_2]
      refine sX11_in (fun y5 y6 => ?_) (fun y => ?_)
      · rw [atI_q, if_neg (by decide), b_3']
        refine sX11_in (fun y7 y8 => ?_) (fun y => ?_)
        · rw [atI_q, if_neg (by decide)]
          exact h1 ⟨⟨y1, y2⟩, ⟨y3, y4⟩, ⟨y5, y6⟩, y7, y8⟩
        · rw [atI_q, if_pos rfl]; exact h0 (fun z => y z.2.2.2)
      · rw [atI_q, if_pos rfl]; exact h0 (fun z => y z.2.2.1)
    · rw [atI_q, if_pos rfl]; exact h0 (fun z => y z.2.1)
  · rw [atI_q, if_pos rfl]; exact h0 (fun z => y z.1)
theorem ap1 {sh y : Int} (hs : s 17 1 = t) (t0 : 0 ≤ t) (t1 : t < 208) (sh0 : 0 ≤ sh) (hy : w8 (w8 (bUshr x sh)) = y) (hq : pX8_append_3 G d 17 x (w32 (sh + -8)) (PS h (uf (uf s 18 t y) 17 1 (t + 1)) r) Q) : pX8_append_3 G d 17 x sh (PS h s r) Q := by
  refine vX8_append_3 ?_
  rw [if_neg (by omega), ri_17_1, hs, if_neg (by omega), ro_17_0, ri_17_1, hs, st_18]
  refine ⟨t0, t1, ?_⟩
  rw [ri_17_1, wi_17_1, show uf s 18 t (w8 (w8 (bUshr x sh))) 17 1 = t from hs, hy, w32_id (x := t + 1) (by omega) (by omega)]
  exact hq
theorem sX8_append (hp : plain x) (hs : s 17 1 = t) (t0 : 0 ≤ t) (t1 : t + 4 ≤ 208) (hq : ∀ s', (∀ a, a ≠ 17 → a ≠ 18 → s' a = s a) → (∀ k, k ≠ 1 → s' 17 k = s 17 k) → s' 17 1 = t + 4 → (∀ i, s' 18 i = if t ≤ i ∧ i < t + 4 then byt x (i - t) else s 18 i) → Q none (PS h s' r)) : cz G mX8_append d 0 0 [vo 17, vi x] (PS h s r) Q := by
  obtain ⟨p0, p1, p2, p3⟩ := hp
  refine vX8_append ?_
  refine ap1 hs (by omega) (by omega) (by decide) (w8_b (by rw [← bAnd_255]; exact b_0 x) p0.1 p0.2) ?_
  refine ap1 (t := t + 1) rfl (by omega) (by omega) (by decide) (w8_b (by rw [← bAnd_255]; exact b_1 x) p1.1 p1.2) ?_
  refine ap1 (t := t + 1 + 1) rfl (by omega) (by omega) (by decide) (w8_b (by rw [← bAnd_255]; exact b_2 x) p2.1 p2.2) ?_
  refine ap1 (t := t + 1 + 1 + 1) rfl (by omega) (by omega) (by decide) (w8_b (by rw [← bAnd_255]; exact b_3 x) p3.1 p3.2) ?_
  refine vX8_append_3 ?_
  rw [if_pos (by decide)]
  refine hq _ (fun a y1 y2 => ?_) (fun k y => ?_) ?_ (fun i => ?_)
  · rw [uf, up_ne y1, uf, up_ne y2, uf, up_ne y1, uf, up_ne y2, uf, up_ne y1, uf, up_ne y2, uf, up_ne y1, uf, up_ne y2]
  · show ud (ud (ud (ud (s 17) 1 _) 1 _) 1 _) 1 _ k = _
    rw [ud_ne y, ud_ne y, ud_ne y, ud_ne y]
  · show t + 1 + 1 + 1 + 1 = t + 4
    omega
  · show ud (ud (ud (ud (s 18) t (byt x 0)) (t + 1) (byt x 1)) (t + 1 + 1) (byt x 2)) (t + 1 + 1 + 1) (byt x 3) i = _
    simp only [ud_ap]
    by_cases c3 : i = t + 1 + 1 + 1
    · rw [if_pos c3, if_pos (by omega), show i - t = 3 by omega]
    rw [if_neg c3]
    by_cases c2 : i = t + 1 + 1
    · rw [if_pos c2, if_pos (by omega), show i - t = 2 by omega]
    rw [if_neg c2]
    by_cases c1 : i = t + 1
    · rw [if_pos c1, if_pos (by omega), show i - t = 1 by omega]
    rw [if_neg c1]
    by_cases c0 : i = t
    · rw [if_pos c0, if_pos (by omega), show i - t = 0 by omega]
    rw [if_neg c0, if_neg (by omega)]
/-- the sixteen bytes -/
def fdB (a b c e k : Int) : Int := byt (if k < 4 then a else if k < 8 then b else if k < 12 then c else e) (k % 4)
theorem st_feed : stp xs (Inv xs) G (D + 2) 0 0 mX10_feed mX11_feed [vi a, vi b, vi c, vi e] := by
  refine stp_i (fun h s r cs hk ru hc hJ => ?_)
  obtain ⟨a1, a2, a3, a4, a5, a6, a7, a8, a9, a10, a11, a12, a13⟩ := hJ
  have hJ : J h s r cs hk ru := ⟨a1, a2, a3, a4, a5, a6, a7, a8, a9, a10, a11, a12, a13⟩
  obtain ⟨t1, t2, t3⟩ := a4
  have hbad : ¬ (plain a ∧ plain b ∧ plain c ∧ plain e) → aft xs G (D + 2) mX11_feed [vi a, vi b, vi c, vi e] (some (vi (-1))) (PS h s r) := by
    intro y
    refine aft_i hc ?_
    refine vX11_feed (d := D + 1) ?_
    refine sX11_isText (fun y1 => ?_) (fun _ => ?_)
    · rw [atI_q, if_neg (by decide)]
      refine sX11_isText (fun y2 => ?_) (fun _ => ?_)
      · rw [atI_q, if_neg (by decide)]
        refine sX11_isText (fun y3 => ?_) (fun _ => ?_)
        · rw [atI_q, if_neg (by decide)]
          refine sX11_isText (fun y4 => absurd ⟨y1, y2, y3, y4⟩ y) (fun _ => ?_)
          rw [atI_q, if_pos rfl]; exact fin_i rfl hJ
        · rw [atI_q, if_pos rfl]; exact fin_i rfl hJ
      · rw [atI_q, if_pos rfl]; exact fin_i rfl hJ
    · rw [atI_q, if_pos rfl]; exact fin_i rfl hJ
  refine vX10_feed (d := D + 1) ?_
  refine sX8_isPlain (fun y1 => ?_) (fun y => ?_)
  rotate_left
  · rw [atI_q, if_pos rfl]; exact hbad (fun z => y z.1)
  rw [atI_q, if_neg (by decide)]
  refine sX8_isPlain (fun y2 => ?_) (fun y => ?_)
  rotate_left
  · rw [atI_q, if_pos rfl]; exact hbad (fun z => y z.2.1)
  rw [atI_q, if_neg (by decide)]
  refine sX8_isPlain (fun y3 => ?_) (fun y => ?_)
  rotate_left
  · rw [atI_q, if_pos rfl]; exact hbad (fun z => y z.2.2.1)
  rw [atI_q, if_neg (by decide)]
  refine sX8_isPlain (fun y4 => ?_) (fun y => ?_)
  rotate_left
  · rw [atI_q, if_pos rfl]; exact hbad (fun z => y z.2.2.2)
  rw [atI_q, if_neg (by decide), ro_16_0, rc_17]
  refine vX8_hasRoomFor ?_
  rw [ri_17_1, t1, w32_id (by omega) (by omega)]
  by_cases y5 : 208 < s 54 1 + 16
  · rw [if_pos y5, atI_q, if_pos rfl]
    refine aft_i hc ?_
    refine vX11_feed (d := D + 1) ?_
    refine sX11_isText (fun _ => ?_) (fun y => absurd y1 y)
    rw [atI_q, if_neg (by decide)]
    refine sX11_isText (fun _ => ?_) (fun y => absurd y2 y)
    rw [atI_q, if_neg (by decide)]
    refine sX11_isText (fun _ => ?_) (fun y => absurd y3 y)
    rw [atI_q, if_neg (by decide)]
    refine sX11_isText (fun _ => ?_) (fun y => absurd y4 y)
    rw [atI_q, if_neg (by decide), ri_54_1, w32_id (by omega) (by omega), if_neg (by omega)]
    exact fin_i rfl hJ
  rw [if_neg y5, atI_q, if_neg (by decide), ro_16_0, rc_17]
  generalize ht : s 54 1 = t at t1 t2 t3 y5
  refine sX8_append y1 t1 (by omega) (by omega) (fun s1 p1 p2 p3 p4 => ?_)
  rw [atV_q, ro_16_0, rc_17]
  refine sX8_append y2 p3 (by omega) (by omega) (fun s2 p5 p6 p7 p8 => ?_)
  rw [atV_q, ro_16_0, rc_17]
  refine sX8_append y3 p7 (by omega) (by omega) (fun s3 p9 p10 p11 p12 => ?_)
  rw [atV_q, ro_16_0, rc_17]
  refine sX8_append y4 p11 (by omega) (by omega) (fun s4 p13 p14 p15 p16 => ?_)
  rw [atV_q, ro_16_0, rc_17]
  refine vX8_length ?_
  rw [ri_17_1, atI_q, p15]
  have e4 : ∀ a, a ≠ 17 → a ≠ 18 → s4 a = s a := fun a z1 z2 => (p13 a z1 z2).trans ((p9 a z1 z2).trans ((p5 a z1 z2).trans (p1 a z1 z2)))
  have e18 : ∀ i, s4 18 i = if t ≤ i ∧ i < t + 16 then fdB a b c e (i - t) else s 18 i := by
    intro i
    rw [p16, p12, p8, p4]
    unfold fdB
    by_cases c4 : t + 4 + 4 + 4 ≤ i ∧ i < t + 4 + 4 + 4 + 4
    · rw [if_pos c4, if_pos (by omega), if_neg (by omega), if_neg (by omega), if_neg (by omega), show (i - t) % 4 = i - (t + 4 + 4 + 4) by omega]
    rw [if_neg c4]
    by_cases c3 : t + 4 + 4 ≤ i ∧ i < t + 4 + 4 + 4
    · rw [if_pos c3, if_pos (by omega), if_neg (by omega), if_neg (by omega), if_pos (by omega), show (i - t) % 4 = i - (t + 4 + 4) by omega]
    rw [if_neg c3]
    by_cases c2 : t + 4 ≤ i ∧ i < t + 4 + 4
    · rw [if_pos c2, if_pos (by omega), if_neg (by omega), if_pos (by omega), show (i - t) % 4 = i - (t + 4) by omega]
    rw [if_neg c2]
    by_cases c1 : t ≤ i ∧ i < t + 4
    · rw [if_pos c1, if_pos (by omega), if_pos (by omega), show (i - t) % 4 = i - t by omega]
    rw [if_neg c1, if_neg (by omega)]
  have hfd : ∀ k, 0 ≤ k → k < 16 → 32 ≤ fdB a b c e k ∧ fdB a b c e k ≤ 126 := by
    intro k k0 k1
    have hpl : plain (if k < 4 then a else if k < 8 then b else if k < 12 then c else e) := by
      by_cases z1 : k < 4
      · rw [if_pos z1]; exact y1
      rw [if_neg z1]
      by_cases z2 : k < 8
      · rw [if_pos z2]; exact y2
      rw [if_neg z2]
      by_cases z3 : k < 12
      · rw [if_pos z3]; exact y3
      rw [if_neg z3]; exact y4
    unfold fdB
    generalize (if k < 4 then a else if k < 8 then b else if k < 12 then c else e) = w at hpl ⊢
    have hm : k % 4 = 0 ∨ k % 4 = 1 ∨ k % 4 = 2 ∨ k % 4 = 3 := by omega
    rcases hm with z | z | z | z
    · rw [z]; exact hpl.1
    · rw [z]; exact hpl.2.1
    · rw [z]; exact hpl.2.2.1
    · rw [z]; exact hpl.2.2.2
  refine aft_i hc ?_
  refine vX11_feed (d := D + 1) ?_
  refine sX11_isText (fun _ => ?_) (fun y => absurd y1 y)
  rw [atI_q, if_neg (by decide)]
  refine sX11_isText (fun _ => ?_) (fun y => absurd y2 y)
  rw [atI_q, if_neg (by decide)]
  refine sX11_isText (fun _ => ?_) (fun y => absurd y3 y)
  rw [atI_q, if_neg (by decide)]
  refine sX11_isText (fun _ => ?_) (fun y => absurd y4 y)
  have et : s4 54 1 = t := by rw [e4 54 (by decide) (by decide)]; exact ht
  rw [atI_q, if_neg (by decide), ri_54_1, et, w32_id (by omega) (by omega), if_pos (by omega)]
  have L : ∀ (n : Nat) (i : Int) (g : Int → Int), i = 16 - n → 0 ≤ i → (∀ k, 0 ≤ k → g k = if t ≤ k ∧ k < t + i then fdB a b c e (k - t) else s 55 k) → pX11_feed_50 G (D + 1) 54 a b c e i (PS h (up s4 55 g) r) (fun v2 h2 => v2 = some (vi (t + 4 + 4 + 4 + 4)) ∧ ∃ s'' cs' hk' ru', h2 = PS h s'' r ∧ J h s'' r cs' hk' ru') := by
    intro n
    induction n with
    | zero =>
      intro i g hi _ hg
      have : i = 16 := by omega
      subst this
      refine vX11_feed_50 ?_
      rw [if_pos (by decide), ri_54_1, wi_54_1, ri_54_1, show up s4 55 g 54 1 = t from et]
      have ew : w32 (t + 16) = t + 16 := w32_id (by omega) (by omega)
      rw [ew]
      refine ⟨?_, _, cs, hk, ru, rfl, a1, a2, REnv_e (e4 56 (by decide) (by decide)) (e4 57 (by decide) (by decide)) (e4 58 (by decide) (by decide)) (e4 59 (by decide) (by decide)) (e4 61 (by decide) (by decide)) (e4 67 (by decide) (by decide)) (e4 68 (by decide) (by decide)) a3, ⟨?_, ?_, fun k k0 k1 => ?_⟩, jL_e (e4 60 (by decide) (by decide)) a5, jR_e ?_ ?_ (e4 56 (by decide) (by decide)) (e4 57 (by decide) (by decide)) (e4 58 (by decide) (by decide)) (e4 59 (by decide) (by decide)) a6, jA_e (e4 25 (by decide) (by decide)) (e4 66 (by decide) (by decide)) a7, jM_e (e4 24 (by decide) (by decide)) (e4 69 (by decide) (by decide)) ?_ ?_ a8, jS_e (e4 53 (by decide) (by decide)) (e4 65 (by decide) (by decide)) ?_ ?_ a9, jC_e ?_ ?_ (e4 76 (by decide) (by decide)) (e4 77 (by decide) (by decide)) (e4 78 (by decide) (by decide)) (e4 79 (by decide) (by decide)) a10, jW_e ?_ ?_ ?_ (e4 50 (by decide) (by decide)) (e4 80 (by decide) (by decide)) (e4 49 (by decide) (by decide)) (e4 81 (by decide) (by decide)) a11, jK_e ?_ ?_ ?_ (e4 47 (by decide) (by decide)) (e4 83 (by decide) (by decide)) (e4 46 (by decide) (by decide)) (e4 84 (by decide) (by decide)) a12, jE_e ?_ ?_ a13⟩
      · show some (vi (t + 16)) = _
        rw [show t + 16 = t + 4 + 4 + 4 + 4 by omega]
      · show s4 17 1 = t + 16
        rw [p15]
        omega
      · show 0 ≤ t + 16 ∧ t + 16 ≤ 208
        omega
      · have k1' : k < t + 16 := k1
        show s4 18 k = g k ∧ 32 ≤ g k ∧ g k ≤ 126
        rw [e18, hg k k0]
        by_cases ck : t ≤ k ∧ k < t + 16
        · rw [if_pos ck, if_pos ck]
          exact ⟨rfl, hfd _ (by omega) (by omega)⟩
        · rw [if_neg ck, if_neg ck]
          exact t3 k k0 (by omega)
      · show s4 16 10 = _; rw [e4 16 (by decide) (by decide)]
      · show s4 54 13 = _; rw [e4 54 (by decide) (by decide)]
      · show s4 22 4 = _; rw [e4 22 (by decide) (by decide)]
      · show s4 54 29 = _; rw [e4 54 (by decide) (by decide)]
      · show s4 16 11 = _; rw [e4 16 (by decide) (by decide)]
      · show s4 54 27 = _; rw [e4 54 (by decide) (by decide)]
      · show s4 35 4 = _; rw [e4 35 (by decide) (by decide)]
      · show s4 54 40 = _; rw [e4 54 (by decide) (by decide)]
      · show s4 48 3 = _; rw [e4 48 (by decide) (by decide)]
      · show s4 54 45 = _; rw [e4 54 (by decide) (by decide)]
      · show s4 54 40 = _; rw [e4 54 (by decide) (by decide)]
      · show s4 45 3 = _; rw [e4 45 (by decide) (by decide)]
      · show s4 54 50 = _; rw [e4 54 (by decide) (by decide)]
      · show s4 54 40 = _; rw [e4 54 (by decide) (by decide)]
      · show s4 35 5 = _; rw [e4 35 (by decide) (by decide)]
      · show s4 54 53 = _; rw [e4 54 (by decide) (by decide)]
    | succ n ih =>
      intro i g hi i0 hg
      have go : ∀ w, w = (if i < 4 then a else if i < 8 then b else if i < 12 then c else e) → pX11_feed_91 G (D + 1) 54 a b c e i w (PS h (up s4 55 g) r) (fun v2 h2 => v2 = some (vi (t + 4 + 4 + 4 + 4)) ∧ ∃ s'' cs' hk' ru', h2 = PS h s'' r ∧ J h s'' r cs' hk' ru') := by
        intro w hw
        refine vX11_feed_91 ?_
        have eb : bRem i 4 = i % 4 := bRem_p i0 (by omega) (by decide) (by decide)
        have ev : bAnd (bUshr w (w32 (24 - w32 (8 * bRem i 4)))) 255 = fdB a b c e i := by
          unfold fdB
          rw [← hw, eb]
          have hm : i % 4 = 0 ∨ i % 4 = 1 ∨ i % 4 = 2 ∨ i % 4 = 3 := by omega
          rcases hm with z | z | z | z
          · rw [z]; exact b_0 w
          · rw [z]; exact b_1 w
          · rw [z]; exact b_2 w
          · rw [z]; exact b_3 w
        rw [ro_54_0, ri_54_1, show up s4 55 g 54 1 = t from et, st_55, ev, up_uf]
        have ew : w32 (t + i) = t + i := w32_id (by omega) (by omega)
        have ew1 : w32 (i + 1) = i + 1 := w32_id (by omega) (by omega)
        rw [ew, ew1]
        refine ⟨by clear ew ew1; omega, by clear ew ew1; omega, ih (i + 1) _ (by clear ew ew1; omega) (by clear ew ew1; omega) (fun k k0 => ?_)⟩
        clear ew ew1
        rw [ud_ap]
        by_cases ek : k = t + i
        · rw [if_pos ek, if_pos (by omega), show k - t = i by omega]
        · rw [if_neg ek, hg k k0]
          by_cases ck : t ≤ k ∧ k < t + i
          · rw [if_pos ck, if_pos (by omega)]
          · rw [if_neg ck, if_neg (by omega)]
      refine vX11_feed_50 ?_
      rw [if_neg (by omega)]
      by_cases z1 : 4 ≤ i
      · rw [if_pos z1]
        by_cases z2 : 8 ≤ i
        · rw [if_pos z2]
          by_cases z3 : 12 ≤ i
          · rw [if_pos z3]; exact go _ (by rw [if_neg (by omega), if_neg (by omega), if_neg (by omega)])
          · rw [if_neg z3]; exact go _ (by rw [if_neg (by omega), if_neg (by omega), if_pos (by omega)])
        · rw [if_neg z2]; exact go _ (by rw [if_neg (by omega), if_pos (by omega)])
      · rw [if_neg z1]; exact go _ (by rw [if_pos (by omega)])
  have := L 16 0 (s4 55) (by omega) (by omega) (fun k k0 => by rw [if_neg (by omega), e4 55 (by decide) (by decide)])
  rw [up_same] at this
  exact this
end FE
