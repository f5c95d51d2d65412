/-! TEXTS: the reference's next token -/
def TK (c t w : Int) : Prop :=
  (t = 0 ∧ c = 0) ∨ (t = 2 ∧ c = 1) ∨ (t = 3 ∧ c = 9) ∨ (isS t ∧ c = t) ∨
  (t = 1 ∧ ((isL w ∧ c = w) ∨ (w = 1852138852 ∧ c = 2) ∨ (w = 26982 ∧ c = 3) ∨ (w = 7364985 ∧ c = 4) ∨ (27952 ≤ w ∧ w ≤ 27955 ∧ c = w - 27947) ∨ (c = 9 ∧ ¬ isL w ∧ w ≠ 1852138852 ∧ w ≠ 26982 ∧ w ≠ 7364985 ∧ ¬ (27952 ≤ w ∧ w ≤ 27955))))
def rTok (T : Int → Int) (L : Nat) (s : Nat → Int → Int) (e : Nat) : Prop := s 54 3 = lxP T L e ∧ s 54 4 = lxE T L e ∧ (lxC T L e = 1 → s 54 6 = lxN T L e) ∧ TK (lxC T L e) (s 54 2) (s 54 5)
def fr54 (s s' : Nat → Int → Int) : Prop := (∀ a, a ≠ 54 → s' a = s a) ∧ ∀ k, k ≠ 2 → k ≠ 3 → k ≠ 4 → k ≠ 5 → k ≠ 6 → s' 54 k = s 54 k
theorem fr54_tr {s s' s'' : Nat → Int → Int} (h1 : fr54 s s') (h2 : fr54 s' s'') : fr54 s s'' := ⟨fun a x => (h2.1 a x).trans (h1.1 a x), fun k x1 x2 x3 x4 x5 => (h2.2 k x1 x2 x3 x4 x5).trans (h1.2 k x1 x2 x3 x4 x5)⟩
theorem fr54_rf {s : Nat → Int → Int} : fr54 s s := ⟨fun _ _ => rfl, fun _ _ _ _ _ _ => rfl⟩
theorem fr54_uf {s : Nat → Int → Int} {k v : Int} (hk : k = 2 ∨ k = 3 ∨ k = 4 ∨ k = 5 ∨ k = 6) : fr54 s (uf s 54 k v) := ⟨fun a x => up_ne x, fun j x1 x2 x3 x4 x5 => ud_ne (by omega)⟩
def rTx (T : Int → Int) (L : Nat) (s : Nat → Int → Int) : Prop := s 54 1 = L ∧ L ≤ 208 ∧ (∀ i : Int, 0 ≤ i → i < L → s 55 i = T i) ∧ ∀ i : Int, 0 ≤ i → i < L → 32 ≤ T i ∧ T i ≤ 126
theorem rTx_54 {T : Int → Int} {L : Nat} {s s' : Nat → Int → Int} (hf : fr54 s s') (hx : rTx T L s) : rTx T L s' := by
  unfold rTx at *
  rw [hf.1 55 (by decide), hf.2 1 (by decide) (by decide) (by decide) (by decide) (by decide)]
  exact hx
def wv (T : Int → Int) (q : Nat) : Nat → Int
  | 0 => 0
  | k + 1 => 256 * wv T q k + T ((q + k : Nat) : Int)
theorem or_8 {v y : Int} (v0 : 0 ≤ v) (v1 : v < 8388608) (y0 : 0 ≤ y) (y1 : y < 256) : bOr (bShl v 8) y = 256 * v + y := by
  have e1 : bShl v 8 = 256 * v := by
    rw [bShl_n v 8 (by decide) (by decide), show v % 4294967296 = v by omega, show (8 : Int).toNat = 8 from rfl, Nat.shiftLeft_eq, w32_id (by omega) (by omega)]
    omega
  rw [e1, bOr_n, show 256 * v % 4294967296 = 256 * v by omega, show y % 4294967296 = y by omega]
  have e2 := Nat.shiftLeft_add_eq_or_of_lt (b := y.toNat) (i := 8) (by omega) v.toNat
  rw [Nat.shiftLeft_eq] at e2
  rw [show (256 * v).toNat = v.toNat * 2 ^ 8 by omega, ← e2, w32_id (by omega) (by omega)]
  omega
theorem TK_1 {c w : Int} (h : (isL w ∧ c = w) ∨ (w = 1852138852 ∧ c = 2) ∨ (w = 26982 ∧ c = 3) ∨ (w = 7364985 ∧ c = 4) ∨ (27952 ≤ w ∧ w ≤ 27955 ∧ c = w - 27947) ∨ (c = 9 ∧ ¬ isL w ∧ w ≠ 1852138852 ∧ w ≠ 26982 ∧ w ≠ 7364985 ∧ ¬ (27952 ≤ w ∧ w ≤ 27955))) : TK c 1 w := Or.inr (Or.inr (Or.inr (Or.inr ⟨rfl, h⟩)))
theorem TK_9 {w : Int} (h1 : ¬ isL w) (h2 : w ≠ 1852138852) (h3 : w ≠ 26982) (h4 : w ≠ 7364985) (h5 : ¬ (27952 ≤ w ∧ w ≤ 27955)) : TK 9 1 w := TK_1 (Or.inr (Or.inr (Or.inr (Or.inr (Or.inr ⟨rfl, h1, h2, h3, h4, h5⟩)))))
theorem TK_w {T : Int → Int} {q n : Nat} {w : Int} (hl : isL (T q)) (h1 : 1 ≤ n) (hr : ∀ j : Nat, j < n → 32 ≤ T ((q + j : Nat) : Int) ∧ T ((q + j : Nat) : Int) ≤ 126) (hw : n ≤ 4 → w = wv T q n) (hw5 : ¬ n ≤ 4 → w = -1) : TK (wdC T q n) 1 w := by
  have e1 : T ((q + 1 : Nat) : Int) = T ((q : Int) + 1) := rfl
  have e2 : T ((q + 2 : Nat) : Int) = T ((q : Int) + 2) := rfl
  have e3 : T ((q + 3 : Nat) : Int) = T ((q : Int) + 3) := rfl
  have e0 : T ((q + 0 : Nat) : Int) = T (q : Int) := rfl
  have r0 := hr 0 (by omega)
  rw [e0] at r0
  unfold wdC
  have l0 : 65 ≤ T (q : Int) := by unfold isL at hl; omega
  by_cases c1 : n = 1
  · subst c1
    have ew : w = T q := by rw [hw (by decide)]; show 256 * 0 + T ((q + 0 : Nat) : Int) = T q; rw [e0]; omega
    rw [if_pos rfl, ew]
    exact TK_1 (Or.inl ⟨hl, rfl⟩)
  rw [if_neg c1]
  clear hl
  by_cases c2 : n = 2
  · subst c2
    have r1 := hr 1 (by omega)
    rw [e1] at r1
    have ew : w = 256 * T q + T ((q : Int) + 1) := by
      rw [hw (by decide)]
      show 256 * (256 * 0 + T ((q + 0 : Nat) : Int)) + T ((q + 1 : Nat) : Int) = _
      rw [e0, e1]; omega
    clear hw hw5 hr e0 e1 e2 e3
    generalize T (q : Int) = b0 at *
    generalize T ((q : Int) + 1) = b1 at *
    have nl : ¬ isL w := by unfold isL; omega
    rw [if_neg (fun z => absurd z.1 (by decide))]
    by_cases k1 : b0 = 105 ∧ b1 = 102
    · rw [if_pos ⟨rfl, k1⟩]
      exact TK_1 (Or.inr (Or.inr (Or.inl ⟨by omega, rfl⟩)))
    rw [if_neg (fun z => k1 z.2), if_neg (fun z => absurd z.1 (by decide))]
    by_cases k2 : b0 = 109 ∧ 48 ≤ b1 ∧ b1 ≤ 51
    · rw [if_pos ⟨rfl, k2⟩]
      exact TK_1 (Or.inr (Or.inr (Or.inr (Or.inr (Or.inl ⟨by omega, by omega, by omega⟩)))))
    rw [if_neg (fun z => k2 z.2)]
    exact TK_9 nl (by omega) (by omega) (by omega) (by omega)
  by_cases c3 : n = 3
  · subst c3
    have r1 := hr 1 (by omega)
    have r2 := hr 2 (by omega)
    rw [e1] at r1
    rw [e2] at r2
    have ew : w = 65536 * T q + 256 * T ((q : Int) + 1) + T ((q : Int) + 2) := by
      rw [hw (by decide)]
      show 256 * (256 * (256 * 0 + T ((q + 0 : Nat) : Int)) + T ((q + 1 : Nat) : Int)) + T ((q + 2 : Nat) : Int) = _
      rw [e0, e1, e2]; omega
    clear hw hw5 hr e0 e1 e2 e3
    generalize T (q : Int) = b0 at *
    generalize T ((q : Int) + 1) = b1 at *
    generalize T ((q : Int) + 2) = b2 at *
    have nl : ¬ isL w := by unfold isL; omega
    rw [if_neg (fun z => absurd z.1 (by decide)), if_neg (fun z => absurd z.1 (by decide))]
    by_cases k1 : b0 = 112 ∧ b1 = 97 ∧ b2 = 121
    · rw [if_pos ⟨rfl, k1⟩]
      exact TK_1 (Or.inr (Or.inr (Or.inr (Or.inl ⟨by omega, rfl⟩))))
    rw [if_neg (fun z => k1 z.2), if_neg (fun z => absurd z.1 (by decide))]
    exact TK_9 nl (by omega) (by omega) (by omega) (by omega)
  by_cases c4 : n = 4
  · subst c4
    have r1 := hr 1 (by omega)
    have r2 := hr 2 (by omega)
    have r3 := hr 3 (by omega)
    rw [e1] at r1
    rw [e2] at r2
    rw [e3] at r3
    have ew : w = 16777216 * T q + 65536 * T ((q : Int) + 1) + 256 * T ((q : Int) + 2) + T ((q : Int) + 3) := by
      rw [hw (by decide)]
      show 256 * (256 * (256 * (256 * 0 + T ((q + 0 : Nat) : Int)) + T ((q + 1 : Nat) : Int)) + T ((q + 2 : Nat) : Int)) + T ((q + 3 : Nat) : Int) = _
      rw [e0, e1, e2, e3]; omega
    clear hw hw5 hr e0 e1 e2 e3
    generalize T (q : Int) = b0 at *
    generalize T ((q : Int) + 1) = b1 at *
    generalize T ((q : Int) + 2) = b2 at *
    generalize T ((q : Int) + 3) = b3 at *
    have nl : ¬ isL w := by unfold isL; omega
    by_cases k1 : b0 = 110 ∧ b1 = 101 ∧ b2 = 101 ∧ b3 = 100
    · rw [if_pos ⟨rfl, k1⟩]
      exact TK_1 (Or.inr (Or.inl ⟨by omega, rfl⟩))
    rw [if_neg (fun z => k1 z.2), if_neg (fun z => absurd z.1 (by decide)), if_neg (fun z => absurd z.1 (by decide)), if_neg (fun z => absurd z.1 (by decide))]
    exact TK_9 nl (by omega) (by omega) (by omega) (by omega)
  have ew := hw5 (by omega)
  rw [if_neg (fun z => c4 z.1), if_neg (fun z => c2 z.1), if_neg (fun z => c3 z.1), if_neg (fun z => c2 z.1)]
  exact TK_9 (by unfold isL; omega) (by omega) (by omega) (by omega) (by omega)
theorem wv_rg {T : Int → Int} {q : Nat} {n : Nat} (hr : ∀ j : Nat, j < n → 32 ≤ T ((q + j : Nat) : Int) ∧ T ((q + j : Nat) : Int) ≤ 126) : ∀ k : Nat, k < 4 → k ≤ n → 0 ≤ wv T q k ∧ wv T q k < 8388608 := by
  intro k hk hkn
  have : k = 0 ∨ k = 1 ∨ k = 2 ∨ k = 3 := by omega
  rcases this with rfl | rfl | rfl | rfl
  · exact ⟨by show (0 : Int) ≤ 0; omega, by show (0 : Int) < 8388608; omega⟩
  · have r0 := hr 0 (by omega)
    show 0 ≤ 256 * 0 + T ((q + 0 : Nat) : Int) ∧ 256 * 0 + T ((q + 0 : Nat) : Int) < 8388608
    omega
  · have r0 := hr 0 (by omega)
    have r1 := hr 1 (by omega)
    show 0 ≤ 256 * (256 * 0 + T ((q + 0 : Nat) : Int)) + T ((q + 1 : Nat) : Int) ∧ 256 * (256 * 0 + T ((q + 0 : Nat) : Int)) + T ((q + 1 : Nat) : Int) < 8388608
    omega
  · have r0 := hr 0 (by omega)
    have r1 := hr 1 (by omega)
    have r2 := hr 2 (by omega)
    show 0 ≤ 256 * (256 * (256 * 0 + T ((q + 0 : Nat) : Int)) + T ((q + 1 : Nat) : Int)) + T ((q + 2 : Nat) : Int) ∧ 256 * (256 * (256 * 0 + T ((q + 0 : Nat) : Int)) + T ((q + 1 : Nat) : Int)) + T ((q + 2 : Nat) : Int) < 8388608
    omega
theorem nv_step {v c p : Int} (h0 : 0 ≤ v) (h1 : v < p) (hp : p ≤ 100000000) (c0 : 48 ≤ c) (c1 : c ≤ 57) : w32 (w32 (w32 (10 * v) + c) - 48) = 10 * v + (c - 48) := by
  rw [w32_id (x := 10 * v) (by omega) (by omega), w32_id (x := 10 * v + c) (by omega) (by omega), w32_id (by omega) (by omega)]
  omega
theorem pow_8 {k : Nat} (h : k ≤ 8) : (10 : Int) ^ k ≤ 100000000 := by
  have : k = 0 ∨ k = 1 ∨ k = 2 ∨ k = 3 ∨ k = 4 ∨ k = 5 ∨ k = 6 ∨ k = 7 ∨ k = 8 := by omega
  rcases this with rfl | rfl | rfl | rfl | rfl | rfl | rfl | rfl | rfl <;> decide
theorem nvr_s {T : Int → Int} {q i : Nat} (h : q ≤ i) : nvr T q (i - q + 1) = 10 * nvr T q (i - q) + (T (i : Int) - 48) := by
  show 10 * nvr T q (i - q) + (T ((q + (i - q) : Nat) : Int) - 48) = _
  rw [show q + (i - q) = i by omega]
theorem uf_com {s : Nat → Int → Int} {a b c : Int} : uf (uf (uf s 54 4 a) 54 6 b) 54 4 c = uf (uf s 54 4 c) 54 6 b := by
  funext x j
  simp only [uf_pa, ud_ap, if_true]
  by_cases hx : x = 54
  · subst hx
    simp only [if_true, ud_ap]
    by_cases j4 : j = 4
    · subst j4; simp
    · by_cases j6 : j = 6
      · subst j6; simp
      · simp [j4, j6]
  · simp [hx]
section RN
variable {h : az_H} {s : Nat → Int → Int} {r : Nat → Int → Option Nat} {G : az_G} {d : Nat} {Q : Option az_V → az_H → Prop} {T : Int → Int} {L e : Nat}
theorem sX11_at (hx : rTx T L s) {x : Int} (x0 : 0 ≤ x) (h1 : x < L → Q (some (vi (T x))) (PS h s r)) (h0 : (L : Int) ≤ x → Q (some (vi 0)) (PS h s r)) : cz G mX11_at d 0 0 [vo 54, vi x] (PS h s r) Q := by
  obtain ⟨x1, x2, x3, x4⟩ := hx
  refine vX11_at ?_
  rw [ri_54_1, x1]
  by_cases c : (L : Int) ≤ x
  · rw [if_pos c]; exact h0 c
  · rw [if_neg c, ro_54_0, ld_55, x3 x x0 (by omega)]
    exact ⟨x0, by omega, h1 (by omega)⟩
theorem sX11_isLetter {hh : az_H} {c : Int} (h1 : isL c → Q (some (vi 1)) hh) (h0 : ¬ isL c → Q (some (vi 0)) hh) : cz G mX11_isLetter (d + 1) 0 0 [vi c] hh Q := by
  refine vX11_isLetter ?_
  refine sX11_in (fun y1 y2 => ?_) (fun y => ?_)
  · rw [atI_q, if_neg (by decide)]; exact h1 (Or.inl ⟨y1, y2⟩)
  · rw [atI_q, if_pos rfl]
    refine sX11_in (fun y1 y2 => ?_) (fun y2 => ?_)
    · rw [atI_q, if_neg (by decide)]; exact h1 (Or.inr ⟨y1, y2⟩)
    · rw [atI_q, if_pos rfl]; exact h0 (fun z => z.elim y y2)
theorem sX11_isFigure {hh : az_H} {c : Int} (h1 : isF c → Q (some (vi 1)) hh) (h0 : ¬ isF c → Q (some (vi 0)) hh) : cz G mX11_isFigure (d + 1) 0 0 [vi c] hh Q := by
  refine vX11_isFigure ?_
  refine sX11_in (fun y1 y2 => ?_) (fun y => ?_)
  · rw [atI_q, fit1]; exact ⟨trivial, h1 ⟨y1, y2⟩⟩
  · rw [atI_q, fit0]; exact ⟨trivial, h0 y⟩
theorem nL0 : ¬ isL 0 := by decide
theorem nF0 : ¬ isF 0 := by decide
/-- the word's value -/
theorem rn_138 (hx : rTx T L s) {q n : Nat} (n1 : 1 ≤ n) (hq : s 54 3 = q) (hE : s 54 4 = ((q + n : Nat) : Int)) (hn : q + n ≤ L) (hk : Q none (PS h (uf s 54 5 (if n ≤ 4 then wv T q n else -1)) r)) :
    ∀ (f k : Nat) (v : Int), n = k + f → (n ≤ 4 → v = wv T q k) → (k = n → ¬ n ≤ 4 → v = -1) → pX11_next_138 G d 54 ((q + k : Nat) : Int) (PS h (uf s 54 5 v) r) Q := by
  have hx0 := hx
  obtain ⟨x1, x2, x3, x4⟩ := hx
  have hr : ∀ j : Nat, j < n → 32 ≤ T ((q + j : Nat) : Int) ∧ T ((q + j : Nat) : Int) ≤ 126 := fun j hj => x4 _ (by omega) (by omega)
  intro f
  induction f with
  | zero =>
    intro k v hkn hv hv2
    have : k = n := by omega
    subst this
    refine vX11_next_138 ?_
    rw [ri_54_4, show uf s 54 5 v 54 4 = s 54 4 from rfl, hE, if_pos (by omega)]
    by_cases c : k ≤ 4
    · rw [hv c]; rw [if_pos c] at hk; exact hk
    · rw [hv2 rfl c]; rw [if_neg c] at hk; exact hk
  | succ f ih =>
    intro k v hkn hv hv2
    refine vX11_next_138 ?_
    rw [ri_54_4, show uf s 54 5 v 54 4 = s 54 4 from rfl, hE, if_neg (by omega), ri_54_4, show uf s 54 5 v 54 4 = s 54 4 from rfl, hE, ri_54_3, show uf s 54 5 v 54 3 = s 54 3 from rfl, hq, show w32 (((q + n : Nat) : Int) - (q : Int)) = (n : Int) by rw [w32_id] <;> omega]
    have ew : w32 (((q + k : Nat) : Int) + 1) = ((q + (k + 1) : Nat) : Int) := by rw [w32_id] <;> omega
    by_cases c : n ≤ 4
    · rw [if_pos (by omega), ri_54_5, show uf s 54 5 v 54 5 = v from rfl, ro_54_0, ld_55]
      refine ⟨by omega, by omega, ?_⟩
      rw [show uf s 54 5 v 55 ((q + k : Nat) : Int) = s 55 ((q + k : Nat) : Int) from rfl, x3 _ (by omega) (by omega), wi_54_5, uf_uf, ew]
      have hk4 := wv_rg hr k (by omega) (by omega)
      have rk := hr k (by omega)
      rw [hv c, or_8 hk4.1 hk4.2 (by omega) (by omega)]
      exact ih (k + 1) _ (by omega) (fun _ => rfl) (fun _ z => absurd c z)
    · rw [if_neg (by omega), wi_54_5, uf_uf, ew]
      exact ih (k + 1) _ (by omega) (fun z => absurd z c) (fun _ _ => rfl)
theorem rn_word (hx : rTx T L s) {q : Nat} (hq : s 54 3 = q) (hqL : q < L) (hl : isL (T q)) (hk : ∀ E : Nat, E = go T L pFg (go T L pLt q) → Q none (PS h (uf (uf (uf (uf s 54 4 E) 54 2 1) 54 5 0) 54 5 (if E - q ≤ 4 then wv T q (E - q) else -1)) r)) : pX11_next_69 G (d + 2) 54 (PS h (uf s 54 4 q) r) Q := by
  have hx0 := hx
  obtain ⟨x1, x2, x3, x4⟩ := hx
  have fin : ∀ i : Nat, q < i → i ≤ L → i = go T L pFg (go T L pLt q) → pX11_next_138 G (d + 2) 54 q (PS h (uf (uf (uf s 54 4 i) 54 2 1) 54 5 0) r) Q := by
    intro i hqi hiL hg
    have hx1 : rTx T L (uf (uf s 54 4 i) 54 2 1) := rTx_54 (fr54_tr (fr54_uf (by decide)) (fr54_uf (by decide))) hx0
    have := rn_138 (G := G) (d := d + 2) (Q := Q) (s := uf (uf s 54 4 i) 54 2 1) hx1 (q := q) (n := i - q) (by omega) hq (show (i : Int) = ((q + (i - q) : Nat) : Int) by omega) (by omega) (by have := hk i hg; rw [uf_uf] at this; exact this) (i - q) 0 0 (by omega) (fun _ => rfl) (fun z _ => by omega)
    exact this
  have F : ∀ (f i : Nat), L = i + f → q < i → go T L pFg i = go T L pFg (go T L pLt q) → pX11_next_96 G (d + 2) 54 (PS h (uf s 54 4 i) r) Q := by
    intro f
    induction f with
    | zero =>
      intro i hi hqi hg
      refine vX11_next_96 ?_
      rw [ri_54_4, rc_54]
      refine sX11_at (rTx_54 (fr54_uf (by decide)) hx0) (show (0 : Int) ≤ (i : Int) by omega) (fun y => absurd (show (i : Int) < L from y) (by omega)) (fun _ => ?_)
      rw [atI_q]
      refine sX11_isFigure (fun y => absurd y nF0) (fun _ => ?_)
      rw [atI_q, if_pos rfl, wi_54_2, wi_54_5, ri_54_3, show uf (uf (uf s 54 4 i) 54 2 1) 54 5 0 54 3 = s 54 3 from rfl, hq]
      rw [go_n (by omega)] at hg
      exact fin i hqi (by omega) hg
    | succ f ih =>
      intro i hi hqi hg
      refine vX11_next_96 ?_
      rw [ri_54_4, rc_54]
      refine sX11_at (rTx_54 (fr54_uf (by decide)) hx0) (show (0 : Int) ≤ (i : Int) by omega) (fun _ => ?_) (fun y => absurd (show (L : Int) ≤ (i : Int) from y) (by omega))
      rw [atI_q]
      refine sX11_isFigure (fun y => ?_) (fun y => ?_)
      · have y' : isF (T (i : Int)) := y
        rw [atI_q, if_neg (by decide), ri_54_4, wi_54_4, uf_uf, show w32 (uf s 54 4 i 54 4 + 1) = ((i + 1 : Nat) : Int) by show w32 ((i : Int) + 1) = _; rw [w32_id] <;> omega]
        rw [go_y (by omega) (pFg_t y')] at hg
        exact ih (i + 1) (by omega) (by omega) hg
      · have y' : ¬ isF (T (i : Int)) := y
        rw [atI_q, if_pos rfl, wi_54_2, wi_54_5, ri_54_3, show uf (uf (uf s 54 4 i) 54 2 1) 54 5 0 54 3 = s 54 3 from rfl, hq]
        rw [go_n (fun z => pFg_f y' z.2)] at hg
        exact fin i hqi (by omega) hg
  have A : ∀ (f i : Nat), L = i + f → q ≤ i → (i = q ∨ q < i) → go T L pLt i = go T L pLt q → pX11_next_69 G (d + 2) 54 (PS h (uf s 54 4 i) r) Q := by
    intro f
    induction f with
    | zero =>
      intro i hi hqi hor hg
      refine vX11_next_69 ?_
      rw [ri_54_4, rc_54]
      refine sX11_at (rTx_54 (fr54_uf (by decide)) hx0) (show (0 : Int) ≤ (i : Int) by omega) (fun y => absurd (show (i : Int) < L from y) (by omega)) (fun _ => ?_)
      rw [atI_q]
      refine sX11_isLetter (fun y => absurd y nL0) (fun _ => ?_)
      rw [atI_q, if_pos rfl]
      rw [go_n (by omega)] at hg
      exact F 0 i hi (by omega) (by rw [← hg])
    | succ f ih =>
      intro i hi hqi hor hg
      refine vX11_next_69 ?_
      rw [ri_54_4, rc_54]
      refine sX11_at (rTx_54 (fr54_uf (by decide)) hx0) (show (0 : Int) ≤ (i : Int) by omega) (fun _ => ?_) (fun y => absurd (show (L : Int) ≤ (i : Int) from y) (by omega))
      rw [atI_q]
      refine sX11_isLetter (fun y => ?_) (fun y => ?_)
      · have y' : isL (T (i : Int)) := y
        rw [atI_q, if_neg (by decide), ri_54_4, wi_54_4, uf_uf, show w32 (uf s 54 4 i 54 4 + 1) = ((i + 1 : Nat) : Int) by show w32 ((i : Int) + 1) = _; rw [w32_id] <;> omega]
        rw [go_y (by omega) (pLt_t y')] at hg
        exact ih (i + 1) (by omega) (by omega) (by omega) hg
      · have y' : ¬ isL (T (i : Int)) := y
        rw [atI_q, if_pos rfl]
        rw [go_n (fun z => pLt_f y' z.2)] at hg
        have hne : i ≠ q := fun z => y' (by rw [z]; exact hl)
        exact F (f + 1) i hi (by omega) (by rw [← hg])
  exact A (L - q) q (by omega) (Nat.le_refl _) (Or.inl rfl) rfl
theorem rn_num (hx : rTx T L s) {q : Nat} (hq : s 54 3 = q) (hqL : q < L) (hk : ∀ E : Nat, E = go T L pFg q → Q none (PS h (uf (uf (uf s 54 4 E) 54 6 (nvr T q (min (E - q) 9))) 54 2 (if E - q ≤ 9 then 2 else 3)) r)) : pX11_next_202 G (d + 2) 54 (PS h (uf (uf s 54 4 q) 54 6 0) r) Q := by
  have hx0 := hx
  obtain ⟨x1, x2, x3, x4⟩ := hx
  have fin : ∀ (i : Nat), q ≤ i → i ≤ L → i = go T L pFg q → (if w32 ((i : Int) - (q : Int)) ≤ 9 then wrF (PS h (uf (uf s 54 4 i) 54 6 (nvr T q (min (i - q) 9))) r) 54 11 2 (.int) (vi 2) (fun h8 => Q none h8) else wrF (PS h (uf (uf s 54 4 i) 54 6 (nvr T q (min (i - q) 9))) r) 54 11 2 (.int) (vi 3) (fun h9 => Q none h9)) := by
    intro i hqi hiL hg
    have := hk i hg
    rw [w32_id (by omega) (by omega)]
    by_cases c : i - q ≤ 9
    · rw [if_pos c] at this
      rw [if_pos (by omega), wi_54_2]
      exact this
    · rw [if_neg c] at this
      rw [if_neg (by omega), wi_54_2]
      exact this
  have A : ∀ (f i : Nat), L = i + f → q ≤ i → go T L pFg i = go T L pFg q → (∀ j : Nat, j < i - q → isF (T ((q + j : Nat) : Int))) → pX11_next_202 G (d + 2) 54 (PS h (uf (uf s 54 4 i) 54 6 (nvr T q (min (i - q) 9))) r) Q := by
    intro f
    induction f with
    | zero =>
      intro i hi hqi hg hF
      refine vX11_next_202 ?_
      rw [ri_54_4, rc_54]
      refine sX11_at (rTx_54 (fr54_tr (fr54_uf (by decide)) (fr54_uf (by decide))) hx0) (show (0 : Int) ≤ (i : Int) by omega) (fun y => absurd (show (i : Int) < L from y) (by omega)) (fun _ => ?_)
      rw [atI_q]
      refine sX11_isFigure (fun y => absurd y nF0) (fun _ => ?_)
      rw [atI_q, if_pos rfl, ri_54_4, ri_54_3, show uf (uf s 54 4 i) 54 6 (nvr T q (min (i - q) 9)) 54 3 = s 54 3 from rfl, hq]
      rw [go_n (by omega)] at hg
      exact fin i hqi (by omega) hg
    | succ f ih =>
      intro i hi hqi hg hF
      refine vX11_next_202 ?_
      rw [ri_54_4, rc_54]
      refine sX11_at (rTx_54 (fr54_tr (fr54_uf (by decide)) (fr54_uf (by decide))) hx0) (show (0 : Int) ≤ (i : Int) by omega) (fun _ => ?_) (fun y => absurd (show (L : Int) ≤ (i : Int) from y) (by omega))
      rw [atI_q]
      refine sX11_isFigure (fun y => ?_) (fun y => ?_)
      · have y' : isF (T (i : Int)) := y
        have hg' := hg
        rw [go_y (by omega) (pFg_t y')] at hg'
        have hF' : ∀ j : Nat, j < i + 1 - q → isF (T ((q + j : Nat) : Int)) := fun j hj => by
          by_cases cj : j < i - q
          · exact hF j cj
          · rw [show q + j = i by omega]; exact y'
        rw [atI_q, if_neg (by decide), ri_54_4, ri_54_3, show uf (uf s 54 4 i) 54 6 (nvr T q (min (i - q) 9)) 54 3 = s 54 3 from rfl, hq, show uf (uf s 54 4 i) 54 6 (nvr T q (min (i - q) 9)) 54 4 = (i : Int) from rfl, show w32 ((i : Int) - (q : Int)) = (i : Int) - (q : Int) by rw [w32_id] <;> omega]
        by_cases c : (9 : Int) ≤ (i : Int) - (q : Int)
        · rw [if_pos c, ri_54_6, wi_54_6, uf_uf, show uf (uf s 54 4 i) 54 6 (nvr T q (min (i - q) 9)) 54 6 = nvr T q (min (i - q) 9) from rfl, ri_54_4, wi_54_4, show uf (uf s 54 4 i) 54 6 (nvr T q (min (i - q) 9)) 54 4 = (i : Int) from rfl, show w32 ((i : Int) + 1) = ((i + 1 : Nat) : Int) by rw [w32_id] <;> omega, uf_com]
          have IH := ih (i + 1) (by omega) (by omega) hg' hF'
          rw [show min (i + 1 - q) 9 = min (i - q) 9 by omega] at IH
          exact IH
        · rw [if_neg c, ri_54_6, ri_54_4, show uf (uf s 54 4 i) 54 6 (nvr T q (min (i - q) 9)) 54 4 = (i : Int) from rfl, show uf (uf s 54 4 i) 54 6 (nvr T q (min (i - q) 9)) 54 6 = nvr T q (min (i - q) 9) from rfl, rc_54, show min (i - q) 9 = i - q by omega]
          refine sX11_at (rTx_54 (fr54_tr (fr54_uf (by decide)) (fr54_uf (by decide))) hx0) (by omega) (fun _ => ?_) (fun y => absurd y (by omega))
          rw [atI_q, wi_54_6, uf_uf, ri_54_4, show ∀ v : Int, uf (uf s 54 4 i) 54 6 v 54 4 = (i : Int) from fun _ => rfl, wi_54_4, show w32 ((i : Int) + 1) = ((i + 1 : Nat) : Int) by rw [w32_id] <;> omega, uf_com]
          have IH := ih (i + 1) (by omega) (by omega) hg' hF'
          rw [show min (i + 1 - q) 9 = (i - q) + 1 by omega, nvr_s hqi] at IH
          rw [nv_step (nvr_rg (T := T) (q := q) (i - q) hF).1 (nvr_rg (T := T) (q := q) (i - q) hF).2 (pow_8 (by omega)) y'.1 y'.2]
          exact IH
      · have y' : ¬ isF (T (i : Int)) := y
        rw [atI_q, if_pos rfl, ri_54_4, ri_54_3, show uf (uf s 54 4 i) 54 6 (nvr T q (min (i - q) 9)) 54 3 = s 54 3 from rfl, hq]
        rw [go_n (fun z => pFg_f y' z.2)] at hg
        exact fin i hqi (by omega) hg
  have := A (L - q) q (by omega) (Nat.le_refl _) rfl (fun j hj => absurd hj (by omega))
  rw [show q - q = 0 by omega] at this
  exact this
end RN
