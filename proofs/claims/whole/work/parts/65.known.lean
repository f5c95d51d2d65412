/-! EVERY: the states gone to; the class's table of them -/
abbrev Bs : Type := Int × (Int → Int → Int) × (Int → Int) × (Int → Int) × (Int → Int)
def hs19 (N : Int → Int) : Nat → Int
  | 0 => 0
  | i + 1 => w32 (w32 (hs19 N i * 31) + N i)
def hsh (N : Int → Int) : Int := bXor (bXor (hs19 N 19) (bUshr (hs19 N 19) 10)) (bUshr (hs19 N 19) 20)
theorem hs19_e {N N' : Int → Int} (e : eq19 N N') : ∀ i : Nat, i ≤ 19 → hs19 N i = hs19 N' i
  | 0, _ => rfl
  | i + 1, h => by
    unfold hs19
    rw [hs19_e e i (by omega), e i (by omega) (by omega)]
theorem hsh_e {N N' : Int → Int} (e : eq19 N N') : hsh N = hsh N' := by
  unfold hsh
  rw [hs19_e e 19 (Nat.le_refl _)]
def cntZ (g : Int → Int) : Nat → Nat
  | 0 => 0
  | x + 1 => cntZ g x + (if g x = 0 then 0 else 1)
theorem cntZ_ne {g : Int → Int} {x0 v : Int} : ∀ X : Nat, (X : Int) ≤ x0 → cntZ (ud g x0 v) X = cntZ g X
  | 0, _ => rfl
  | X + 1, h => by
    unfold cntZ
    rw [cntZ_ne X (by omega), ud_ne (by omega)]
theorem cntZ_up {g : Int → Int} {x0 v : Int} (hg : g x0 = 0) (hv : v ≠ 0) : ∀ X : Nat, 0 ≤ x0 → x0 < X → cntZ (ud g x0 v) X = cntZ g X + 1
  | 0, h0, h => by omega
  | X + 1, h0, h => by
    unfold cntZ
    by_cases c : (X : Int) = x0
    · rw [cntZ_ne X (by omega), ud_ap, if_pos c, if_neg hv, c, hg, if_pos rfl]
    · rw [cntZ_up hg hv X h0 (by omega), ud_ne c]
      omega
theorem cntZ_z {g : Int → Int} : ∀ X : Nat, cntZ g X < X → ∃ x : Int, 0 ≤ x ∧ x < X ∧ g x = 0
  | 0, h => absurd h (by omega)
  | X + 1, h => by
    by_cases c : g X = 0
    · exact ⟨X, by omega, by omega, c⟩
    · unfold cntZ at h
      rw [if_neg c] at h
      obtain ⟨x, x0, x1, x2⟩ := cntZ_z (g := g) X (by omega)
      exact ⟨x, x0, by omega, x2⟩
theorem cntZ_0 {g : Int → Int} : ∀ X : Nat, (∀ x : Int, 0 ≤ x → x < X → g x = 0) → cntZ g X = 0
  | 0, _ => rfl
  | X + 1, h => by
    unfold cntZ
    rw [cntZ_0 X (fun x x0 x1 => h x x0 (by omega)), h X (by omega) (by omega), if_pos rfl]
def hT (g : Int → Int) (n : Int) (S : Int → Int → Int) : Prop :=
  (∀ x, 0 ≤ x → x < 1024 → 0 ≤ g x ∧ g x ≤ n) ∧ (cntZ g 1024 : Int) = n ∧ ∀ k, 0 ≤ k → k < n → ∃ t : Nat, t < 1024 ∧ g ((hsh (S k) + t) % 1024) = k + 1 ∧ ∀ t' : Nat, t' < t → g ((hsh (S k) + t') % 1024) ≠ 0
def thr (n : Int) (S : Int → Int → Int) (N : Int → Int) : Prop := ∃ k, 0 ≤ k ∧ k < n ∧ eq19 (S k) N
theorem thr_e {n : Int} {S : Int → Int → Int} {N N' : Int → Int} (e : eq19 N N') (h : thr n S N) : thr n S N' := by
  obtain ⟨k, k0, k1, k2⟩ := h
  exact ⟨k, k0, k1, eq19_tr k2 e⟩
theorem hT_add {g : Int → Int} {n : Int} {S : Int → Int → Int} {N : Int → Int} {t : Nat} {x : Int} (hH : hT g n S) (hx : x = (hsh N + t) % 1024) (ht : t < 1024) (hg : g x = 0) (hb : ∀ t' : Nat, t' < t → g ((hsh N + t') % 1024) ≠ 0) : hT (ud g x (n + 1)) (n + 1) (ud S n N) := by
  obtain ⟨h1, h2, h3⟩ := hH
  have n0 : 0 ≤ n := by omega
  refine ⟨fun y y0 y1 => ?_, ?_, fun k k0 k1 => ?_⟩
  · rw [ud_ap]
    by_cases c : y = x
    · rw [if_pos c]; omega
    · rw [if_neg c]
      have := h1 y y0 y1
      omega
  · rw [cntZ_up hg (by omega) 1024 (by omega) (by omega)]
    omega
  · by_cases c : k = n
    · subst c
      rw [ud_at]
      refine ⟨t, ht, ?_, fun t' h' => ?_⟩
      · rw [← hx, ud_at]
      · rw [ud_ap]
        by_cases c2 : (hsh N + t') % 1024 = x
        · rw [if_pos c2]; omega
        · rw [if_neg c2]; exact hb t' h'
    · rw [ud_ne c]
      obtain ⟨tk, t1, t2, t3⟩ := h3 k k0 (by omega)
      refine ⟨tk, t1, ?_, fun t' h' => ?_⟩
      · rw [ud_ne (fun e => by rw [e, hg] at t2; omega)]
        exact t2
      · rw [ud_ap]
        by_cases c2 : (hsh (S k) + t') % 1024 = x
        · rw [if_pos c2]; omega
        · rw [if_neg c2]; exact t3 t' h'
theorem hT_find {g : Int → Int} {n : Int} {S : Int → Int → Int} {N : Int → Int} {t : Nat} (hH : hT g n S) (hg : g ((hsh N + t) % 1024) = 0) (hb : ∀ t' : Nat, t' < t → g ((hsh N + t') % 1024) ≠ 0 ∧ ¬ eq19 (S (g ((hsh N + t') % 1024) - 1)) N) : ¬ thr n S N := by
  rintro ⟨k, k0, k1, e⟩
  obtain ⟨tk, t1, t2, t3⟩ := hH.2.2 k k0 k1
  rw [hsh_e e] at t2 t3
  rcases Nat.lt_trichotomy tk t with c | c | c
  · have := (hb tk c).2
    rw [t2, show k + 1 - 1 = k by omega] at this
    exact this e
  · subst c
    rw [hg] at t2
    omega
  · exact t3 t c hg
theorem w32_1024 (x : Int) : w32 x % 1024 = x % 1024 := by unfold w32; omega
def kR (s : Nat → Int → Int) (B : Bs) : Prop := s 36 5 = B.1 ∧ hT (s 41) B.1 B.2.1 ∧ ∀ k, 0 ≤ k → k < B.1 → (∀ i, 0 ≤ i → i < 19 → s 37 (19 * k + i) = B.2.1 k i) ∧ s 40 k = B.2.2.2.2 k ∧ (1 ≤ k → s 38 k = B.2.2.1 k ∧ s 39 k = B.2.2.2.1 k)
def bAd (B : Bs) (N : Int → Int) (k c : Int) : Bs := (B.1 + 1, ud B.2.1 B.1 N, ud B.2.2.1 B.1 k, ud B.2.2.2.1 B.1 c, ud B.2.2.2.2 B.1 (B.2.2.2.2 k + 1))
section KN
variable {h : az_H} {s : Nat → Int → Int} {r : Nat → Int → Option Nat} {G : az_G} {d : Nat} {Q : Option az_V → az_H → Prop} {B : Bs}
theorem sX4_hash (hq : Q (some (vi (hsh (s 29)))) (PS h s r)) : cz G mX4_hash d 0 0 [vo 27] (PS h s r) Q := by
  refine vX4_hash ?_
  have L : ∀ (f i : Nat), 19 = i + f → pX4_hash_4 G d 27 (hs19 (s 29) i) i (PS h s r) Q := by
    intro f
    induction f with
    | zero =>
      intro i hi
      have : i = 19 := by omega
      subst this
      refine vX4_hash_4 ?_
      rw [if_pos (by decide)]
      exact hq
    | succ f ih =>
      intro i hi
      refine vX4_hash_4 ?_
      rw [if_neg (by omega), ro_27_2, ld_29]
      refine ⟨by omega, by omega, ?_⟩
      rw [show w32 ((i : Int) + 1) = ((i + 1 : Nat) : Int) by rw [w32_id] <;> omega]
      exact ih (i + 1) (by omega)
  exact L 19 0 rfl
theorem sX4_isAt {k : Int} (k0 : 0 ≤ k) (k1 : k < 400) {N : Int → Int} (hN : ∀ i, 0 ≤ i → i < 19 → s 37 (19 * k + i) = N i) (h1 : eq19 N (s 29) → Q (some (vi 1)) (PS h s r)) (h0 : ¬ eq19 N (s 29) → Q (some (vi 0)) (PS h s r)) : cz G mX4_isAt d 0 0 [vo 27, vo 37, vi (19 * k)] (PS h s r) Q := by
  refine vX4_isAt ?_
  rw [if_neg (by omega), nnR_q, al_37, if_pos (by rw [w32_id] <;> omega)]
  have L : ∀ (f i : Nat), 19 = i + f → (∀ j : Int, 0 ≤ j → j < i → N j = s 29 j) → pX4_isAt_17 G d 27 (some 37) (19 * k) i (PS h s r) Q := by
    intro f
    induction f with
    | zero =>
      intro i hi hj
      refine vX4_isAt_17 ?_
      rw [if_pos (by omega)]
      exact h1 (fun j j0 j1 => hj j j0 (by omega))
    | succ f ih =>
      intro i hi hj
      refine vX4_isAt_17 ?_
      rw [if_neg (by omega), nnR_q, w32_id (x := 19 * k + i) (by omega) (by omega), ld_37]
      refine ⟨by omega, by omega, ?_⟩
      rw [ro_27_2, ld_29, hN i (by omega) (by omega)]
      refine ⟨by omega, by omega, ?_⟩
      by_cases c : N i = s 29 i
      · rw [if_pos c, show w32 ((i : Int) + 1) = ((i + 1 : Nat) : Int) by rw [w32_id] <;> omega]
        refine ih (i + 1) (by omega) (fun j j0 j1 => ?_)
        by_cases cj : j = i
        · rw [cj]; exact c
        · exact hj j j0 (by omega)
      · rw [if_neg c]
        exact h0 (fun e => c (e i (by omega) (by omega)))
  exact L 19 0 rfl (fun j j0 j1 => absurd j1 (by omega))
theorem sX3_slotFor (hk : kR s B) (n4 : B.1 ≤ 400) (h1 : thr B.1 B.2.1 (s 29) → Q (some (vi (-1))) (PS h s r))
    (h0 : ¬ thr B.1 B.2.1 (s 29) → ∀ (t : Nat) (x : Int), t < 1024 → x = (hsh (s 29) + t) % 1024 → s 41 x = 0 → (∀ t' : Nat, t' < t → s 41 ((hsh (s 29) + t') % 1024) ≠ 0) → Q (some (vi x)) (PS h s r)) : cz G mX3_slotFor (d + 1) 0 0 [vo 36, vo 27] (PS h s r) Q := by
  obtain ⟨h5, hH, hS⟩ := hk
  refine vX3_slotFor ?_
  rw [nnR_q, rc_27]
  refine sX4_hash ?_
  rw [atI_q]
  have L : ∀ (f t : Nat), 1024 = t + f → (∀ t' : Nat, t' < t → s 41 ((hsh (s 29) + t') % 1024) ≠ 0 ∧ ¬ eq19 (B.2.1 (s 41 ((hsh (s 29) + t') % 1024) - 1)) (s 29)) → pX3_slotFor_7 G d 36 (some 27) (hsh (s 29)) t (PS h s r) Q := by
    intro f
    induction f with
    | zero =>
      intro t ht hb
      obtain ⟨x, x0, x1, x2⟩ := cntZ_z (g := s 41) 1024 (by have := hH.2.1; omega)
      have := (hb ((x - hsh (s 29)) % 1024).toNat (by omega)).1
      rw [show (hsh (s 29) + (((x - hsh (s 29)) % 1024).toNat : Int)) % 1024 = x by omega] at this
      exact absurd x2 this
    | succ f ih =>
      intro t ht hb
      refine vX3_slotFor_7 ?_
      rw [if_neg (by omega), ro_36_4, bAnd_1023, w32_1024, ld_41]
      refine ⟨by omega, by omega, ?_⟩
      have hx := hH.1 ((hsh (s 29) + t) % 1024) (by omega) (by omega)
      by_cases c : s 41 ((hsh (s 29) + t) % 1024) = 0
      · rw [c, if_neg (by decide)]
        exact h0 (hT_find hH c hb) t _ (by omega) rfl c (fun t' h' => (hb t' h').1)
      · have e1 : w32 (s 41 ((hsh (s 29) + t) % 1024) - 1) = s 41 ((hsh (s 29) + t) % 1024) - 1 := by rw [w32_id] <;> omega
        rw [e1, if_pos (by omega), ro_36_0, nnR_q, rc_27, show w32 ((s 41 ((hsh (s 29) + t) % 1024) - 1) * 19) = 19 * (s 41 ((hsh (s 29) + t) % 1024) - 1) by rw [w32_id] <;> omega]
        refine sX4_isAt (by omega) (by omega) (hS (s 41 ((hsh (s 29) + t) % 1024) - 1) (by omega) (by omega)).1 (fun e => ?_) (fun e => ?_)
        · rw [atI_q, if_neg (by decide)]
          exact h1 ⟨_, by omega, by omega, e⟩
        · rw [atI_q, if_pos rfl, show w32 ((t : Int) + 1) = ((t + 1 : Nat) : Int) by rw [w32_id] <;> omega]
          refine ih (t + 1) (by omega) (fun t' h' => ?_)
          by_cases ct : t' = t
          · subst ct; exact ⟨c, e⟩
          · exact hb t' (by omega)
  exact L 1024 0 rfl (fun t' h' => absurd h' (by omega))
def sAd (s : Nat → Int → Int) (n x p c f : Int) : Nat → Int → Int := uf (uf (uf (uf (uf (up s 37 (cps (s 29) (s 37) 0 (19 * n) 19)) 38 n p) 39 n c) 40 n f) 36 5 (n + 1)) 41 x (n + 1)
theorem sX3_add {n x p c f : Int} (hn : s 36 5 = n) (n0 : 0 ≤ n) (n4 : n < 400) (x0 : 0 ≤ x) (x1 : x < 1024) (hp : p < 0 ∧ f = 0 ∨ 0 ≤ p ∧ p < n ∧ f = s 40 p + 1 ∧ 0 ≤ s 40 p ∧ s 40 p < 100) (hq : Q none (PS h (sAd s n x p c f) r)) : cz G mX3_add (d + 2) 0 0 [vo 36, vo 27, vi x, vi p, vi c] (PS h s r) Q := by
  refine vX3_add ?_
  rw [rc_36]
  refine vX3_isFull ?_
  rw [ri_36_5, hn, if_pos n4, atI_q, if_pos rfl, if_neg (by omega), if_pos x1, ro_36_0, ri_36_5, hn, nnR_q, rc_27, show w32 (n * 19) = 19 * n by rw [w32_id] <;> omega]
  refine vX4_save ?_
  rw [if_neg (by omega), nnR_q, al_37, if_neg (by rw [w32_id] <;> omega), ro_27_2, cp_29_37]
  refine ⟨by decide, by omega, by decide, by decide, by omega, ?_⟩
  rw [atV_q, ro_36_1, ri_36_5, show up s 37 (cps (s 29) (s 37) 0 (19 * n) 19) 36 5 = s 36 5 from rfl, hn, st_38]
  refine ⟨n0, n4, ?_⟩
  rw [ro_36_2, ri_36_5, show uf (up s 37 (cps (s 29) (s 37) 0 (19 * n) 19)) 38 n p 36 5 = s 36 5 from rfl, hn, st_39]
  refine ⟨n0, n4, ?_⟩
  rw [ro_36_3, ri_36_5, show uf (uf (up s 37 (cps (s 29) (s 37) 0 (19 * n) 19)) 38 n p) 39 n c 36 5 = s 36 5 from rfl, hn]
  have fin : ∀ f', f' = f → stI (PS h (uf (uf (up s 37 (cps (s 29) (s 37) 0 (19 * n) 19)) 38 n p) 39 n c) r) 40 .int n f' (fun h17 => rdI h17 36 3 5 (fun f18 => wrF h17 36 3 5 (.int) (vi (w32 (f18 + 1))) (fun h19 => rdO h19 36 3 4 (fun o20 => rdI h19 36 3 5 (fun f21 => stI h19 o20 .int x f21 (fun h22 => Q none h22)))))) := by
    rintro f' rfl
    rw [st_40]
    refine ⟨n0, n4, ?_⟩
    rw [ri_36_5, show uf (uf (uf (up s 37 (cps (s 29) (s 37) 0 (19 * n) 19)) 38 n p) 39 n c) 40 n f' 36 5 = s 36 5 from rfl, hn, wi_36_5, ro_36_4, ri_36_5, w32_id (by omega) (by omega), st_41]
    exact ⟨x0, x1, hq⟩
  rcases hp with ⟨p1, p2⟩ | ⟨p1, p2, p3, p4, p5⟩
  · rw [if_neg (by omega)]
    exact fin 0 p2.symm
  · rw [if_pos p1, rc_36]
    refine vX3_depth ?_
    rw [if_neg (by omega), ri_36_5, show uf (uf (up s 37 (cps (s 29) (s 37) 0 (19 * n) 19)) 38 n p) 39 n c 36 5 = s 36 5 from rfl, hn, if_neg (by omega), ro_36_3, ld_40]
    refine ⟨p1, by omega, ?_⟩
    rw [atI_q]
    refine fin _ ?_
    show w32 (s 40 p + 1) = f
    rw [w32_id (by omega) (by omega), p3]
theorem kR_add {N : Int → Int} {k c x : Int} {t : Nat} (hk : kR s B) (n1 : 1 ≤ B.1) (k0 : 0 ≤ k) (k1 : k < B.1) (hN : eq19 (s 29) N) (ht : t < 1024) (hx : x = (hsh (s 29) + t) % 1024) (hg : s 41 x = 0) (hb : ∀ t' : Nat, t' < t → s 41 ((hsh (s 29) + t') % 1024) ≠ 0) : kR (sAd s B.1 x k c (s 40 k + 1)) (bAd B N k c) := by
  obtain ⟨h5, hH, hS⟩ := hk
  refine ⟨rfl, ?_, fun j j0 j1 => ?_⟩
  · show hT (ud (s 41) x (B.1 + 1)) (B.1 + 1) (ud B.2.1 B.1 N)
    rw [hsh_e hN] at hx hb
    exact hT_add hH hx ht hg hb
  · have j1' : j < B.1 + 1 := j1
    show (∀ i, 0 ≤ i → i < 19 → cps (s 29) (s 37) 0 (19 * B.1) 19 (19 * j + i) = ud B.2.1 B.1 N j i) ∧ ud (s 40) B.1 (s 40 k + 1) j = ud B.2.2.2.2 B.1 (B.2.2.2.2 k + 1) j ∧ (1 ≤ j → ud (s 38) B.1 k j = ud B.2.2.1 B.1 k j ∧ ud (s 39) B.1 c j = ud B.2.2.2.1 B.1 c j)
    by_cases cj : j = B.1
    · subst cj
      rw [ud_at, ud_at, ud_at, ud_at, ud_at, ud_at, ud_at]
      refine ⟨fun i i0 i1 => ?_, ?_, fun _ => ⟨rfl, rfl⟩⟩
      · unfold cps
        rw [if_pos (by omega), show 0 + (19 * B.1 + i - 19 * B.1) = i by omega]
        exact hN i i0 i1
      · rw [(hS k k0 k1).2.1]
    · obtain ⟨q1, q2, q3⟩ := hS j j0 (by omega)
      rw [ud_ne cj, ud_ne cj, ud_ne cj, ud_ne cj, ud_ne cj, ud_ne cj, ud_ne cj]
      refine ⟨fun i i0 i1 => ?_, q2, q3⟩
      unfold cps
      rw [if_neg (by omega)]
      exact q1 i i0 i1
/-- the row that leads to a state -/
def rwL (P C : Int → Int) : Nat → Int → (Int → Int) → (Int → Int)
  | 0, _, g => g
  | i + 1, k, g => rwL P C i (P k) (ud g i (C k))
def okB (m cl : Int) (B : Bs) : Prop := (1 ≤ B.1 ∧ B.1 ≤ 400) ∧ ∀ k, 0 ≤ k → k < B.1 → rgN (B.2.1 k) ∧ (0 ≤ B.2.2.2.2 k ∧ B.2.2.2.2 k < cl) ∧ (1 ≤ B.2.2.2.2 k → 1 ≤ k ∧ (0 ≤ B.2.2.1 k ∧ B.2.2.1 k < B.1) ∧ B.2.2.2.2 (B.2.2.1 k) + 1 = B.2.2.2.2 k ∧ 0 ≤ B.2.2.2.1 k ∧ B.2.2.2.1 k < m)
theorem okB_add {m cl : Int} {N : Int → Int} {k c : Int} (hB : okB m cl B) (n4 : B.1 < 400) (hN : rgN N) (k0 : 0 ≤ k) (k1 : k < B.1) (c0 : 0 ≤ c) (c1 : c < m) (hf : B.2.2.2.2 k + 1 < cl) : okB m cl (bAd B N k c) := by
  have n1 := hB.1.1
  refine ⟨⟨by show 1 ≤ B.1 + 1; omega, by show B.1 + 1 ≤ 400; omega⟩, fun j j0 j1 => ?_⟩
  have j1' : j < B.1 + 1 := j1
  have hkF := (hB.2 k k0 k1).2.1
  show rgN (ud B.2.1 B.1 N j) ∧ (0 ≤ ud B.2.2.2.2 B.1 (B.2.2.2.2 k + 1) j ∧ ud B.2.2.2.2 B.1 (B.2.2.2.2 k + 1) j < cl) ∧ (1 ≤ ud B.2.2.2.2 B.1 (B.2.2.2.2 k + 1) j → 1 ≤ j ∧ (0 ≤ ud B.2.2.1 B.1 k j ∧ ud B.2.2.1 B.1 k j < B.1 + 1) ∧ ud B.2.2.2.2 B.1 (B.2.2.2.2 k + 1) (ud B.2.2.1 B.1 k j) + 1 = ud B.2.2.2.2 B.1 (B.2.2.2.2 k + 1) j ∧ 0 ≤ ud B.2.2.2.1 B.1 c j ∧ ud B.2.2.2.1 B.1 c j < m)
  by_cases cj : j = B.1
  · subst cj
    rw [ud_at, ud_at, ud_at, ud_at]
    refine ⟨hN, by omega, fun _ => ⟨n1, by omega, ?_, c0, c1⟩⟩
    rw [ud_ne (by omega)]
  · obtain ⟨q1, q2, q3⟩ := hB.2 j j0 (by omega)
    rw [ud_ne cj, ud_ne cj, ud_ne cj, ud_ne cj]
    refine ⟨q1, q2, fun hF => ?_⟩
    obtain ⟨z1, z2, z3, z4⟩ := q3 hF
    refine ⟨z1, by omega, ?_, z4⟩
    rw [ud_ne (by omega)]
    exact z3
theorem rwL_ag {P C : Int → Int} {n : Int} : ∀ (i : Nat) (k : Int) (g g' : Int → Int), (∀ j, (i : Int) ≤ j → j < n → g j = g' j) → ∀ j, 0 ≤ j → j < n → rwL P C i k g j = rwL P C i k g' j
  | 0, _, _, _, e, j, j0, j1 => e j j0 j1
  | i + 1, k, g, g', e, j, j0, j1 => rwL_ag i (P k) _ _ (fun j j0 j1 => by
      rw [ud_ap, ud_ap]
      by_cases c : j = i
      · rw [if_pos c, if_pos c]
      · rw [if_neg c, if_neg c]; exact e j (by omega) j1) j j0 j1
theorem rwL_ok {m cl : Int} (hB : okB m cl B) {n : Int} : ∀ (i : Nat) (k : Int) (g : Int → Int), 0 ≤ k → k < B.1 → B.2.2.2.2 k = i → (∀ j, (i : Int) ≤ j → j < n → 0 ≤ g j ∧ g j < m) → ∀ j, 0 ≤ j → j < n → 0 ≤ rwL B.2.2.1 B.2.2.2.1 i k g j ∧ rwL B.2.2.1 B.2.2.2.1 i k g j < m
  | 0, _, _, _, _, _, e, j, j0, j1 => e j j0 j1
  | i + 1, k, g, k0, k1, hF, e, j, j0, j1 => by
    obtain ⟨q1, q2, q3, q4⟩ := (hB.2 k k0 k1).2.2 (by omega)
    exact rwL_ok hB i _ _ q2.1 q2.2 (by omega) (fun j j0 j1 => by
      rw [ud_ap]
      by_cases c : j = i
      · rw [if_pos c]; exact q4
      · rw [if_neg c]; exact e j (by omega) j1) j j0 j1
theorem sX3_rowThrough {m cl k c : Int} {L : Nat} (hB : okB m cl B) (hk : kR s B) (hcl : cl ≤ 12) (k0 : 0 ≤ k) (k1 : k < B.1) (hL : B.2.2.2.2 k = L) (hq : Q (some (vi (L + 1))) (PS h (up s 52 (rwL B.2.2.1 B.2.2.2.1 L k (ud (s 52) L c))) r)) : cz G mX3_rowThrough (d + 1) 0 0 [vo 36, vi k, vi c, vo 52] (PS h s r) Q := by
  obtain ⟨h5, hH, hS⟩ := hk
  have n4 := hB.1.2
  have hF := (hB.2 k k0 k1).2.1
  refine vX3_rowThrough ?_
  rw [rc_36]
  refine vX3_depth ?_
  rw [if_neg (by omega), ri_36_5, h5, if_neg (by omega), ro_36_3, ld_40, (hS k k0 k1).2.1, hL]
  refine ⟨k0, by omega, ?_⟩
  rw [atI_q, nnR_q, al_52]
  refine sJ9_min ?_
  rw [atI_q, w32_id (x := (L : Int) + 1) (by omega) (by omega), show min ((L : Int) + 1) 12 = (L : Int) + 1 by omega, show w32 ((L : Int) + 1 - 1) = L by rw [w32_id] <;> omega]
  have T : ∀ (i : Nat) (fr la : Int) (g : Int → Int), i ≤ 11 → 0 ≤ fr → fr < B.1 → B.2.2.2.2 fr = i → Q (some (vi ((L : Int) + 1))) (PS h (up s 52 (rwL B.2.2.1 B.2.2.2.1 i fr (ud g i la))) r) → pX3_rowThrough_26 G d 36 (some 52) ((L : Int) + 1) fr la i (PS h (up s 52 g) r) Q := by
    intro i
    induction i with
    | zero =>
      intro fr la g hi f0 f1 hf hqq
      refine vX3_rowThrough_26 ?_
      rw [if_neg (by decide), nnR_q, st_52, uf, up_up]
      refine ⟨by decide, by decide, ?_⟩
      rw [if_neg (by omega), ri_36_5, show up s 52 (ud (up s 52 g 52) ((0 : Nat) : Int) la) 36 5 = s 36 5 from rfl, h5, if_neg (by omega), ro_36_2, ld_39]
      refine ⟨f0, by omega, ?_⟩
      rw [ro_36_1, ld_38]
      refine ⟨f0, by omega, ?_⟩
      refine vX3_rowThrough_26 ?_
      rw [if_pos (by decide)]
      exact hqq
    | succ i ih =>
      intro fr la g hi f0 f1 hf hqq
      obtain ⟨q1, q2, q3, q4⟩ := (hB.2 fr f0 f1).2.2 (by omega)
      have hS' := (hS fr f0 f1).2.2 q1
      refine vX3_rowThrough_26 ?_
      rw [if_neg (by omega), nnR_q, st_52, uf, up_up]
      refine ⟨by omega, by omega, ?_⟩
      rw [if_neg (by omega), ri_36_5, show up s 52 (ud (up s 52 g 52) ((i + 1 : Nat) : Int) la) 36 5 = s 36 5 from rfl, h5, if_neg (by omega), ro_36_2, ld_39]
      refine ⟨f0, by omega, ?_⟩
      rw [ro_36_1, ld_38]
      refine ⟨f0, by omega, ?_⟩
      rw [show up s 52 (ud (up s 52 g 52) ((i + 1 : Nat) : Int) la) 39 fr = s 39 fr from rfl, show up s 52 (ud (up s 52 g 52) ((i + 1 : Nat) : Int) la) 38 fr = s 38 fr from rfl, hS'.1, hS'.2, show w32 (((i + 1 : Nat) : Int) + -1) = (i : Int) by rw [w32_id] <;> omega, up_at]
      exact ih _ _ _ (by omega) q2.1 q2.2 (by omega) hqq
  have := T L k c (s 52) (by omega) k0 k1 hL hq
  rw [up_same] at this
  exact this
end KN
