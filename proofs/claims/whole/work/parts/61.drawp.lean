/-! ROWS DRAWN -/
def nx (x : Int) : Int := w32 (w32 (x * 1103515245) + 12345)
def dn (x : Int) : Int := bUshr (nx x) 16
theorem dn_rg (x : Int) : 0 ≤ dn x ∧ dn x < 65536 := by
  unfold dn
  rw [bUshr_16]
  generalize nx x = y
  omega
abbrev Kp : Type := Int × (Int → Int) × (Int → Int)
/-- entries drawn -/
def dF (m : Int) : Nat → Int → Int → (Int → Int) → Int × (Int → Int)
  | 0, x, _, g => (x, g)
  | f + 1, x, i, g => dF m f (nx x) (i + 1) (ud g i (dn x % m))
/-- how much of a kept row comes first -/
def dB (x : Int) (K : Kp) : (Int → Int) × Nat := if 0 < K.1 ∧ dn x % 2 = 1 then (fun i => K.2.2 (12 * (dn x / 2 % K.1) + i), (K.2.1 (dn x / 2 % K.1)).toNat) else (fun _ => 0, 0)
def dW (x : Int) (l : Nat) : Nat := min (l + (1 + (dn (nx x) % 6).toNat)) 12
/-- a row drawn: the number after, the row -/
def drw (m x : Int) (K : Kp) : Int × Rw := ((dF m (dW x (dB x K).2 - (dB x K).2) (nx (nx x)) (dB x K).2 (dB x K).1).1, (dF m (dW x (dB x K).2 - (dB x K).2) (nx (nx x)) (dB x K).2 (dB x K).1).2, dW x (dB x K).2)
def okK (m : Int) (K : Kp) : Prop := (0 ≤ K.1 ∧ K.1 ≤ 8) ∧ ∀ i, 0 ≤ i → i < K.1 → (0 ≤ K.2.1 i ∧ K.2.1 i ≤ 12) ∧ ∀ j, 0 ≤ j → j < K.2.1 i → 0 ≤ K.2.2 (12 * i + j) ∧ K.2.2 (12 * i + j) < m
theorem dF_ag {m : Int} : ∀ (f : Nat) (x i : Int) (g g' : Int → Int), (∀ k, 0 ≤ k → k < i → g k = g' k) → 0 ≤ i → (dF m f x i g).1 = (dF m f x i g').1 ∧ ∀ k, 0 ≤ k → k < i + f → (dF m f x i g).2 k = (dF m f x i g').2 k
  | 0, _, _, _, _, e, _ => ⟨rfl, fun k k0 k1 => e k k0 (by omega)⟩
  | f + 1, x, i, g, g', e, i0 => by
    have := dF_ag (m := m) f (nx x) (i + 1) (ud g i (dn x % m)) (ud g' i (dn x % m)) (fun k k0 k1 => by
      rw [ud_ap, ud_ap]
      by_cases c : k = i
      · rw [if_pos c, if_pos c]
      · rw [if_neg c, if_neg c]; exact e k k0 (by omega)) (by omega)
    exact ⟨this.1, fun k k0 k1 => this.2 k k0 (by omega)⟩
theorem dF_ok {m : Int} (hm : 0 < m) : ∀ (f : Nat) (x i : Int) (g : Int → Int), (∀ k, 0 ≤ k → k < i → 0 ≤ g k ∧ g k < m) → 0 ≤ i → ∀ k, 0 ≤ k → k < i + f → 0 ≤ (dF m f x i g).2 k ∧ (dF m f x i g).2 k < m
  | 0, _, _, _, e, _ => fun k k0 k1 => e k k0 (by omega)
  | f + 1, x, i, g, e, i0 => fun k k0 k1 => dF_ok hm f (nx x) (i + 1) (ud g i (dn x % m)) (fun j j0 j1 => by
      rw [ud_ap]
      by_cases c : j = i
      · rw [if_pos c]
        exact ⟨Int.emod_nonneg _ (by omega), Int.emod_lt_of_pos _ hm⟩
      · rw [if_neg c]; exact e j j0 (by omega)) (by omega) k k0 (by omega)
theorem dB_ok {m x : Int} {K : Kp} (hK : okK m K) : (dB x K).2 ≤ 12 ∧ ∀ k : Int, 0 ≤ k → k < (dB x K).2 → 0 ≤ (dB x K).1 k ∧ (dB x K).1 k < m := by
  unfold dB
  by_cases c : 0 < K.1 ∧ dn x % 2 = 1
  · rw [if_pos c]
    have h0 := Int.emod_nonneg (dn x / 2) (show K.1 ≠ 0 by omega)
    have h1 := Int.emod_lt_of_pos (dn x / 2) c.1
    have := hK.2 _ h0 h1
    refine ⟨by show (K.2.1 (dn x / 2 % K.1)).toNat ≤ 12; omega, fun k k0 k1 => ?_⟩
    have k1' : k < ((K.2.1 (dn x / 2 % K.1)).toNat : Int) := k1
    exact this.2 k k0 (by omega)
  · rw [if_neg c]
    exact ⟨Nat.zero_le _, fun k k0 k1 => absurd k1 (by show ¬ k < ((0 : Nat) : Int); omega)⟩
theorem dW_rg {x : Int} {l : Nat} (hl : l ≤ 12) : 1 ≤ dW x l ∧ dW x l ≤ 12 ∧ l ≤ dW x l := by
  unfold dW
  omega
theorem drw_ok {m x : Int} {K : Kp} (hm : 0 < m) (hK : okK m K) : okR m (drw m x K).2 := by
  have hb := dB_ok (x := x) hK
  have hw := dW_rg (x := x) hb.1
  refine ⟨hw.1, hw.2.1, fun k k0 k1 => ?_⟩
  have k1' : k < (dW x (dB x K).2 : Int) := k1
  exact dF_ok hm _ _ _ _ hb.2 (by omega) k k0 (by omega)
def kAdd (K : Kp) (g : Int → Int) (n : Nat) : Kp := (K.1 + 1, ud K.2.1 K.1 n, cps g K.2.2 0 (12 * K.1) n)
theorem kAdd_ok {m : Int} {K : Kp} {g : Int → Int} {n : Nat} (hK : okK m K) (h8 : K.1 < 8) (hn : n ≤ 12) (hg : ∀ k : Int, 0 ≤ k → k < n → 0 ≤ g k ∧ g k < m) : okK m (kAdd K g n) := by
  have hQ : jQ K.1 K.1 m 8 K.2.1 K.2.1 K.2.2 K.2.2 := ⟨rfl, hK.1, fun i i0 i1 => ⟨rfl, (hK.2 i i0 i1).1, fun j j0 j1 => ⟨rfl, (hK.2 i i0 i1).2 j j0 j1⟩⟩⟩
  have := jQ_add hQ h8 hn (q := g) (q' := g) (fun k k0 k1 => ⟨rfl, hg k k0 k1⟩)
  exact ⟨this.2.1, fun i i0 i1 => ⟨(this.2.2 i i0 i1).2.1, fun j j0 j1 => ((this.2.2 i i0 i1).2.2 j j0 j1).2⟩⟩
theorem okK_Q {n m : Int} {l l' g g' : Int → Int} {n' : Int} (hQ : jQ n n' m 8 l l' g g') : okK m (n', l', g') := ⟨hQ.2.1, fun i i0 i1 => ⟨(hQ.2.2 i i0 i1).2.1, fun j j0 j1 => ((hQ.2.2 i i0 i1).2.2 j j0 j1).2⟩⟩
def stop (Z : Option Nat × Z3) (p : Rw) : Nat := match Z.1 with
  | none => p.2
  | some i => i + 1
def keepK (Z : Option Nat × Z3) (p : Rw) (K : Kp) : Kp := if Z.2.2.2 = 0 then K else if K.1 < 8 then kAdd K p.1 (stop Z p) else K
def drL (cs : Int → Option Cd) (hk : Int → Option (Int × Int)) (ch : Ch) (rl : Cd) (M : Int → Int) (m : Int) : Nat → Int → Kp → (Int → Int) → Option Rw × Kp × (Int → Int)
  | 0, _, K, Mm => (none, K, Mm)
  | f + 1, x, K, Mm => match (brk 1 cs hk ch rl (drw m x K).2.1 (drw m x K).2.2 0 (stN M, Mm, 0)).1 with
    | none => drL cs hk ch rl M m f (drw m x K).1 (keepK (brk 1 cs hk ch rl (drw m x K).2.1 (drw m x K).2.2 0 (stN M, Mm, 0)) (drw m x K).2 K) (brk 1 cs hk ch rl (drw m x K).2.1 (drw m x K).2.2 0 (stN M, Mm, 0)).2.2.1
    | some i => (some ((drw m x K).2.1, i + 1), keepK (brk 1 cs hk ch rl (drw m x K).2.1 (drw m x K).2.2 0 (stN M, Mm, 0)) (drw m x K).2 K, (brk 1 cs hk ch rl (drw m x K).2.1 (drw m x K).2.2 0 (stN M, Mm, 0)).2.2.1)
theorem stop_rg {w : Int} {cs : Int → Option Cd} {hk : Int → Option (Int × Int)} {ch : Ch} {rl : Cd} {p : Rw} {z : Z3} : stop (brk w cs hk ch rl p.1 p.2 0 z) p ≤ p.2 := by
  unfold stop
  cases h : (brk w cs hk ch rl p.1 p.2 0 z).1 with
  | none => exact Nat.le_refl _
  | some i =>
    have := brk_lt _ _ _ _ h
    show i + 1 ≤ p.2
    omega
section DC
variable {h : az_H} {s : Nat → Int → Int} {r : Nat → Int → Option Nat} {G : az_G} {d : Nat} {Q : Option az_V → az_H → Prop} {m : Int} {K : Kp}
theorem sX2_drawNumber (hq : Q (some (vi (dn (s 44 3)))) (PS h (uf s 44 3 (nx (s 44 3))) r)) : cz G mX2_drawNumber d 0 0 [vo 44] (PS h s r) Q := by
  refine vX2_drawNumber ?_
  rw [ri_44_3, wi_44_3, ri_44_3]
  exact hq
theorem sX11_drawn (hq : Q (some (vi (dn (s 54 58)))) (PS h (uf s 54 58 (nx (s 54 58))) r)) : cz G mX11_drawn d 0 0 [vo 54] (PS h s r) Q := by
  refine vX11_drawn ?_
  rw [ri_54_58, wi_54_58, ri_54_58]
  exact hq
/-- the class draws a row -/
theorem cDrw (hm : 0 < m) (m30 : m ≤ 30) (h35 : s 35 4 = m) (hQ : jQ (s 45 3) K.1 m 8 (s 47) K.2.1 (s 46) K.2.2)
    (hq : ∀ s', (∀ a, a ≠ 44 → a ≠ 52 → s' a = s a) → s' 44 3 = (drw m (s 44 3) K).1 → agR (s' 52) (drw m (s 44 3) K).2 → Q (some (vi (drw m (s 44 3) K).2.2)) (PS h s' r)) : cz G mX2_drawInto (d + 2) 0 0 [vo 44, vo 52] (PS h s r) Q := by
  have hok : okK m K := okK_Q hQ
  have hb := dB_ok (x := s 44 3) hok
  have hw := dW_rg (x := s 44 3) hb.1
  -- the loop
  have L : ∀ (f : Nat) (i W : Int) (s1 : Nat → Int → Int), W = i + f → 0 ≤ i → W ≤ 12 → (∀ s', (∀ a, a ≠ 44 → a ≠ 52 → s' a = s1 a) → s' 44 3 = (dF m f (s1 44 3) i (s1 52)).1 → s' 52 = (dF m f (s1 44 3) i (s1 52)).2 → Q (some (vi W)) (PS h s' r)) → pX2_drawInto_87 G (d + 1) 44 (some 52) m W i (PS h s1 r) Q := by
    intro f
    induction f with
    | zero =>
      intro i W s1 hW i0 hW2 hk
      refine vX2_drawInto_87 ?_
      rw [if_pos (by omega)]
      exact hk s1 (fun _ _ _ => rfl) rfl rfl
    | succ f ih =>
      intro i W s1 hW i0 hW2 hk
      have hd := dn_rg (s1 44 3)
      refine vX2_drawInto_87 ?_
      rw [if_neg (by omega), rc_44]
      refine sX2_drawNumber ?_
      rw [atI_q, nnR_q, st_52, bRem_p hd.1 (by omega) hm (by omega), show w32 (i + 1) = i + 1 by rw [w32_id] <;> omega]
      refine ⟨by omega, by omega, by omega, ih (i + 1) W _ (by omega) (by omega) hW2 (fun s' q1 q2 q3 => hk s' (fun a x y => ?_) q2 q3)⟩
      rw [q1 a x y, uf, up_ne y, uf, up_ne x]
  have L61 : ∀ (l : Nat) (s1 : Nat → Int → Int), l = (dB (s 44 3) K).2 → (∀ a, a ≠ 44 → a ≠ 52 → s1 a = s a) → s1 44 3 = nx (s 44 3) → (∀ k : Int, 0 ≤ k → k < l → s1 52 k = (dB (s 44 3) K).1 k) → pX2_drawInto_61 G (d + 1) 44 (some 52) m l (PS h s1 r) Q := by
    intro l s1 hl e1 e2 e3
    have hd := dn_rg (nx (s 44 3))
    refine vX2_drawInto_61 ?_
    rw [rc_44]
    refine sX2_drawNumber ?_
    rw [atI_q, nnR_q, al_52, e2]
    refine vJ9_min_7cf53 ?_
    rw [if_neg (by decide), atI_q, bRem_p hd.1 (by omega) (by decide) (by decide)]
    have ew : w32 (w32 ((l : Int) + 1) + dn (nx (s 44 3)) % 6) = l + 1 + dn (nx (s 44 3)) % 6 := by
      rw [w32_id (x := (l : Int) + 1) (by omega) (by omega), w32_id (by omega) (by omega)]
    rw [ew]
    clear ew
    have fin : pX2_drawInto_87 G (d + 1) 44 (some 52) m (dW (s 44 3) l) l (PS h (uf s1 44 3 (nx (nx (s 44 3)))) r) Q := by
      subst hl
      refine L (dW (s 44 3) (dB (s 44 3) K).2 - (dB (s 44 3) K).2) _ _ _ (by omega) (by omega) (by omega) (fun s' q1 q2 q3 => ?_)
      have hag := dF_ag (m := m) (dW (s 44 3) (dB (s 44 3) K).2 - (dB (s 44 3) K).2) (nx (nx (s 44 3))) ((dB (s 44 3) K).2 : Int) (s1 52) (dB (s 44 3) K).1 e3 (by omega)
      refine hq s' (fun a x y => ?_) ?_ (fun k k0 k1 => ?_)
      · rw [q1 a x y, uf, up_ne x]
        exact e1 a x y
      · rw [q2]
        exact hag.1
      · rw [q3]
        have k1' : k < (dW (s 44 3) (dB (s 44 3) K).2 : Int) := k1
        exact hag.2 k k0 (by omega)
    refine vJ9_min_7cf53 ?_
    by_cases c : (12 : Int) < l + 1 + dn (nx (s 44 3)) % 6
    · rw [if_pos c, atI_q]
      have : dW (s 44 3) l = 12 := by unfold dW; omega
      rw [this] at fin
      exact fin
    · rw [if_neg c, atI_q]
      have : (dW (s 44 3) l : Int) = l + 1 + dn (nx (s 44 3)) % 6 := by unfold dW; omega
      rw [this] at fin
      exact fin
  have hd := dn_rg (s 44 3)
  refine vX2_drawInto ?_
  rw [ro_44_0, rc_35]
  refine vX7_choiceCount ?_
  rw [ri_35_4, atI_q, h35, if_pos hm, rc_44]
  refine sX2_drawNumber ?_
  rw [atI_q, ro_44_2, rc_45]
  refine vX6_size ?_
  rw [ri_45_3, atI_q, show uf s 44 3 (nx (s 44 3)) 45 3 = s 45 3 from rfl, hQ.1]
  have hK0 := hQ.2.1
  by_cases c1 : K.1 ≤ 0
  · rw [if_pos c1]
    have eb : dB (s 44 3) K = (fun _ => 0, 0) := by unfold dB; rw [if_neg (by omega)]
    refine L61 0 _ (by rw [eb]) (fun a x y => up_ne x) rfl (fun k k0 k1 => absurd k1 (by omega))
  rw [if_neg c1, bRem_p hd.1 (by omega) (by decide) (by decide)]
  by_cases c2 : dn (s 44 3) % 2 = 1
  · rw [if_pos c2, ro_44_2, ro_44_2, rc_45]
    refine vX6_size ?_
    have eb : dB (s 44 3) K = (fun i => K.2.2 (12 * (dn (s 44 3) / 2 % K.1) + i), (K.2.1 (dn (s 44 3) / 2 % K.1)).toNat) := by unfold dB; rw [if_pos ⟨by omega, c2⟩]
    rw [ri_45_3, atI_q, show uf s 44 3 (nx (s 44 3)) 45 3 = s 45 3 from rfl, hQ.1, rc_45, bDiv_p hd.1 (by omega) (by decide) (by decide), bRem_p (by omega) (by omega) (by omega) (by omega)]
    refine ⟨by omega, ?_⟩
    have h0 := Int.emod_nonneg (dn (s 44 3) / 2) (show K.1 ≠ 0 by omega)
    have h1 := Int.emod_lt_of_pos (dn (s 44 3) / 2) (show 0 < K.1 by omega)
    obtain ⟨w4, w5, w6⟩ := hQ.2.2 _ h0 h1
    generalize dn (s 44 3) / 2 % K.1 = kk at h0 h1 w4 w5 w6 eb ⊢
    have en : s 47 kk = ((K.2.1 kk).toNat : Int) := by rw [w4]; omega
    refine sX6_copy45 (s := uf s 44 3 (nx (s 44 3))) (d := d) (n := (K.2.1 kk).toNat) h0 (by show kk < s 45 3; rw [hQ.1]; exact h1) (by show s 45 3 ≤ 8; rw [hQ.1]; exact hK0.2) en (by omega) ?_
    rw [atI_q]
    refine L61 (K.2.1 kk).toNat _ (by rw [eb]) (fun a x y => ?_) rfl (fun k k0 k1 => ?_)
    · rw [up_ne y, uf, up_ne x]
    · rw [up_at, cps_at k0 k1, eb]
      exact (w6 k k0 (by omega)).1
  · rw [if_neg c2]
    have eb : dB (s 44 3) K = (fun _ => 0, 0) := by unfold dB; rw [if_neg (by omega)]
    refine L61 0 _ (by rw [eb]) (fun a x y => up_ne x) rfl (fun k k0 k1 => absurd k1 (by omega))
end DC
