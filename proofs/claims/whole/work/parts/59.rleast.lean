/-! A ROW MADE LEAST, by the reference; LEAST -/
section LR
variable {h : az_H} {s : Nat → Int → Int} {r : Nat → Int → Option Nat} {G : az_G} {d D : Nat} {Q : Option az_V → az_H → Prop} {cs : Int → Option Cd} {hk : Int → Option (Int × Int)} {ru : Int → Cd} {a b m nr : Int} {ch : Ch} {M : Int → Int} {s0 : Nat → Int → Int} {xs : List Int}
/-- a call is taken away -/
theorem rShift {n : Nat} {i x4 : Int} (hn : n ≤ 12) (i0 : 0 ≤ i) (i1 : i < n) (h48 : s 54 48 = n) (hx : 0 ≤ x4 ∧ x4 < 12)
    (hq : ∀ g, (∀ k : Int, 0 ≤ k → k < (n : Int) - 1 → g k = er (s 82) i k) → pX11_makeLeast_27 G d 54 b 1 (w32 (i + -1)) (PS h (uf (up s 82 g) 54 48 (x4 + 1)) r) Q) : pX11_makeLeast_60 G d 54 b i x4 i (PS h s r) Q := by
  have L : ∀ (t : Nat) (j : Int) (g : Int → Int), j = (n : Int) - 1 - t → i ≤ j → (∀ k : Int, 0 ≤ k → k < j → g k = er (s 82) i k) → (∀ k : Int, j ≤ k → g k = s 82 k) → pX11_makeLeast_60 G d 54 b i x4 j (PS h (up s 82 g) r) Q := by
    intro t
    induction t with
    | zero =>
      intro j g hj ij hg1 hg2
      refine vX11_makeLeast_60 ?_
      rw [ri_54_48, show up s 82 g 54 48 = n from h48, show w32 (j + 1) = j + 1 by rw [w32_id] <;> omega, if_pos (by omega), wi_54_48, show w32 (x4 + 1) = x4 + 1 by rw [w32_id] <;> omega]
      exact hq g (fun k k0 k1 => hg1 k k0 (by omega))
    | succ t ih =>
      intro j g hj ij hg1 hg2
      refine vX11_makeLeast_60 ?_
      rw [ri_54_48, show up s 82 g 54 48 = n from h48, show w32 (j + 1) = j + 1 by rw [w32_id] <;> omega, if_neg (by omega), ro_54_49, ro_54_49, ld_82]
      refine ⟨by omega, by omega, ?_⟩
      rw [st_82, up_uf, show up s 82 g 82 = g from up_at _ _ _]
      refine ⟨by omega, by omega, ih (j + 1) _ (by omega) (by omega) (fun k k0 k1 => ?_) (fun k k0 => ?_)⟩
      · rw [ud_ap]
        by_cases e : k = j
        · rw [if_pos e, hg2 (j + 1) (by omega)]
          unfold er
          rw [if_neg (by omega), e]
        · rw [if_neg e]; exact hg1 k k0 (by omega)
      · rw [ud_ne (by omega)]; exact hg2 k (by omega)
  have := L (n - 1 - i.toNat) i (s 82) (by omega) (Int.le_refl _) (fun k k0 k1 => by unfold er; rw [if_pos k1]) (fun k _ => rfl)
  rw [up_same] at this
  exact this
theorem rLs27 (hK0 : KR s0 cs hk ru ch m nr M) (hb0 : 0 ≤ b) (hb1 : b < nr) {n0 : Nat} (hn0 : n0 ≤ 12) :
    ∀ (t : Nat) (p : Rw) (s : Nat → Int → Int), okR m p → p.2 ≤ n0 → t ≤ 12 → frZ s0 s → s 54 48 = p.2 → agR (s 82) p →
    (∀ s', frZ s0 s' → s' 54 48 = (lsI (brk0 cs hk ch (ru b) M) t p).2 → agR (s' 82) (lsI (brk0 cs hk ch (ru b) M) t p) → pX11_makeLeast_14 G (d + 6) 54 b (if (lsI (brk0 cs hk ch (ru b) M) t p).2 = n0 then 0 else 1) (PS h s' r) Q) →
    pX11_makeLeast_27 G (d + 6) 54 b (if p.2 = n0 then 0 else 1) ((t : Int) - 1) (PS h s r) Q := by
  intro t
  induction t with
  | zero =>
    intro p s hp hpn ht hfr h48 hag hK
    refine vX11_makeLeast_27 ?_
    rw [if_pos (show ((0 : Nat) : Int) - 1 < 0 by decide)]
    exact hK s hfr h48 hag
  | succ t ih =>
    intro p s hp hpn ht hfr h48 hag hK
    have hp1 := hp.1
    have hp2 := hp.2.1
    have hlt := @brk0_lt cs hk ch (ru b) M
    refine vX11_makeLeast_27 ?_
    rw [show (((t + 1 : Nat) : Int) - 1) = (t : Int) by omega, if_neg (show ¬ (t : Int) < 0 by omega), ri_54_48, h48]
    unfold lsI at hK
    by_cases c : (p.2 : Int) ≤ t
    · rw [if_pos c, show w32 ((t : Int) + -1) = (t : Int) - 1 by rw [w32_id] <;> omega]
      have et : tryE (brk0 cs hk ch (ru b) M) p t = p := by unfold tryE; rw [if_neg (by omega)]
      rw [et] at hK
      exact ih p s hp hpn (by omega) hfr h48 hag hK
    · rw [if_neg c, rc_54]
      have hok := (tryE_ok hlt (i := t) hp)
      refine rBK (but := (t : Int)) (n := p.2) (n' := p.2 - 1) (g' := er (s 82) t) (d := d) (by omega) hK0 hfr hb0 hb1 h48 hp2 (fun k k0 k1 => ?_) (Or.inr ⟨by omega, by omega, by omega, fun _ => rfl⟩) (fun s1 fr1 f1 => ?_)
      · rw [hag k k0 k1]
        exact hp.2.2 k k0 k1
      have her : ∀ k : Int, 0 ≤ k → k < ((p.2 - 1 : Nat) : Int) → er (s 82) t k = er p.1 t k := by
        intro k k0 k1
        unfold er
        by_cases ck : k < t
        · rw [if_pos ck, if_pos ck]; exact hag k k0 (by omega)
        · rw [if_neg ck, if_neg ck]; exact hag (k + 1) (by omega) (by omega)
      rw [atI_q, brk0_ext her]
      have g82 : s1 82 = s 82 := f1.1 82 (by decide) (by decide) (by decide)
      have g48 : s1 54 48 = p.2 := (f1.2 48 (by decide) (by decide) (by decide) (by decide)).trans h48
      cases hB : brk0 cs hk ch (ru b) M (er p.1 t) (p.2 - 1) with
      | none =>
        have et : tryE (brk0 cs hk ch (ru b) M) p t = p := by unfold tryE; rw [if_pos (by omega), hB]
        rw [et] at hK
        rw [if_pos (show bI none < 0 by decide), show w32 ((t : Int) + -1) = (t : Int) - 1 by rw [w32_id] <;> omega]
        exact ih p s1 hp hpn (by omega) fr1 g48 (by rw [g82]; exact hag) hK
      | some x =>
        have et : tryE (brk0 cs hk ch (ru b) M) p t = (er p.1 t, x + 1) := by unfold tryE; rw [if_pos (by omega), hB]
        rw [et] at hK hok
        have hx := hlt _ _ _ hB
        rw [show bI (some x) = (x : Int) from rfl, if_neg (by omega)]
        refine rShift hp2 (by omega) (by omega) g48 (by omega) (fun g hg => ?_)
        rw [show w32 ((t : Int) + -1) = (t : Int) - 1 by rw [w32_id] <;> omega]
        have key := ih (er p.1 t, x + 1) (uf (up s1 82 g) 54 48 ((x : Int) + 1)) hok.1 (by show x + 1 ≤ n0; omega) (by omega) ⟨frY_tr fr1.1 (frY_tr frY_82 frY_48), fr1.2⟩ (by show (x : Int) + 1 = ((x + 1 : Nat) : Int); omega) (fun k k0 k1 => ?_) hK
        · rw [if_neg (show ¬ (er p.1 t, x + 1).2 = n0 by show ¬ x + 1 = n0; omega)] at key
          exact key
        · have k1' : k < ((x + 1 : Nat) : Int) := k1
          show up s1 82 g 82 k = er p.1 t k
          rw [up_at, hg k k0 (by omega), g82]
          exact her k k0 (by omega)
theorem rLs14 (hK0 : KR s0 cs hk ru ch m nr M) (hb0 : 0 ≤ b) (hb1 : b < nr) :
    ∀ (f : Nat) (p : Rw) (s : Nat → Int → Int), p.2 ≤ f → okR m p → frZ s0 s → s 54 48 = p.2 → agR (s 82) p →
    (∀ s', frZ s0 s' → s' 54 48 = (lsO (brk0 cs hk ch (ru b) M) f p).2 → agR (s' 82) (lsO (brk0 cs hk ch (ru b) M) f p) → Q none (PS h s' r)) →
    pX11_makeLeast_14 G (d + 6) 54 b 1 (PS h s r) Q := by
  intro f
  induction f with
  | zero =>
    intro p s hpf hp hfr h48 hag hq
    exact absurd hp.1 (by omega)
  | succ f ih =>
    intro p s hpf hp hfr h48 hag hq
    have hp1 := hp.1
    have hp2 := hp.2.1
    refine vX11_makeLeast_14 ?_
    rw [if_neg (by decide), ri_54_48, h48, w32_id (x := (p.2 : Int) - 1) (by omega) (by omega)]
    have key := rLs27 (h := h) (r := r) (G := G) (d := d) (Q := Q) (n0 := p.2) hK0 hb0 hb1 hp2 p.2 p s hp (Nat.le_refl _) hp2 hfr h48 hag (fun s1 f1 g1 g2 => ?_)
    · rw [if_pos rfl] at key
      exact key
    · have hok := lsI_ok (@brk0_lt cs hk ch (ru b) M) p.2 hp
      unfold lsO at hq
      by_cases c : (lsI (brk0 cs hk ch (ru b) M) p.2 p).2 = p.2
      · rw [if_pos c] at hq
        rw [if_pos c]
        refine vX11_makeLeast_14 ?_
        rw [if_pos rfl]
        exact hq s1 f1 g1 g2
      · rw [if_neg c] at hq
        rw [if_neg c]
        exact ih _ s1 (by omega) hok.1 f1 g1 g2 hq
/-- the reference makes a row least that breaks a rule -/
theorem rLeast (hK : KR s0 cs hk ru ch m nr M) (hf : frZ s0 s) (hb0 : 0 ≤ b) (hb1 : b < nr) {n x : Nat} (h48 : s 54 48 = n) (hp : okR m (s 82, n)) (hB : brk0 cs hk ch (ru b) M (s 82) n = some x)
    (hq : ∀ s', frZ s0 s' → s' 54 48 = (lsO (brk0 cs hk ch (ru b) M) 12 (s 82, x + 1)).2 → agR (s' 82) (lsO (brk0 cs hk ch (ru b) M) 12 (s 82, x + 1)) → Q none (PS h s' r)) : cz G mX11_makeLeast (d + 7) 0 0 [vo 54, vi b] (PS h s r) Q := by
  have hx := brk0_lt _ _ _ hB
  have hp2 : n ≤ 12 := hp.2.1
  refine vX11_makeLeast (d := d + 6) ?_
  rw [rc_54]
  refine rBK (but := -1) (n := n) (n' := n) (g' := s 82) (d := d) (by decide) hK hf hb0 hb1 h48 hp2 hp.2.2 (Or.inl ⟨rfl, rfl, fun _ => rfl⟩) (fun s1 fr1 f1 => ?_)
  rw [atI_q, hB, show bI (some x) = (x : Int) from rfl, show w32 ((x : Int) + 1) = ((x + 1 : Nat) : Int) by rw [w32_id] <;> omega, wi_54_48]
  have e82 : s1 82 = s 82 := f1.1 82 (by decide) (by decide) (by decide)
  refine rLs14 (s0 := s0) hK hb0 hb1 12 (s 82, x + 1) _ (by show x + 1 ≤ 12; omega) ⟨by show 1 ≤ x + 1; omega, by show x + 1 ≤ 12; omega, fun k k0 k1 => ?_⟩ ⟨frY_tr fr1.1 frY_48, fr1.2⟩ rfl (fun k k0 k1 => ?_) hq
  · have k1' : k < ((x + 1 : Nat) : Int) := k1
    exact hp.2.2 k k0 (by show k < (n : Int); omega)
  · show s1 82 k = s 82 k
    rw [e82]
/-- the class's rows, one more; the reference's, one more -/
theorem both_add {h' : az_H} {s1 s' : Nat → Int → Int} (hJ : J h' s1 r cs hk ru) {n : Nat} (hn : n ≤ 12) {q q' : Int → Int} {N : Int} (hN : s1 54 45 = N) (N1 : N < 20) (hqq : ∀ k : Int, 0 ≤ k → k < n → q k = q' k ∧ 0 ≤ q' k ∧ q' k < s1 54 40)
    (hsc : scE eW s1 s') (hm : jM s') (e48 : s' 48 3 = N + 1) (e45 : s' 54 45 = N + 1) (e40 : s' 54 40 = s1 54 40) (e50 : s' 50 = ud (s1 50) N n) (e80 : s' 80 = ud (s1 80) N n) (e49 : s' 49 = cps q (s1 49) 0 (12 * N) n) (e81 : s' 81 = cps q' (s1 81) 0 (12 * N) n) : J h' s' r cs hk ru := by
  refine J_W hsc hm ?_ hJ
  show jQ (s' 48 3) (s' 54 45) (s' 54 40) 20 (s' 50) (s' 80) (s' 49) (s' 81)
  rw [e48, e45, e40, e50, e80, e49, e81]
  have w := hJ.2.2.2.2.2.2.2.2.2.2.1
  have w' : jQ (s1 48 3) (s1 54 45) (s1 54 40) 20 (s1 50) (s1 80) (s1 49) (s1 81) := w
  rw [w'.1, hN] at w'
  exact jQ_add w' N1 hn hqq
end LR
