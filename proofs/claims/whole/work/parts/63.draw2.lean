/-! DRAW: the loops -/
def dI (o : Option Rw) : Int := match o with
  | some p => (p.2 : Int)
  | none => -2
def frD (s s' : Nat → Int → Int) : Prop := ∀ a, a ≠ 22 → a ≠ 24 → a ≠ 27 → a ≠ 29 → a ≠ 34 → ¬ (31 ≤ a ∧ a ≤ 33) → ¬ (44 ≤ a ∧ a ≤ 47) → a ≠ 52 → s' a = s a
theorem frD_rf {s : Nat → Int → Int} : frD s s := fun _ _ _ _ _ _ _ _ _ => rfl
theorem frD_tr {s s' s'' : Nat → Int → Int} (h1 : frD s s') (h2 : frD s' s'') : frD s s'' := fun a x1 x2 x3 x4 x5 x6 x7 x8 => (h2 a x1 x2 x3 x4 x5 x6 x7 x8).trans (h1 a x1 x2 x3 x4 x5 x6 x7 x8)
theorem frD_M {s s' : Nat → Int → Int} (h1 : frM 31 s s') : frD s s' := fun a x1 x2 x3 x4 x5 x6 _ _ => h1 a x1 x2 x3 x4 x5 x6
theorem frD_up {s : Nat → Int → Int} {b : Nat} {g : Int → Int} (hb : b = 22 ∨ b = 44 ∨ b = 45 ∨ b = 46 ∨ b = 47 ∨ b = 52) : frD s (up s b g) := fun a _ _ _ _ _ _ x7 x8 => up_ne (by omega)
theorem frD_uf {s : Nat → Int → Int} {b : Nat} {k v : Int} (hb : b = 22 ∨ b = 44 ∨ b = 45 ∨ b = 46 ∨ b = 47 ∨ b = 52) : frD s (uf s b k v) := frD_up hb
def frE (s s' : Nat → Int → Int) : Prop := (∀ a, a ≠ 54 → a ≠ 64 → ¬ (69 ≤ a ∧ a ≤ 75) → ¬ (82 ≤ a ∧ a ≤ 84) → s' a = s a) ∧ ∀ k, k ≠ 29 → k ≠ 30 → k ≠ 32 → k ≠ 33 → k ≠ 34 → k ≠ 48 → k ≠ 50 → k ≠ 58 → s' 54 k = s 54 k
theorem frE_rf {s : Nat → Int → Int} : frE s s := ⟨fun _ _ _ _ _ => rfl, fun _ _ _ _ _ _ _ _ _ => rfl⟩
theorem frE_tr {s s' s'' : Nat → Int → Int} (h1 : frE s s') (h2 : frE s' s'') : frE s s'' := ⟨fun a x1 x2 x3 x4 => (h2.1 a x1 x2 x3 x4).trans (h1.1 a x1 x2 x3 x4), fun k x1 x2 x3 x4 x5 x6 x7 x8 => (h2.2 k x1 x2 x3 x4 x5 x6 x7 x8).trans (h1.2 k x1 x2 x3 x4 x5 x6 x7 x8)⟩
theorem frE_X {s s' : Nat → Int → Int} (h1 : frX s s') : frE s s' := ⟨fun a x1 x2 x3 _ => h1.1 a x1 x2 x3, fun k _ x2 x3 x4 x5 _ _ _ => h1.2 k x2 x3 x4 x5⟩
theorem frE_up {s : Nat → Int → Int} {b : Nat} {g : Int → Int} (hb : 82 ≤ b ∧ b ≤ 84) : frE s (up s b g) := ⟨fun a _ _ _ x4 => up_ne (by omega), fun k _ _ _ _ _ _ _ _ => by rw [up_ne (by omega)]⟩
theorem frE_uf {s : Nat → Int → Int} {b : Nat} {k v : Int} (hb : 82 ≤ b ∧ b ≤ 84) : frE s (uf s b k v) := frE_up hb
theorem frE_54 {s : Nat → Int → Int} {j v : Int} (hj : j = 29 ∨ j = 30 ∨ j = 48 ∨ j = 50 ∨ j = 58) : frE s (uf s 54 j v) := ⟨fun a x _ _ _ => up_ne x, fun k x1 x2 _ _ _ x6 x7 x8 => ud_ne (by omega)⟩
theorem frE_dr {s s' : Nat → Int → Int} (h1 : ∀ a, a ≠ 54 → a ≠ 82 → s' a = s a) (h2 : ∀ k, k ≠ 48 → k ≠ 58 → s' 54 k = s 54 k) : frE s s' := ⟨fun a x1 _ _ x4 => h1 a x1 (by omega), fun k _ _ _ _ _ x6 _ x8 => h2 k x6 x8⟩
theorem KR_E {s s' : Nat → Int → Int} {cs : Int → Option Cd} {hk : Int → Option (Int × Int)} {ru : Int → Cd} {ch : Ch} {m nr : Int} {M : Int → Int} (hf : frE s s') (hK : KR s cs hk ru ch m nr M) : KR s' cs hk ru ch m nr M := by
  have e : ∀ a, a ≠ 54 → a ≠ 64 → ¬ (69 ≤ a ∧ a ≤ 75) → ¬ (82 ≤ a ∧ a ≤ 84) → s' a = s a := hf.1
  exact KR_e (e 56 (by decide) (by decide) (by decide) (by decide)) (e 57 (by decide) (by decide) (by decide) (by decide)) (e 58 (by decide) (by decide) (by decide) (by decide)) (e 59 (by decide) (by decide) (by decide) (by decide)) (e 61 (by decide) (by decide) (by decide) (by decide)) (e 67 (by decide) (by decide) (by decide) (by decide)) (e 68 (by decide) (by decide) (by decide) (by decide)) (hf.2 40 (by decide) (by decide) (by decide) (by decide) (by decide) (by decide) (by decide) (by decide)) (e 76 (by decide) (by decide) (by decide) (by decide)) (e 77 (by decide) (by decide) (by decide) (by decide)) (e 78 (by decide) (by decide) (by decide) (by decide)) (e 79 (by decide) (by decide) (by decide) (by decide)) (hf.2 13 (by decide) (by decide) (by decide) (by decide) (by decide) (by decide) (by decide) (by decide)) (e 66 (by decide) (by decide) (by decide) (by decide)) hK
section DL
variable {h : az_H} {s s0 : Nat → Int → Int} {r : Nat → Int → Option Nat} {G : az_G} {d : Nat} {Q : Option az_V → az_H → Prop} {cs : Int → Option Cd} {hk : Int → Option (Int × Int)} {ru : Int → Cd} {ch : Ch} {m nr b : Int} {M : Int → Int} {bb : Nat}
/-- the class draws until a row breaks the rule -/
theorem cDraw (hK0 : KC h s0 r cs hk ru ch m nr M) (hm : 0 < m) (hb0 : 0 ≤ b) (hb1 : b < nr) (hbb : r 51 b = some bb) :
    ∀ (f : Nat) (n i : Int) (s : Nat → Int → Int) (K : Kp) (Mm : Int → Int), n = i + f → 0 ≤ i → n ≤ 200 → frD s0 s → jQ (s 45 3) K.1 m 8 (s 47) K.2.1 (s 46) K.2.2 → metR (s 24) Mm → s 22 4 = 0 →
    (∀ s' R, R = drL cs hk ch (ru b) M m f (s 44 3) K Mm → frD s0 s' → jQ (s' 45 3) R.2.1.1 m 8 (s' 47) R.2.1.2.1 (s' 46) R.2.1.2.2 → metR (s' 24) R.2.2 → s' 22 4 = 0 → (∀ p, R.1 = some p → agR (s' 52) p) → Q (some (vi (dI R.1))) (PS h s' r)) →
    pX2_drawUntilBroken_8 G (d + 12) 44 (some bb) n (some 52) i (PS h s r) Q := by
  obtain ⟨k1, k2, k3, k4, k5, k6⟩ := hK0
  obtain ⟨wf, b2, lv, e2, hcc⟩ := k5 b hb0 hb1
  have : b2 = bb := Option.some.inj (e2.symm.trans hbb)
  subst this
  intro f
  induction f with
  | zero =>
    intro n i s K Mm hn i0 n2 hfr hQ hM h4 hq
    refine vX2_drawUntilBroken_8 ?_
    rw [if_pos (by omega)]
    exact hq s _ rfl hfr hQ hM h4 (fun p e => by cases e)
  | succ f ih =>
    intro n i s K Mm hn i0 n2 hfr hQ hM h4 hq
    have e35 : s 35 = s0 35 := hfr 35 (by decide) (by decide) (by decide) (by decide) (by decide) (by decide) (by decide) (by decide)
    have e25 : s 25 = s0 25 := hfr 25 (by decide) (by decide) (by decide) (by decide) (by decide) (by decide) (by decide) (by decide)
    refine vX2_drawUntilBroken_8 ?_
    rw [if_neg (by omega), rc_44]
    refine cDrw (d := d + 10) hm k3 (by rw [e35]; exact k2) hQ (fun s1 f1 x1 g1 => ?_)
    have hok := drw_ok (x := s 44 3) hm (show okK m K from okK_Q hQ)
    rw [atI_q, ro_44_1, rc_22]
    refine vX9_watch ?_
    rw [wb_22_4_1, wb_22_5_0, atV_q, ro_44_0, rc_35]
    unfold drL at hq
    generalize (drw m (s 44 3) K) = xp at x1 g1 hok hq ⊢
    obtain ⟨x', p⟩ := xp
    replace x1 : s1 44 3 = x' := x1
    replace g1 : agR (s1 52) p := g1
    replace hok : okR m p := hok
    dsimp only at hq ⊢
    have l1 : ∀ a, a ≠ 22 → a ≠ 44 → a ≠ 52 → uf (uf s1 22 4 1) 22 5 0 a = s a := fun a y1 y2 y3 => by rw [uf, up_ne y1, uf, up_ne y1]; exact f1 a y2 y3
    have eB : brk 1 cs hk ch (ru b) (s1 52) p.2 0 (stN M, Mm, 0) = brk 1 cs hk ch (ru b) p.1 p.2 0 (stN M, Mm, 0) := brk_ext _ _ _ (fun k _ k1 => g1 k (by omega) (by omega))
    refine sX7_breaksAt (d := d) (a := 52) (s := uf (uf s1 22 4 1) 22 5 0) (m := m) (w := 1) (N := stN M) (M := Mm) (f := 0) (n := p.2) (by decide) (fun s1 K => al_52) (fun s1 i K => ld_52) k1 k4 k3 hcc wf ?_ hok.2.1 (fun k k0 k1 => ?_) ?_ rfl rfl ?_ (stN_rg (fun i i0 i1 => (k6 i i0 i1).2)) (fun s3 q1 q2 => ?_)
    · rw [l1 35 (by decide) (by decide) (by decide), e35]; exact k2
    · show 0 ≤ s1 52 k ∧ s1 52 k < m
      rw [g1 k k0 k1]
      exact hok.2.2 k k0 k1
    · rw [l1 24 (by decide) (by decide) (by decide)]; exact hM
    · rw [l1 25 (by decide) (by decide) (by decide), e25]; exact stN_eq (fun i i0 i1 => (k6 i i0 i1).1)
    have q1' : cSt 1 s3 (brk 1 cs hk ch (ru b) p.1 p.2 0 (stN M, Mm, 0)).2 := by rw [← eB]; exact q1
    have hF : okF (brk 1 cs hk ch (ru b) p.1 p.2 0 (stN M, Mm, 0)).2 := brk_F _ _ _ (Or.inl rfl)
    have hst := stop_rg (w := 1) (cs := cs) (hk := hk) (ch := ch) (rl := ru b) (p := p) (z := (stN M, Mm, 0))
    rw [show brk 1 cs hk ch (ru b) (uf (uf s1 22 4 1) 22 5 0 52) p.2 0 (stN M, Mm, 0) = brk 1 cs hk ch (ru b) p.1 p.2 0 (stN M, Mm, 0) from eB, atI_q, ro_44_1, rc_22]
    refine vX9_stopWatching ?_
    rw [wb_22_4_0, ri_22_5, show uf s3 22 4 0 22 5 = s3 22 5 from rfl, q1'.2.2.1]
    generalize brk 1 cs hk ch (ru b) p.1 p.2 0 (stN M, Mm, 0) = Z at q1' hF hst hq ⊢
    refine ⟨by unfold okF at hF; rcases hF with e | e <;> rw [e] <;> simp [az_fit], ?_⟩
    rw [atI_q]
    have hok2 := hok.2.1
    -- what was met, what is kept
    have l3 : ∀ a, a ≠ 22 → a ≠ 24 → a ≠ 27 → a ≠ 29 → a ≠ 34 → ¬ (31 ≤ a ∧ a ≤ 33) → a ≠ 44 → a ≠ 52 → s3 a = s a := fun a y1 y2 y3 y4 y5 y6 y7 y8 => (q2 a y1 y2 y3 y4 y5 y6).trans (l1 a y1 y7 y8)
    have fr4 : frD s0 (uf s3 22 4 0) := frD_tr hfr (fun a y1 y2 y3 y4 y5 y6 y7 y8 => by rw [uf, up_ne y1]; exact l3 a y1 y2 y3 y4 y5 y6 (by omega) y8)
    have m44 : uf s3 22 4 0 44 3 = x' := by
      show s3 44 3 = x'
      rw [q2 44 (by decide) (by decide) (by decide) (by decide) (by decide) (by decide)]
      exact x1
    have m52 : agR (uf s3 22 4 0 52) p := by
      show agR (s3 52) p
      rw [q2 52 (by decide) (by decide) (by decide) (by decide) (by decide) (by decide)]
      exact g1
    have m24 : metR (uf s3 22 4 0 24) Z.2.2.1 := q1'.2.1
    have mQ : jQ (uf s3 22 4 0 45 3) K.1 m 8 (uf s3 22 4 0 47) K.2.1 (uf s3 22 4 0 46) K.2.2 := by
      show jQ (s3 45 3) K.1 m 8 (s3 47) K.2.1 (s3 46) K.2.2
      rw [l3 45 (by decide) (by decide) (by decide) (by decide) (by decide) (by decide) (by decide) (by decide), l3 46 (by decide) (by decide) (by decide) (by decide) (by decide) (by decide) (by decide) (by decide), l3 47 (by decide) (by decide) (by decide) (by decide) (by decide) (by decide) (by decide) (by decide)]
      exact hQ
    have m22 : uf s3 22 4 0 22 4 = 0 := rfl
    generalize uf s3 22 4 0 = s4 at fr4 m44 m52 m24 mQ m22 ⊢
    have A : ∀ x7 : Int, (∀ s5, frD s0 s5 → jQ (s5 45 3) (keepK Z p K).1 m 8 (s5 47) (keepK Z p K).2.1 (s5 46) (keepK Z p K).2.2 → s5 24 = s4 24 → s5 22 = s4 22 → s5 52 = s4 52 → s5 44 = s4 44 → (if x7 = -2 then pX2_drawUntilBroken_8 G (d + 12) 44 (some b2) n (some 52) (w32 (i + 1)) (PS h s5 r) Q else Q (some (vi (stop Z p))) (PS h s5 r))) → pX2_drawUntilBroken_68 G (d + 12) 44 (some b2) n (some 52) i x7 Z.2.2.2 (stop Z p) (PS h s4 r) Q := by
      intro x7 hk7
      refine vX2_drawUntilBroken_68 ?_
      by_cases c0 : Z.2.2.2 = 0
      · have ek : keepK Z p K = K := by unfold keepK; rw [if_pos c0]
        rw [ek] at hk7
        rw [if_pos c0]
        exact hk7 s4 fr4 mQ rfl rfl rfl rfl
      · rw [if_neg c0, ro_44_2, rc_45]
        refine vX6_isFull ?_
        rw [ri_45_3, ri_45_0, mQ.1]
        by_cases c8 : K.1 < 8
        · have ek : keepK Z p K = kAdd K p.1 (stop Z p) := by unfold keepK; rw [if_neg c0, if_pos c8]
          rw [ek] at hk7
          rw [if_pos c8, atI_q, if_pos rfl, ro_44_2, rc_45]
          refine sX6_add45 (d := d + 11) (N := K.1) mQ.1 mQ.2.1.1 c8 (by omega) ?_
          rw [atI_q]
          refine hk7 _ (frD_tr fr4 (frD_tr (frD_tr (frD_up (by decide)) (frD_uf (by decide))) (frD_uf (by decide)))) ?_ rfl rfl rfl rfl
          have mQ' := mQ
          rw [mQ'.1] at mQ'
          exact jQ_add mQ' c8 (by omega) (fun k k0 k1 => ⟨m52 k k0 (by omega), hok.2.2 k k0 (by omega)⟩)
        · have ek : keepK Z p K = K := by unfold keepK; rw [if_neg c0, if_neg c8]
          rw [ek] at hk7
          rw [if_neg c8, atI_q, if_neg (by decide)]
          exact hk7 s4 fr4 mQ rfl rfl rfl rfl
    cases hZ : Z.1 with
    | none =>
      have es : (stop Z p) = p.2 := by unfold stop; rw [hZ]
      rw [hZ] at hq
      dsimp only at hq
      rw [if_pos (show bI none = -2 from rfl), ← es]
      refine A (bI none) (fun s5 f5 Q5 e24 e22 e52 e44 => ?_)
      rw [if_pos (show bI none = -2 from rfl), w32_id (x := i + 1) (by omega) (by omega)]
      refine ih n (i + 1) s5 (keepK Z p K) Z.2.2.1 (by omega) (by omega) n2 f5 Q5 (by rw [e24]; exact m24) (by rw [e22]; exact m22) (fun s' R hR => ?_)
      rw [e44, m44] at hR
      exact hq s' R hR
    | some j =>
      have es : (stop Z p) = j + 1 := by unfold stop; rw [hZ]
      rw [hZ] at hq
      dsimp only at hq
      rw [show bI (some j) = (j : Int) from rfl, if_neg (by omega), show w32 ((j : Int) + 1) = ((j + 1 : Nat) : Int) by rw [w32_id] <;> omega, ← es]
      refine A j (fun s5 f5 Q5 e24 e22 e52 e44 => ?_)
      rw [if_neg (by omega), es]
      refine hq s5 _ rfl f5 Q5 (by rw [e24]; exact m24) (by rw [e22]; exact m22) (fun q e => ?_)
      have := Option.some.inj e
      subst this
      intro k k0 k1
      have k1' : k < ((j + 1 : Nat) : Int) := k1
      rw [e52]
      exact m52 k k0 (by omega)
theorem cps_ext {g g' q : Int → Int} {dp : Int} {n : Nat} (e : ∀ k : Int, 0 ≤ k → k < n → g k = g' k) : cps g q 0 dp n = cps g' q 0 dp n := by
  funext k
  unfold cps
  by_cases c : dp ≤ k ∧ k < dp + n
  · rw [if_pos c, if_pos c]; exact e _ (by omega) (by omega)
  · rw [if_neg c, if_neg c]
/-- the reference draws until a row breaks the rule -/
theorem rDraw (hK0 : KR s0 cs hk ru ch m nr M) (hm : 0 < m) (hb0 : 0 ≤ b) (hb1 : b < nr) :
    ∀ (f : Nat) (n i : Int) (s : Nat → Int → Int) (K : Kp) (Mm : Int → Int), n = i + f → 0 ≤ i → n ≤ 200 → frE s0 s → okK m K → s 54 50 = K.1 → s 83 = K.2.1 → s 84 = K.2.2 → (∀ i, 0 ≤ i → i < 144 → s 69 i = Mm i) → s 54 29 = 0 →
    (∀ s' R, R = drL cs hk ch (ru b) M m f (s 54 58) K Mm → frE s0 s' → okK m R.2.1 → s' 54 50 = R.2.1.1 → s' 83 = R.2.1.2.1 → s' 84 = R.2.1.2.2 → (∀ i, 0 ≤ i → i < 144 → s' 69 i = R.2.2 i) → s' 54 29 = 0 → (R.1 = none → Q (some (vi (-2))) (PS h s' r)) ∧ (∀ p, R.1 = some p → s' 54 48 = (p.2 : Int) → agR (s' 82) p → okR m p → brk0 cs hk ch (ru b) M p.1 p.2 = some (p.2 - 1) → rcv (PS h s' r) 54 11 (cz G mX11_makeLeast (d + 13) 0 0 [vo 54, vi b] (PS h s' r) (fun v h4 => atV v (rcv h4 54 11 (cz G mX11_keepRow (d + 13) 0 0 [vo 54] h4 (fun v h5 => atI v (fun r6 => Q (some (vi r6)) h5)))))))) →
    pX11_draw_49 G (d + 13) 54 b n i (PS h s r) Q := by
  intro f
  induction f with
  | zero =>
    intro n i s K Mm hn i0 n2 hfr hK e50 e83 e84 hM h4 hq
    refine vX11_draw_49 ?_
    rw [if_pos (by omega)]
    exact (hq s _ rfl hfr hK e50 e83 e84 hM h4).1 rfl
  | succ f ih =>
    intro n i s K Mm hn i0 n2 hfr hK e50 e83 e84 hM h4 hq
    obtain ⟨k1, k2, k3, k4, k5, k6⟩ := KR_E hfr hK0
    refine vX11_draw_49 ?_
    rw [if_neg (by omega), rc_54]
    refine rDrw (d := d + 11) hm k3 k2 hK e50 e83 e84 (fun s1 f1 f2 x1 g1 n1 => ?_)
    have hok := drw_ok (x := s 54 58) hm hK
    rw [atV_q, wb_54_29_1, wb_54_30_0, rc_54]
    unfold drL at hq
    generalize (drw m (s 54 58) K) = xp at x1 g1 n1 hok hq ⊢
    obtain ⟨x', p⟩ := xp
    replace x1 : s1 54 58 = x' := x1
    replace g1 : agR (s1 82) p := g1
    replace n1 : s1 54 48 = (p.2 : Int) := n1
    replace hok : okR m p := hok
    dsimp only at hq ⊢
    have fE1 : frE s (uf (uf s1 54 29 1) 54 30 0) := frE_tr (frE_dr f1 f2) (frE_tr (frE_54 (by decide)) (frE_54 (by decide)))
    obtain ⟨g1', g2', g3', g4', ⟨g5', g8', g7'⟩, g6'⟩ := KR_E (frE_tr hfr fE1) hK0
    obtain ⟨wf, hrc⟩ := g7' b hb0 hb1
    have eB : brk 1 cs hk ch (ru b) (s1 82) p.2 0 (stN M, Mm, 0) = brk 1 cs hk ch (ru b) p.1 p.2 0 (stN M, Mm, 0) := brk_ext _ _ _ (fun k _ k1 => g1 k (by omega) (by omega))
    refine sX11_breaksAt (d := d + 7) (but := -1) (s := uf (uf s1 54 29 1) 54 30 0) (m := m) (w := 1) (N := stN M) (M := Mm) (f := 0) (n := p.2) (n' := p.2) (g' := s1 82) (ch := ch) (by decide) ⟨hb0, by omega⟩ wf k3 n1 hok.2.1 (fun k k0 k1 => ?_) (Or.inl ⟨rfl, rfl, fun _ => rfl⟩) g1' hrc g4' (fun i i0 i1 => ?_) rfl rfl (stN_eq (fun i i0 i1 => (g6' i i0 i1).1)) (stN_rg (fun i i0 i1 => (g6' i i0 i1).2)) (fun s3 q1 q2 => ?_)
    · show 0 ≤ s1 82 k ∧ s1 82 k < m
      rw [g1 k k0 k1]
      exact hok.2.2 k k0 k1
    · show s1 69 i = Mm i
      rw [f1 69 (by decide) (by decide)]
      exact hM i i0 i1
    rw [eB] at q1 ⊢
    rw [atI_q, wb_54_29_0]
    have hst := stop_rg (w := 1) (cs := cs) (hk := hk) (ch := ch) (rl := ru b) (p := p) (z := (stN M, Mm, 0))
    have hcut : ∀ j, (brk 1 cs hk ch (ru b) p.1 p.2 0 (stN M, Mm, 0)).1 = some j → brk0 cs hk ch (ru b) M p.1 (j + 1) = some j := by
      intro j e
      have e1 := brk_cut _ _ _ _ e
      rw [brk_in (w' := 0) (j + 1 - 0) 0 (stN M, Mm, 0) (stN M, fun _ => 0, 0) rfl] at e1
      exact e1
    generalize brk 1 cs hk ch (ru b) p.1 p.2 0 (stN M, Mm, 0) = Z at q1 hst hcut hq ⊢
    have hok2 := hok.2.1
    have fE3 : frE s (uf s3 54 29 0) := frE_tr fE1 (frE_tr (frE_X q2) (frE_54 (by decide)))
    have c50 : uf s3 54 29 0 54 50 = K.1 := by
      show s3 54 50 = K.1
      rw [q2.2 50 (by decide) (by decide) (by decide) (by decide)]
      show s1 54 50 = K.1
      rw [f2 50 (by decide) (by decide)]
      exact e50
    have c48 : uf s3 54 29 0 54 48 = (p.2 : Int) := by
      show s3 54 48 = (p.2 : Int)
      rw [q2.2 48 (by decide) (by decide) (by decide) (by decide)]
      exact n1
    have c58 : uf s3 54 29 0 54 58 = x' := by
      show s3 54 58 = x'
      rw [q2.2 58 (by decide) (by decide) (by decide) (by decide)]
      exact x1
    have c30 : uf s3 54 29 0 54 30 = Z.2.2.2 := q1.2.2.1
    have c69 : ∀ i, 0 ≤ i → i < 144 → uf s3 54 29 0 69 i = Z.2.2.1 i := q1.2.1
    have c82 : agR (uf s3 54 29 0 82) p := by
      show agR (s3 82) p
      rw [q2.1 82 (by decide) (by decide) (by decide)]
      exact g1
    have c83 : uf s3 54 29 0 83 = K.2.1 := by
      show s3 83 = K.2.1
      rw [q2.1 83 (by decide) (by decide) (by decide)]
      show s1 83 = K.2.1
      rw [f1 83 (by decide) (by decide)]
      exact e83
    have c84 : uf s3 54 29 0 84 = K.2.2 := by
      show s3 84 = K.2.2
      rw [q2.1 84 (by decide) (by decide) (by decide)]
      show s1 84 = K.2.2
      rw [f1 84 (by decide) (by decide)]
      exact e84
    have c29 : uf s3 54 29 0 54 29 = 0 := rfl
    generalize uf s3 54 29 0 = s4 at fE3 c50 c48 c58 c30 c69 c82 c83 c84 c29 ⊢
    -- the row is kept, or not
    have A : ∀ (x5 : Int) (n0 : Nat), n0 = stop Z p → (∀ s5, frE s s5 → okK m (keepK Z p K) → s5 54 50 = (keepK Z p K).1 → s5 83 = (keepK Z p K).2.1 → s5 84 = (keepK Z p K).2.2 → s5 69 = s4 69 → s5 54 29 = 0 → s5 82 = s4 82 → s5 54 48 = (n0 : Int) → s5 54 58 = x' → (if x5 < 0 then pX11_draw_49 G (d + 13) 54 b n (w32 (i + 1)) (PS h s5 r) Q else rcv (PS h s5 r) 54 11 (cz G mX11_makeLeast (d + 13) 0 0 [vo 54, vi b] (PS h s5 r) (fun v h4 => atV v (rcv h4 54 11 (cz G mX11_keepRow (d + 13) 0 0 [vo 54] h4 (fun v h5 => atI v (fun r6 => Q (some (vi r6)) h5)))))))) → pX11_draw_99 G (d + 13) 54 b n i x5 n0 (some 54) (PS h s4 r) Q := by
      intro x5 n0 hn0 hk5
      refine vX11_draw_99 ?_
      rw [nnR_q, wi_54_48, ri_54_30, show uf s4 54 48 (n0 : Int) 54 30 = s4 54 30 from rfl, c30]
      have fE4 : frE s (uf s4 54 48 n0) := frE_tr fE3 (frE_54 (by decide))
      by_cases c0 : Z.2.2.2 = 0
      · have ek : keepK Z p K = K := by unfold keepK; rw [if_pos c0]
        rw [ek] at hk5
        rw [if_pos c0]
        exact hk5 _ fE4 hK c50 c83 c84 rfl c29 rfl rfl c58
      · rw [if_neg c0, ri_54_50, show uf s4 54 48 (n0 : Int) 54 50 = s4 54 50 from rfl, c50]
        by_cases c8 : 8 ≤ K.1
        · have ek : keepK Z p K = K := by unfold keepK; rw [if_neg c0, if_neg (by omega)]
          rw [ek] at hk5
          rw [if_pos c8]
          exact hk5 _ fE4 hK c50 c83 c84 rfl c29 rfl rfl c58
        · have ek : keepK Z p K = kAdd K p.1 (stop Z p) := by unfold keepK; rw [if_neg c0, if_pos (by omega)]
          rw [ek] at hk5
          have hk1 := hK.1
          rw [if_neg c8, ro_54_51, ri_54_50, show uf s4 54 48 (n0 : Int) 54 50 = s4 54 50 from rfl, c50, ri_54_48, show uf s4 54 48 (n0 : Int) 54 48 = n0 from rfl, st_83]
          refine ⟨by omega, by omega, ?_⟩
          have n12 : n0 ≤ 12 := by omega
          -- the copy
          have C : ∀ (g : Nat) (j : Int) (s5 : Nat → Int → Int), (n0 : Int) = j + g → 0 ≤ j → frE s s5 → s5 54 50 = K.1 → s5 83 = ud K.2.1 K.1 n0 → s5 84 = cps (s4 82) K.2.2 0 (12 * K.1) j → s5 69 = s4 69 → s5 54 29 = 0 → s5 82 = s4 82 → s5 54 48 = (n0 : Int) → s5 54 58 = x' → pX11_draw_134 G (d + 13) 54 b n i x5 j (PS h s5 r) Q := by
            intro g
            induction g with
            | zero =>
              intro j s5 hj j0 y1 y2 y3 y4 y5 y6 y7 y8 y9
              refine vX11_draw_134 ?_
              rw [ri_54_48, y8, if_pos (by omega), ri_54_50, y2, wi_54_50, w32_id (x := K.1 + 1) (by omega) (by omega)]
              have hK' := kAdd_ok (g := p.1) (n := stop Z p) hK (by omega) (by omega) (fun k k0 k1 => hok.2.2 k k0 (by omega))
              refine hk5 (uf s5 54 50 (K.1 + 1)) (frE_tr y1 (frE_54 (by decide))) hK' rfl ?_ ?_ y5 y6 y7 y8 y9
              · show s5 83 = ud K.2.1 K.1 (stop Z p)
                rw [y3, hn0]
              · show s5 84 = cps p.1 K.2.2 0 (12 * K.1) (stop Z p)
                rw [y4, show j = ((stop Z p : Nat) : Int) by omega]
                exact cps_ext (fun k k0 k1 => c82 k k0 (by omega))
            | succ g ihg =>
              intro j s5 hj j0 y1 y2 y3 y4 y5 y6 y7 y8 y9
              refine vX11_draw_134 ?_
              rw [ri_54_48, y8, if_neg (by omega), ro_54_52, ri_54_50, y2, ro_54_49, ld_82]
              refine ⟨j0, by omega, ?_⟩
              rw [w32_id (x := 12 * K.1) (by omega) (by omega), w32_id (x := 12 * K.1 + j) (by omega) (by omega), st_84, w32_id (x := j + 1) (by omega) (by omega)]
              refine ⟨by omega, by omega, ihg (j + 1) _ (by omega) (by omega) (frE_tr y1 (frE_uf (by decide))) y2 y3 ?_ y5 y6 y7 y8 y9⟩
              show ud (s5 84) (12 * K.1 + j) (s5 82 j) = _
              rw [y4, y7]
              funext k
              rw [ud_ap]
              unfold cps
              by_cases ck : k = 12 * K.1 + j
              · rw [if_pos ck, if_pos (by omega)]
                congr 1
                omega
              · rw [if_neg ck]
                by_cases c : 12 * K.1 ≤ k ∧ k < 12 * K.1 + j
                · rw [if_pos c, if_pos (by omega)]
                · rw [if_neg c, if_neg (by omega)]
          refine C n0 0 _ (by omega) (by decide) (frE_tr fE4 (frE_uf (by decide))) c50 ?_ ?_ rfl c29 rfl rfl c58
          · show ud (s4 83) K.1 n0 = _
            rw [c83]
          · show s4 84 = _
            rw [c84]
            funext k
            unfold cps
            rw [if_neg (by omega)]
    cases hZ : Z.1 with
    | none =>
      have es : (stop Z p) = p.2 := by unfold stop; rw [hZ]
      rw [hZ] at hq
      dsimp only at hq
      rw [if_neg (show ¬ 0 ≤ bI none by decide), ri_54_48, c48]
      refine A (bI none) p.2 es.symm (fun s5 f5 Q5 y1 y2 y3 y4 y5 y6 y7 y8 => ?_)
      rw [if_pos (show bI none < 0 by decide), w32_id (x := i + 1) (by omega) (by omega)]
      refine ih n (i + 1) s5 (keepK Z p K) Z.2.2.1 (by omega) (by omega) n2 (frE_tr hfr f5) Q5 y1 y2 y3 (fun i i0 i1 => by rw [y4]; exact c69 i i0 i1) y5 (fun s' R hR => ?_)
      rw [y8] at hR
      exact hq s' R hR
    | some j =>
      have es : (stop Z p) = j + 1 := by unfold stop; rw [hZ]
      rw [hZ] at hq
      dsimp only at hq
      rw [show bI (some j) = (j : Int) from rfl, if_pos (by omega), show w32 ((j : Int) + 1) = ((j + 1 : Nat) : Int) by rw [w32_id] <;> omega]
      refine A j (j + 1) es.symm (fun s5 f5 Q5 y1 y2 y3 y4 y5 y6 y7 y8 => ?_)
      rw [if_neg (by omega)]
      refine (hq s5 _ rfl (frE_tr hfr f5) Q5 y1 y2 y3 (fun i i0 i1 => by rw [y4]; exact c69 i i0 i1) y5).2 _ rfl y7 ?_ ?_ (hcut j hZ)
      · intro k k0 k1
        have k1' : k < ((j + 1 : Nat) : Int) := k1
        rw [y6]
        exact c82 k k0 (by omega)
      · refine ⟨by show 1 ≤ j + 1; omega, by show j + 1 ≤ 12; omega, fun k k0 k1 => ?_⟩
        have k1' : k < ((j + 1 : Nat) : Int) := k1
        exact hok.2.2 k k0 (by omega)
end DL
