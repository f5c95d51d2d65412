/-! LEAST -/
def eqR (p p' : Rw) : Prop := p.2 = p'.2 ∧ ∀ k : Int, 0 ≤ k → k < p.2 → p.1 k = p'.1 k
section LE
variable {B : (Int → Int) → Nat → Option Nat}
theorem tryE_eq (hE : ∀ g g' n, (∀ k : Int, 0 ≤ k → k < (n : Nat) → g k = g' k) → B g n = B g' n) (hB : ∀ g n b, B g n = some b → b < n) {p p' : Rw} {i : Nat} (e : eqR p p') : eqR (tryE B p i) (tryE B p' i) := by
  obtain ⟨e1, e2⟩ := e
  unfold tryE
  rw [← e1]
  by_cases c : i < p.2
  · rw [if_pos c, if_pos c]
    have her : ∀ k : Int, 0 ≤ k → k < ((p.2 - 1 : Nat) : Int) → er p.1 i k = er p'.1 i k := by
      intro k k0 k1
      unfold er
      by_cases ck : k < i
      · rw [if_pos ck, if_pos ck]; exact e2 k k0 (by omega)
      · rw [if_neg ck, if_neg ck]; exact e2 (k + 1) (by omega) (by omega)
    rw [← hE _ _ _ her]
    cases hb : B (er p.1 i) (p.2 - 1) with
    | none => exact ⟨e1, e2⟩
    | some b =>
      have := hB _ _ _ hb
      exact ⟨rfl, fun k k0 k1 => her k k0 (by have k1' : k < ((b + 1 : Nat) : Int) := k1; omega)⟩
  · rw [if_neg c, if_neg c]; exact ⟨e1, e2⟩
theorem lsI_eq (hE : ∀ g g' n, (∀ k : Int, 0 ≤ k → k < (n : Nat) → g k = g' k) → B g n = B g' n) (hB : ∀ g n b, B g n = some b → b < n) : ∀ (i : Nat) {p p' : Rw}, eqR p p' → eqR (lsI B i p) (lsI B i p')
  | 0, _, _, e => e
  | i + 1, p, p', e => lsI_eq hE hB i (tryE_eq hE hB e)
theorem lsO_eq (hE : ∀ g g' n, (∀ k : Int, 0 ≤ k → k < (n : Nat) → g k = g' k) → B g n = B g' n) (hB : ∀ g n b, B g n = some b → b < n) : ∀ (f : Nat) {p p' : Rw}, eqR p p' → eqR (lsO B f p) (lsO B f p')
  | 0, _, _, e => e
  | f + 1, p, p', e => by
    have e1 := lsI_eq hE hB p.2 e
    unfold lsO
    rw [← e.1, ← e1.1]
    by_cases c : (lsI B p.2 p).2 = p.2
    · rw [if_pos c, if_pos c]; exact e1
    · rw [if_neg c, if_neg c]; exact lsO_eq hE hB f e1
end LE
section LF
variable {G : az_G} {D : Nat} {xs : List Int} {a b : Int}
theorem st_least : stp xs (Inv xs) G (D + 14) 0 0 mX10_least mX11_least [vi a, vi b] := by
  refine stp_i (fun h s r cs hk ru hc hJ => ?_)
  obtain ⟨a1, a2, a3, a4, a5, a6, a7, a8, a9, a10, a11, a12, a13⟩ := hJ
  have hJ : J h s r cs hk ru := ⟨a1, a2, a3, a4, a5, a6, a7, a8, a9, a10, a11, a12, a13⟩
  have hbad : ¬ ((0 ≤ a ∧ a < s 54 45) ∧ 0 ≤ b ∧ b < s 54 13) → aft xs G (D + 14) mX11_least [vi a, vi b] (some (vi (-1))) (PS h s r) := by
    intro y
    refine aft_i hc ?_
    refine vX11_least (d := D + 13) ?_
    rw [rc_54]
    refine sX11_isRow a11.2.1 (fun y1 y2 => ?_) (fun _ => ?_)
    · rw [atI_q, if_neg (by decide), rc_54]
      refine sX11_isRule a6.2.1 (fun y3 y4 => absurd ⟨⟨y1, y2⟩, y3, y4⟩ y) (fun _ => ?_)
      rw [atI_q, if_pos rfl]
      exact fin_i rfl hJ
    · rw [atI_q, if_pos rfl]
      exact fin_i rfl hJ
  refine vX10_least (d := D + 13) ?_
  rw [ro_16_6, rc_48]
  refine vX6_has ?_
  by_cases y1 : a < 0
  · rw [if_pos y1, atI_q, if_pos rfl]; exact hbad (by omega)
  rw [if_neg y1, ri_48_3, a11.1]
  by_cases y2 : s 54 45 ≤ a
  · rw [if_pos y2, atI_q, if_pos rfl]; exact hbad (by omega)
  rw [if_neg y2, atI_q, if_neg (by decide), rc_16]
  have h20 := a11.2.1.2
  have h8 := a6.2.1.2
  refine sX10_isRule (by rw [a6.1]; exact a6.2.1) (fun y3 y4 => ?_) (fun y => ?_)
  rotate_left
  · rw [atI_q, if_pos rfl]; rw [a6.1] at y; exact hbad (fun z => y z.2)
  rw [a6.1] at y4
  obtain ⟨n, n1, n2, n12, n3⟩ := rowN a11 (by omega) (Int.lt_of_not_ge y2)
  obtain ⟨_, _, bb, lv, hr51, hcc⟩ := a6.2.2 b y3 y4
  rw [atI_q, if_neg (by decide), ro_16_6, rc_48]
  refine vX6_isFull ?_
  rw [ri_48_3, ri_48_0, a11.1]
  by_cases y5 : s 54 45 < 20
  rotate_left
  · rw [if_neg y5, atI_q, if_neg (by decide)]
    refine aft_i hc ?_
    refine vX11_least (d := D + 13) ?_
    rw [rc_54]
    refine sX11_isRow a11.2.1 (fun _ _ => ?_) (fun y => absurd (by omega) y)
    rw [atI_q, if_neg (by decide), rc_54]
    refine sX11_isRule a6.2.1 (fun _ _ => ?_) (fun y => absurd (by omega) y)
    rw [atI_q, if_neg (by decide), ri_54_45, if_pos (by omega)]
    exact fin_i rfl hJ
  rw [if_pos y5, atI_q, if_pos rfl, ro_16_6, ro_16_8, rc_48]
  refine sX6_copy48 (d := D + 12) (by omega) (by rw [a11.1]; omega) (by rw [a11.1]; exact a11.2.1.2) n1 n12 ?_
  rw [atI_q, ro_16_4, ro_16_8, ro_16_7, lr_51, hr51, rc_35]
  refine ⟨y3, by omega, ?_⟩
  generalize hs0 : up s 52 (cps (s 49) (s 52) (12 * a) 0 n) = s0
  have hKC := KC_J hJ
  have fc0 : frC (s 69) s s0 := by rw [← hs0]; exact ⟨frL_up (Or.inr rfl), a8.1, a8.2.1⟩
  have k52 : ∀ k : Int, 0 ≤ k → k < n → s0 52 k = s 81 (12 * a + k) := fun k k0 k1 => by
    rw [← hs0, up_at, cps_at k0 k1]
    exact (n3 k k0 k1).1
  have row0 : ∀ k : Int, 0 ≤ k → k < n → 0 ≤ s0 52 k ∧ s0 52 k < s 54 40 := fun k k0' k1 => by
    rw [k52 k k0' k1]
    exact (n3 k k0' k1).2
  refine cBK (d := D + 1) (Or.inl rfl) hKC fc0 y3 y4 hr51 n12 row0 (fun s1 fc1 f1 => ?_)
  rw [atI_q]
  have m52 : s1 52 = s0 52 := f1 52 (by decide) (by decide) (by decide) (by decide) (by decide) (by decide)
  have e54L : ∀ s' : Nat → Int → Int, frL s s' → ∀ x, 54 ≤ x → s' x = s x := fun s' hf x hx => hf x (by omega) (by omega) (by omega) (by omega) (by omega) (by omega) (by omega) (by omega)
  -- the reference, up to where its row breaks, from a state s' of the class's making
  have RF : ∀ (s' : Nat → Int → Int) (Q : Option az_V → az_H → Prop), (∀ x, 54 ≤ x → s' x = s x) → (∀ s3 : Nat → Int → Int, KR s' cs hk ru (chS s) (s 54 40) (s 54 13) (s 66) → frZ s' s3 → s3 54 48 = n → s3 82 = cps (s 81) (s 82) (12 * a) 0 n → (if 0 ≤ bI (brk0 cs hk (chS s) (ru b) (s 66) (cps (s 81) (s 82) (12 * a) 0 n) n) then rcv (PS h s3 r) 54 11 (cz G mX11_makeLeast (D + 13) 0 0 [vo 54, vi b] (PS h s3 r) (fun v h9 => atV v (rcv h9 54 11 (cz G mX11_keepRow (D + 13) 0 0 [vo 54] h9 (fun v h10 => atI v (fun r11 => Q (some (vi r11)) h10)))))) else Q (some (vi (-2))) (PS h s3 r))) → cz G mX11_least (D + 14) 0 0 [vo 54, vi a, vi b] (PS h s' r) Q := by
    intro s' Q e' hK
    have hKR : KR s' cs hk ru (chS s) (s 54 40) (s 54 13) (s 66) := KR_e (e' 56 (by decide)) (e' 57 (by decide)) (e' 58 (by decide)) (e' 59 (by decide)) (e' 61 (by decide)) (e' 67 (by decide)) (e' 68 (by decide)) (by rw [e' 54 (by decide)]) (e' 76 (by decide)) (e' 77 (by decide)) (e' 78 (by decide)) (e' 79 (by decide)) (by rw [e' 54 (by decide)]) (e' 66 (by decide)) (KR_J hJ)
    refine vX11_least (d := D + 13) ?_
    rw [rc_54]
    refine sX11_isRow (by rw [e' 54 (by decide)]; exact a11.2.1) (fun _ _ => ?_) (fun y => absurd (by rw [e' 54 (by decide)]; omega) y)
    rw [atI_q, if_neg (by decide), rc_54]
    refine sX11_isRule (by rw [e' 54 (by decide)]; exact a6.2.1) (fun _ _ => ?_) (fun y => absurd (by rw [e' 54 (by decide)]; omega) y)
    rw [atI_q, if_neg (by decide), ri_54_45, if_neg (by rw [e' 54 (by decide)]; omega), rc_54]
    refine sX11_take (by omega) (by omega) (show s' 80 a = n by rw [e' 80 (by decide)]; exact n2) n12 ?_
    rw [atV_q, rc_54]
    generalize hs2 : up (uf s' 54 48 n) 82 (cps (s' 81) (s' 82) (12 * a) 0 n) = s2
    have fz2 : frZ s' s2 := by
      rw [← hs2]
      exact ⟨frY_tr frY_48 frY_82, fun _ _ _ => rfl, by show s' 54 29 = 0; rw [e' 54 (by decide)]; exact a8.2.2⟩
    have e82 : s2 82 = cps (s 81) (s 82) (12 * a) 0 n := by rw [← hs2, up_at, e' 81 (by decide), e' 82 (by decide)]
    refine rBK (but := -1) (n := n) (n' := n) (g' := s2 82) (d := D + 7) (by decide) hKR fz2 y3 y4 (by rw [← hs2]; rfl) n12 (fun k k0 k1 => ?_) (Or.inl ⟨rfl, rfl, fun _ => rfl⟩) (fun s3 fz3 f3 => ?_)
    · rw [e82, cps_at k0 k1]
      exact (n3 k k0 k1).2
    rw [atI_q, e82]
    exact hK s3 hKR fz3 ((f3.2 48 (by decide) (by decide) (by decide) (by decide)).trans (by rw [← hs2]; rfl)) ((f3.1 82 (by decide) (by decide) (by decide)).trans e82)
  have eB : brk0 cs hk (chS s) (ru b) (s 66) (cps (s 81) (s 82) (12 * a) 0 n) n = brk0 cs hk (chS s) (ru b) (s 66) (s0 52) n := brk0_ext (fun k k0 k1 => by rw [k52 k k0 k1, cps_at k0 k1])
  cases hB : brk0 cs hk (chS s) (ru b) (s 66) (s0 52) n with
  | none =>
    rw [if_pos (show bI none = -2 from rfl)]
    refine aft_i hc (RF s1 _ (e54L s1 fc1.1) (fun s3 _ q2 q3 q4 => ?_))
    rw [eB, hB, if_neg (show ¬ 0 ≤ bI none by decide)]
    refine fin_i rfl (J_sc (sc_tr (sc_L fc1.1) (sc_Y q2.1)) ?_ hJ)
    have l24 : s3 24 = s1 24 := q2.1.1 24 (by decide) (by decide) (by decide) (by decide)
    have l22 : s3 22 = s1 22 := q2.1.1 22 (by decide) (by decide) (by decide) (by decide)
    refine jM_of (s := s) (M := s 69) (Z := (s 69, s 69, 0)) (by rw [l24]; exact fc1.2.1) (fun i i0 i1 => ?_) (by rw [l22]; exact fc1.2.2) q2.2.2
    rw [q2.2.1 i i0 i1, e54L s1 fc1.1 69 (by decide)]
  | some x =>
    have hx := brk0_lt _ _ _ hB
    rw [show bI (some x) = (x : Int) from rfl, if_neg (by omega), ro_16_6, ro_16_8, ro_16_4, ro_16_8, ro_16_7, lr_51, hr51, rc_35]
    refine ⟨y3, by omega, ?_⟩
    rw [show w32 ((x : Int) + 1) = ((x + 1 : Nat) : Int) by rw [w32_id] <;> omega]
    have hokC : okR (s 54 40) (s1 52, x + 1) := by
      refine ⟨by show 1 ≤ x + 1; omega, by show x + 1 ≤ 12; omega, fun k k0' k1 => ?_⟩
      have k1' : k < ((x + 1 : Nat) : Int) := k1
      show 0 ≤ s1 52 k ∧ s1 52 k < s 54 40
      rw [m52]
      exact row0 k k0' (by omega)
    refine cLeast (d := D) hKC fc1 y3 y4 hr51 hokC (fun s4 fc4 g4 => ?_)
    rw [m52] at g4 hokC ⊢
    generalize hp : lsO (brk0 cs hk (chS s) (ru b) (s 66)) 12 (s0 52, x + 1) = p at g4 ⊢
    have hpok : okR (s 54 40) p := by rw [← hp]; exact lsO_ok (@brk0_lt cs hk (chS s) (ru b) (s 66)) 12 hokC
    have hp2 := hpok.2.1
    have l4 : ∀ y, y ≠ 22 → y ≠ 24 → y ≠ 27 → y ≠ 29 → y ≠ 34 → ¬ (31 ≤ y ∧ y ≤ 33) → y ≠ 43 → y ≠ 52 → s4 y = s y := fc4.1
    have m48 : s4 48 = s 48 := l4 48 (by decide) (by decide) (by decide) (by decide) (by decide) (by decide) (by decide) (by decide)
    have m49 : s4 49 = s 49 := l4 49 (by decide) (by decide) (by decide) (by decide) (by decide) (by decide) (by decide) (by decide)
    have m50 : s4 50 = s 50 := l4 50 (by decide) (by decide) (by decide) (by decide) (by decide) (by decide) (by decide) (by decide)
    rw [atI_q, rc_48]
    refine sX6_add48 (d := D + 12) (N := s 54 45) (by rw [m48]; exact a11.1) a11.2.1.1 y5 hp2 ?_
    rw [atI_q]
    generalize hs5 : uf (uf (up s4 49 (cps (s4 52) (s4 49) 0 (12 * s 54 45) p.2)) 50 (s 54 45) p.2) 48 3 (s 54 45 + 1) = s5
    have m5 : ∀ y, 54 ≤ y → s5 y = s y := fun y hy => by
      rw [← hs5, uf, up_ne (by omega), uf, up_ne (by omega), up_ne (by omega)]
      exact e54L s4 fc4.1 y hy
    refine aft_i hc (RF s5 _ m5 (fun s6 hKR fz6 h48 h82 => ?_))
    rw [eB, hB, show bI (some x) = (x : Int) from rfl, if_pos (by omega), rc_54]
    have hok6 : okR (s 54 40) (s6 82, n) := by
      refine ⟨by show 1 ≤ n; omega, n12, fun k k0 k1 => ?_⟩
      have k1' : k < (n : Int) := k1
      show 0 ≤ s6 82 k ∧ s6 82 k < s 54 40
      rw [h82, cps_at k0 k1']
      exact (n3 k k0 k1').2
    refine rLeast (d := D + 6) hKR fz6 y3 y4 h48 hok6 (by rw [h82, eB]; exact hB) (fun s7 fz7 g48 g82 => ?_)
    rw [atV_q, rc_54]
    have heq : eqR (lsO (brk0 cs hk (chS s) (ru b) (s 66)) 12 (s6 82, x + 1)) p := by
      rw [← hp]
      refine lsO_eq (B := brk0 cs hk (chS s) (ru b) (s 66)) (fun g g' k e => brk0_ext e) (@brk0_lt cs hk (chS s) (ru b) (s 66)) 12 ⟨rfl, fun k k0 k1 => ?_⟩
      have k1' : k < ((x + 1 : Nat) : Int) := k1
      show s6 82 k = s0 52 k
      rw [h82, cps_at k0 (by omega), k52 k k0 (by omega)]
    generalize lsO (brk0 cs hk (chS s) (ru b) (s 66)) 12 (s6 82, x + 1) = p' at g48 g82 heq
    rw [heq.1] at g48
    have y7 : ∀ y, y ≠ 54 → y ≠ 64 → ¬ (69 ≤ y ∧ y ≤ 75) → y ≠ 82 → s7 y = s5 y := fz7.1.1
    have z45 : s7 54 45 = s 54 45 := (fz7.1.2 45 (by decide) (by decide) (by decide) (by decide) (by decide)).trans (by rw [m5 54 (by decide)])
    have z40 : s7 54 40 = s 54 40 := (fz7.1.2 40 (by decide) (by decide) (by decide) (by decide) (by decide)).trans (by rw [m5 54 (by decide)])
    refine sX11_keepRow (N := s 54 45) z45 a11.2.1.1 y5 g48 hp2 ?_
    rw [atI_q]
    refine fin_i rfl (both_add hJ hp2 (q := s4 52) (q' := s7 82) rfl y5 (fun k k0 k1 => ?_) ?_ ?_ ?_ rfl ?_ ?_ ?_ ?_ ?_)
    · have e1 := g4 k k0 k1
      have e2 := g82 k k0 (by rw [heq.1]; exact k1)
      have e3 := heq.2 k k0 (by rw [heq.1]; exact k1)
      rw [e1, e2, e3]
      exact ⟨rfl, hpok.2.2 k k0 k1⟩
    · refine scE_tr (s' := s5) ?_ (scE_tr (scE_tr (scE_tr (scE_sc (sc_Y fz7.1)) (scE_up (fun k x => by unfold pers psA psK at x; unfold eW; omega))) (scE_uf (fun x => by unfold pers psA psK at x; unfold eW; omega))) (scE_uf (fun x => by unfold pers psA psK at x; unfold eW; omega)))
      rw [← hs5]
      exact scE_tr (scE_tr (scE_tr (scE_sc (sc_L fc4.1)) (scE_up (fun k x => by unfold pers psA psK at x; unfold eW; omega))) (scE_uf (fun x => by unfold pers psA psK at x; unfold eW; omega))) (scE_uf (fun x => by unfold pers psA psK at x; unfold eW; omega))
    · refine jM_of (s := s) (M := s 69) (Z := (s 69, s 69, 0)) ?_ (fun i i0 i1 => ?_) ?_ fz7.2.2
      · show metR (s7 24) (s 69)
        rw [y7 24 (by decide) (by decide) (by decide) (by decide), ← hs5]
        exact fc4.2.1
      · show s 69 i = s7 69 i
        rw [fz7.2.1 i i0 i1, m5 69 (by decide)]
      · show s7 22 4 = 0
        rw [y7 22 (by decide) (by decide) (by decide) (by decide), ← hs5]
        exact fc4.2.2
    · show s7 48 3 = _
      rw [y7 48 (by decide) (by decide) (by decide) (by decide), ← hs5]
      rfl
    · exact z40
    · show s7 50 = _
      rw [y7 50 (by decide) (by decide) (by decide) (by decide), ← hs5]
      show ud (s4 50) (s 54 45) p.2 = _
      rw [m50]
    · show ud (s7 80) (s 54 45) p.2 = _
      rw [y7 80 (by decide) (by decide) (by decide) (by decide), m5 80 (by decide)]
    · show s7 49 = _
      rw [y7 49 (by decide) (by decide) (by decide) (by decide), ← hs5]
      show cps (s4 52) (s4 49) 0 (12 * s 54 45) p.2 = _
      rw [m49]
    · show cps (s7 82) (s7 81) 0 (12 * s 54 45) p.2 = _
      rw [y7 81 (by decide) (by decide) (by decide) (by decide), m5 81 (by decide)]
end LF
