/-! BREAKS, PROFIT, ROW -/
def doA (w : Int) (cs : Int → Option Cd) (hk : Int → Option (Int × Int)) (ch : Ch) (g : Int → Int) : Nat → Nat → Z3 → Z3
  | 0, _, z => z
  | f + 1, i, z => doA w cs hk ch g f (i + 1) (att w cs hk ch (g i) z)
section DO
variable {cs : Int → Option Cd} {hk : Int → Option (Int × Int)} {ch : Ch} {g g' : Int → Int}
theorem doA_q0 : ∀ (f i : Nat) (z : Z3), (doA 0 cs hk ch g f i z).2 = z.2
  | 0, _, _ => rfl
  | f + 1, i, z => by
    unfold doA
    rw [doA_q0 f (i + 1)]
    exact att_q0
theorem doA_in {w w' : Int} : ∀ (f i : Nat) (z z' : Z3), z.1 = z'.1 → (doA w cs hk ch g f i z).1 = (doA w' cs hk ch g f i z').1
  | 0, _, _, _, e => e
  | f + 1, i, z, z', e => doA_in f (i + 1) _ _ (att_in e)
theorem doA_ext {w : Int} : ∀ (f i : Nat) (z : Z3), (∀ k : Nat, i ≤ k → k < i + f → g k = g' k) → doA w cs hk ch g f i z = doA w cs hk ch g' f i z
  | 0, _, _, _ => rfl
  | f + 1, i, z, e => by
    unfold doA
    rw [e i (Nat.le_refl _) (by omega), doA_ext f (i + 1) _ (fun k k0 k1 => e k (by omega) (by omega))]
end DO
section DP
variable {h : az_H} {s : Nat → Int → Int} {r : Nat → Int → Option Nat} {G : az_G} {d D : Nat} {Q : Option az_V → az_H → Prop} {cs : Int → Option Cd} {hk : Int → Option (Int × Int)} {ru : Int → Cd} {xs : List Int} {a b c e : Int}
/-- the class does a row -/
theorem cDo (hJ : J h s r cs hk ru) {n : Nat} (hn : n ≤ 12) (hrow : ∀ k : Int, 0 ≤ k → k < n → 0 ≤ s 52 k ∧ s 52 k < s 54 40)
    (hq : ∀ s', J h s' r cs hk ru → frM 31 s s' → eq19 (s' 29) (doA 0 cs hk (chS s) (s 52) n 0 (stN (s 66), fun _ => 0, 0)).1 → Q none (PS h s' r)) : cz G mX7_doAll (d + 12) 0 0 [vo 35, vo 52, vi n] (PS h s r) Q := by
  obtain ⟨a1, a2, a3, a4, a5, a6, a7, a8, a9, a10, a11, a12, a13⟩ := hJ
  have hJ : J h s r cs hk ru := ⟨a1, a2, a3, a4, a5, a6, a7, a8, a9, a10, a11, a12, a13⟩
  refine vX7_doAll (d := d + 11) ?_
  rw [ro_35_0, rc_27]
  refine sX4_toStart (d := d + 10) (fun g hg => ?_)
  rw [atV_q]
  have L : ∀ (f i : Nat) (s1 : Nat → Int → Int) (z : Z3), n = i + f → cSt 0 s1 z → frM 31 s s1 → doA 0 cs hk (chS s) (s 52) f i z = doA 0 cs hk (chS s) (s 52) n 0 (stN (s 66), s 69, s 22 5) → pX7_doAll_9 G (d + 11) 35 (some 52) n i (PS h s1 r) Q := by
    intro f
    induction f with
    | zero =>
      intro i s1 z hi hst hfr hX
      refine vX7_doAll_9 ?_
      rw [if_pos (by omega)]
      have hz : z = doA 0 cs hk (chS s) (s 52) n 0 (stN (s 66), s 69, s 22 5) := hX
      rw [hz] at hst
      refine hq s1 (J_sc (sc_M (by decide) hfr) ?_ hJ) hfr ?_
      · refine jM_of (s := s) (M := s 69) hst.2.1 (fun i _ _ => ?_) hst.2.2.2.1 ?_
        · rw [doA_q0]
          show s 69 i = s1 69 i
          rw [hfr 69 (by decide) (by decide) (by decide) (by decide) (by decide) (by decide)]
        · rw [hfr 54 (by decide) (by decide) (by decide) (by decide) (by decide) (by decide)]
          exact a8.2.2
      · rw [← doA_in (w := 0) (w' := 0) n 0 (stN (s 66), s 69, s 22 5) (stN (s 66), fun _ => 0, 0) rfl]
        exact hst.1
    | succ f ih =>
      intro i s1 z hi hst hfr hX
      have e52 : s1 52 = s 52 := hfr 52 (by decide) (by decide) (by decide) (by decide) (by decide) (by decide)
      have e35 : s1 35 = s 35 := hfr 35 (by decide) (by decide) (by decide) (by decide) (by decide) (by decide)
      have hr := hrow i (by omega) (by omega)
      refine vX7_doAll_9 ?_
      rw [if_neg (by omega), nnR_q, al_52, if_neg (by omega), ro_35_0, ld_52, e52, rc_35]
      refine ⟨by omega, by omega, ?_⟩
      refine cAtt a2 (hCh_J a10) (by rw [e35]; exact a10.1) a10.2.1.2 hr.1 hr.2 hst (fun s2 q1 q2 x => ?_)
      rw [atI_q, show w32 ((i : Int) + 1) = ((i + 1 : Nat) : Int) by rw [w32_id] <;> omega]
      exact ih (i + 1) s2 _ (by omega) q1 (frM_tr (Nat.le_refl _) hfr q2) hX
  exact L n 0 (up s 29 g) (stN (s 66), s 69, s 22 5) (by omega) ⟨eq19_tr hg (stN_eq (fun i i0 i1 => (a7 i i0 i1).1)), a8.1, rfl, a8.2.1, stN_rg (fun i i0 i1 => (a7 i i0 i1).2)⟩ (frM_up (by decide)) rfl
theorem rDo (hJ : J h s r cs hk ru) {n : Nat} (hn : n ≤ 12) (h48 : s 54 48 = n) (hrow : ∀ k : Int, 0 ≤ k → k < n → 0 ≤ s 82 k ∧ s 82 k < s 54 40) (hb : 0 ≤ b ∧ b ≤ 3)
    (hq : ∀ s', J h s' r cs hk ru → Q (some (vi (w32 ((doA 0 cs hk (chS s) (s 82) n 0 (stN (s 66), fun _ => 0, 0)).1 (14 + b) - s 66 b)))) (PS h s' r)) : cz G mX11_toStart (d + 5) 0 0 [vo 54] (PS h s r) (fun v h6 => atV v (pX11_profit_35 G (d + 5) 54 b 0 h6 Q)) := by
  obtain ⟨a1, a2, a3, a4, a5, a6, a7, a8, a9, a10, a11, a12, a13⟩ := hJ
  have hJ : J h s r cs hk ru := ⟨a1, a2, a3, a4, a5, a6, a7, a8, a9, a10, a11, a12, a13⟩
  refine sX11_toStart (d := d + 4) (fun g hg => ?_)
  rw [atV_q]
  have L : ∀ (f i : Nat) (s1 : Nat → Int → Int) (z : Z3), n = i + f → rSt 0 s1 z → frX s s1 → doA 0 cs hk (chS s) (s 82) f i z = doA 0 cs hk (chS s) (s 82) n 0 (stN (s 66), s 69, s 54 30) → pX11_profit_35 G (d + 5) 54 b i (PS h s1 r) Q := by
    intro f
    induction f with
    | zero =>
      intro i s1 z hi hst hfr hX
      have e48 : s1 54 48 = n := (hfr.2 48 (by decide) (by decide) (by decide) (by decide)).trans h48
      have hz : z = doA 0 cs hk (chS s) (s 82) n 0 (stN (s 66), s 69, s 54 30) := hX
      rw [hz] at hst
      refine vX11_profit_35 ?_
      rw [ri_54_48, e48, if_pos (by omega), ro_54_22, ld_64, w32_id (x := 14 + b) (by omega) (by omega)]
      refine ⟨by omega, by omega, ?_⟩
      rw [ro_54_24, ld_66, hst.1 (14 + b) (by omega) (by omega), hfr.1 66 (by decide) (by decide) (by decide), doA_in (w := 0) (w' := 0) n 0 (stN (s 66), s 69, s 54 30) (stN (s 66), fun _ => 0, 0) rfl]
      refine ⟨by omega, by omega, hq s1 (J_sc (sc_X hfr) ?_ hJ)⟩
      have l24 : s1 24 = s 24 := hfr.1 24 (by decide) (by decide) (by decide)
      have l22 : s1 22 = s 22 := hfr.1 22 (by decide) (by decide) (by decide)
      refine jM_of (s := s) (M := s 69) (Z := (stN (s 66), s 69, 0)) (by rw [l24]; exact a8.1) (fun i i0 i1 => ?_) (by rw [l22]; exact a8.2.1) hst.2.2.2.1
      rw [hst.2.1 i i0 i1, doA_q0]
    | succ f ih =>
      intro i s1 z hi hst hfr hX
      have e48 : s1 54 48 = n := (hfr.2 48 (by decide) (by decide) (by decide) (by decide)).trans h48
      have e82 : s1 82 = s 82 := hfr.1 82 (by decide) (by decide) (by decide)
      have hr := hrow i (by omega) (by omega)
      refine vX11_profit_35 ?_
      rw [ri_54_48, e48, if_neg (by omega), ro_54_49, ld_82, e82, rc_54]
      refine ⟨by omega, by omega, ?_⟩
      refine rAtt (ch := chS s) (m := s 54 40) (REnv_fr hfr a3) (fun j j0 j1 => ⟨?_, (a10.2.2 j j0 j1).1, (a10.2.2 j j0 j1).2.1⟩) a10.2.1.2 hr.1 hr.2 hst (fun s2 q1 q2 => ?_)
      · show chS s j = _
        unfold chS
        rw [hfr.1 76 (by decide) (by decide) (by decide), hfr.1 77 (by decide) (by decide) (by decide), hfr.1 78 (by decide) (by decide) (by decide), hfr.1 79 (by decide) (by decide) (by decide)]
      · rw [atV_q, show w32 ((i : Int) + 1) = ((i + 1 : Nat) : Int) by rw [w32_id] <;> omega]
        exact ih (i + 1) s2 _ (by omega) q1 (frX_tr hfr q2) hX
  exact L n 0 (up s 64 g) (stN (s 66), s 69, s 54 30) (by omega) ⟨hg, fun i _ _ => rfl, rfl, a8.2.2, stN_rg (fun i i0 i1 => (a7 i i0 i1).2)⟩ (frX_up (by decide)) rfl
/-- a row, taken by both: its number, its length -/
theorem rowN (hW : jW s) (ha0 : 0 ≤ a) (ha1 : a < s 54 45) : ∃ n : Nat, s 50 a = n ∧ s 80 a = n ∧ n ≤ 12 ∧ ∀ k : Int, 0 ≤ k → k < n → s 49 (12 * a + k) = s 81 (12 * a + k) ∧ 0 ≤ s 81 (12 * a + k) ∧ s 81 (12 * a + k) < s 54 40 := by
  obtain ⟨w4, w5, w6⟩ := hW.2.2 a ha0 ha1
  refine ⟨(s 80 a).toNat, ?_, ?_, ?_, fun k k0 k1 => ?_⟩
  · rw [w4]; omega
  · omega
  · omega
  · have := w6 k k0 (by omega)
    exact this
theorem cps_at {g g' : Int → Int} {p n k : Int} (k0 : 0 ≤ k) (k1 : k < n) : cps g g' p 0 n k = g (p + k) := by
  unfold cps
  rw [if_pos (by omega), show p + (k - 0) = p + k by omega]
/-- the class tells whether there are such a row and such a rule -/
theorem st_breaks : stp xs (Inv xs) G (D + 13) 0 0 mX10_breaks mX11_breaks [vi a, vi b] := by
  refine stp_i (fun h s r cs hk ru hc hJ => ?_)
  obtain ⟨a1, a2, a3, a4, a5, a6, a7, a8, a9, a10, a11, a12, a13⟩ := hJ
  have hJ : J h s r cs hk ru := ⟨a1, a2, a3, a4, a5, a6, a7, a8, a9, a10, a11, a12, a13⟩
  have hbad : ¬ ((0 ≤ a ∧ a < s 54 45) ∧ 0 ≤ b ∧ b < s 54 13) → aft xs G (D + 13) mX11_breaks [vi a, vi b] (some (vi (-1))) (PS h s r) := by
    intro y
    refine aft_i hc ?_
    refine vX11_breaks (d := D + 12) ?_
    rw [rc_54]
    refine sX11_isRow a11.2.1 (fun y1 y2 => ?_) (fun _ => ?_)
    · rw [atI_q, if_neg (by decide), rc_54]
      refine sX11_isRule a6.2.1 (fun y3 y4 => absurd ⟨⟨y1, y2⟩, y3, y4⟩ y) (fun _ => ?_)
      rw [atI_q, if_pos rfl]
      exact fin_i rfl hJ
    · rw [atI_q, if_pos rfl]
      exact fin_i rfl hJ
  refine vX10_breaks (d := D + 12) ?_
  rw [ro_16_6, rc_48]
  refine vX6_has ?_
  by_cases y1 : a < 0
  · rw [if_pos y1, atI_q, if_pos rfl]; exact hbad (by omega)
  rw [if_neg y1, ri_48_3, a11.1]
  by_cases y2 : s 54 45 ≤ a
  · rw [if_pos y2, atI_q, if_pos rfl]; exact hbad (by omega)
  rw [if_neg y2, atI_q, if_neg (by decide), rc_16]
  have h20 := a11.2.1.2
  have h8 := a6.2.1.2
  refine sX10_isRule (by rw [a6.1]; exact a6.2.1) (fun y3 y4 => ?_) (fun y => ?_)
  rotate_left
  · rw [atI_q, if_pos rfl]; rw [a6.1] at y; exact hbad (fun z => y z.2)
  rw [a6.1] at y4
  obtain ⟨n, n1, n2, n12, n3⟩ := rowN a11 (by omega) (Int.lt_of_not_ge y2)
  obtain ⟨_, _, bb, lv, hr51, hcc⟩ := a6.2.2 b y3 y4
  rw [atI_q, if_neg (by decide), ro_16_6, ro_16_8, rc_48]
  refine sX6_copy48 (d := D + 11) (by omega) (by rw [a11.1]; omega) (by rw [a11.1]; exact a11.2.1.2) n1 n12 ?_
  rw [atI_q, ro_16_4, ro_16_8, ro_16_7, lr_51, hr51, rc_35]
  refine ⟨y3, by omega, ?_⟩
  have hJ1 : J h (up s 52 (cps (s 49) (s 52) (12 * a) 0 n)) r cs hk ru := J_sc (sc_up (by unfold psA; omega) (by decide) (by decide)) (jM_e rfl rfl rfl rfl a8) hJ
  refine cB (d := D) (Or.inl rfl) hJ1 y3 y4 hr51 n12 (fun k k0 k1 => ?_) (fun s1 j1 f1 => ?_)
  · show 0 ≤ cps (s 49) (s 52) (12 * a) 0 n k ∧ cps (s 49) (s 52) (12 * a) 0 n k < s 54 40
    rw [cps_at k0 k1]
    have := n3 k k0 k1
    omega
  rw [atI_q]
  have e54 : ∀ x, 54 ≤ x → s1 x = s x := fun x hx => (f1 x (by omega) (by omega) (by omega) (by omega) (by omega) (by omega)).trans (up_ne (by omega))
  refine aft_i hc ?_
  refine vX11_breaks (d := D + 12) ?_
  rw [rc_54]
  refine sX11_isRow (by rw [e54 54 (by decide)]; exact a11.2.1) (fun _ _ => ?_) (fun y => absurd (by rw [e54 54 (by decide)]; omega) y)
  rw [atI_q, if_neg (by decide), rc_54]
  refine sX11_isRule (by rw [e54 54 (by decide)]; exact a6.2.1) (fun _ _ => ?_) (fun y => absurd (by rw [e54 54 (by decide)]; omega) y)
  rw [atI_q, if_neg (by decide), rc_54]
  refine sX11_take (by omega) (by omega) (show s1 80 a = n by rw [e54 80 (by decide)]; exact n2) n12 ?_
  rw [atV_q, rc_54]
  generalize hs2 : up (uf s1 54 48 n) 82 (cps (s1 81) (s1 82) (12 * a) 0 n) = s2
  have hJ2 : J h s2 r cs hk ru := by
    rw [← hs2]
    exact J_sc (sc_tr (sc_54 (by unfold psK; omega)) (sc_up (by unfold psA; omega) (by decide) (by decide))) (jM_e rfl rfl rfl rfl j1.2.2.2.2.2.2.2.1) j1
  have f54 : ∀ x, 54 < x → x ≠ 82 → s2 x = s x := fun x hx hy => by
    rw [← hs2, up_ne hy, uf, up_ne (by omega)]
    exact e54 x (by omega)
  have g54 : ∀ k, k ≠ 48 → s2 54 k = s 54 k := fun k hk' => by
    rw [← hs2]
    show ud (s1 54) 48 n k = _
    rw [ud_ne hk', e54 54 (by decide)]
  have g82 : ∀ k : Int, 0 ≤ k → k < n → s2 82 k = s 81 (12 * a + k) := fun k k0 k1 => by
    rw [← hs2, up_at, cps_at k0 k1, e54 81 (by decide)]
  refine rB (but := -1) (n := n) (n' := n) (g' := s2 82) (d := D + 6) (by decide) hJ2 y3 (by rw [g54 13 (by decide)]; exact y4) (by rw [← hs2]; rfl) n12 (fun k k0 k1 => ?_) (Or.inl ⟨rfl, rfl, fun _ => rfl⟩) (fun s3 j3 f3 => ?_)
  · rw [g82 k k0 k1, g54 40 (by decide)]
    exact (n3 k k0 k1).2
  rw [atI_q]
  refine fin_i ?_ j3
  have ech : chS s2 = chS s := by
    unfold chS
    rw [f54 76 (by decide) (by decide), f54 77 (by decide) (by decide), f54 78 (by decide) (by decide), f54 79 (by decide) (by decide)]
  rw [ech, f54 66 (by decide) (by decide)]
  refine congrArg bI (brk0_ext (fun k k0 k1 => ?_))
  show s2 82 k = cps (s 49) (s 52) (12 * a) 0 n k
  rw [g82 k k0 k1, cps_at k0 k1]
  exact (n3 k k0 k1).1.symm
/-- profit -/
theorem st_profit : stp xs (Inv xs) G (D + 13) 0 0 mX10_profit mX11_profit [vi a, vi b] := by
  refine stp_i (fun h s r cs hk ru hc hJ => ?_)
  obtain ⟨a1, a2, a3, a4, a5, a6, a7, a8, a9, a10, a11, a12, a13⟩ := hJ
  have hJ : J h s r cs hk ru := ⟨a1, a2, a3, a4, a5, a6, a7, a8, a9, a10, a11, a12, a13⟩
  have hbad : ¬ ((0 ≤ a ∧ a < s 54 45) ∧ 0 ≤ b ∧ b ≤ 3) → aft xs G (D + 13) mX11_profit [vi a, vi b] (some (vi (-2000000000))) (PS h s r) := by
    intro y
    refine aft_i hc ?_
    refine vX11_profit (d := D + 12) ?_
    rw [rc_54]
    refine sX11_isRow a11.2.1 (fun y1 y2 => ?_) (fun _ => ?_)
    · rw [atI_q, if_neg (by decide)]
      refine sX11_in (fun y3 y4 => absurd ⟨⟨y1, y2⟩, y3, y4⟩ y) (fun _ => ?_)
      rw [atI_q, if_pos rfl]
      exact fin_i rfl hJ
    · rw [atI_q, if_pos rfl]
      exact fin_i rfl hJ
  refine vX10_profit (d := D + 12) ?_
  rw [ro_16_6, rc_48]
  refine vX6_has ?_
  by_cases y1 : a < 0
  · rw [if_pos y1, atI_q, if_pos rfl]; exact hbad (by omega)
  rw [if_neg y1, ri_48_3, a11.1]
  by_cases y2 : s 54 45 ≤ a
  · rw [if_pos y2, atI_q, if_pos rfl]; exact hbad (by omega)
  rw [if_neg y2, atI_q, if_neg (by decide)]
  have h20 := a11.2.1.2
  refine sX10_isWithin (fun y3 y4 => ?_) (fun y => ?_)
  rotate_left
  · rw [atI_q, if_pos rfl]; exact hbad (fun z => y z.2)
  obtain ⟨n, n1, n2, n12, n3⟩ := rowN a11 (by omega) (Int.lt_of_not_ge y2)
  rw [atI_q, if_neg (by decide), ro_16_6, ro_16_8, rc_48]
  refine sX6_copy48 (d := D + 11) (by omega) (by rw [a11.1]; omega) (by rw [a11.1]; exact a11.2.1.2) n1 n12 ?_
  rw [atI_q, ro_16_4, ro_16_8, rc_35]
  have hJ1 : J h (up s 52 (cps (s 49) (s 52) (12 * a) 0 n)) r cs hk ru := J_sc (sc_up (by unfold psA; omega) (by decide) (by decide)) (jM_e rfl rfl rfl rfl a8) hJ
  refine cDo (d := D) hJ1 n12 (fun k k0 k1 => ?_) (fun s1 j1 f1 g1 => ?_)
  · show 0 ≤ cps (s 49) (s 52) (12 * a) 0 n k ∧ cps (s 49) (s 52) (12 * a) 0 n k < s 54 40
    rw [cps_at k0 k1]
    have := n3 k k0 k1
    omega
  have e54 : ∀ x, 54 ≤ x → s1 x = s x := fun x hx => (f1 x (by omega) (by omega) (by omega) (by omega) (by omega) (by omega)).trans (up_ne (by omega))
  have e25 : s1 25 = s 25 := (f1 25 (by decide) (by decide) (by decide) (by decide) (by decide) (by decide)).trans (up_ne (by decide))
  rw [atV_q, ro_16_3, rc_27, w32_id (x := 14 + b) (by omega) (by omega)]
  refine sX4_cell (by omega) (by omega) ?_
  rw [atI_q, ro_16_2, rc_22]
  refine vX9_moneyAtStart ?_
  rw [if_neg (by omega), if_neg (by omega), ro_22_2, ld_25, e25, g1 (14 + b) (by omega) (by omega), (a7 b y3 (by omega)).1]
  refine ⟨by omega, by omega, ?_⟩
  rw [atI_q]
  refine aft_i hc ?_
  refine vX11_profit (d := D + 12) ?_
  rw [rc_54]
  refine sX11_isRow (by rw [e54 54 (by decide)]; exact a11.2.1) (fun _ _ => ?_) (fun y => absurd (by rw [e54 54 (by decide)]; omega) y)
  rw [atI_q, if_neg (by decide)]
  refine sX11_in (fun _ _ => ?_) (fun y => absurd ⟨y3, y4⟩ y)
  rw [atI_q, if_neg (by decide), rc_54]
  refine sX11_take (by omega) (by omega) (show s1 80 a = n by rw [e54 80 (by decide)]; exact n2) n12 ?_
  rw [atV_q, rc_54]
  generalize hs2 : up (uf s1 54 48 n) 82 (cps (s1 81) (s1 82) (12 * a) 0 n) = s2
  have hJ2 : J h s2 r cs hk ru := by
    rw [← hs2]
    exact J_sc (sc_tr (sc_54 (by unfold psK; omega)) (sc_up (by unfold psA; omega) (by decide) (by decide))) (jM_e rfl rfl rfl rfl j1.2.2.2.2.2.2.2.1) j1
  have f54 : ∀ x, 54 < x → x ≠ 82 → s2 x = s x := fun x hx hy => by
    rw [← hs2, up_ne hy, uf, up_ne (by omega)]
    exact e54 x (by omega)
  have g54 : ∀ k, k ≠ 48 → s2 54 k = s 54 k := fun k hk' => by
    rw [← hs2]
    show ud (s1 54) 48 n k = _
    rw [ud_ne hk', e54 54 (by decide)]
  have g82 : ∀ k : Int, 0 ≤ k → k < n → s2 82 k = s 81 (12 * a + k) := fun k k0 k1 => by
    rw [← hs2, up_at, cps_at k0 k1, e54 81 (by decide)]
  refine rDo (d := D + 7) hJ2 n12 (by rw [← hs2]; rfl) (fun k k0 k1 => ?_) ⟨y3, y4⟩ (fun s3 j3 => ?_)
  · rw [g82 k k0 k1, g54 40 (by decide)]
    exact (n3 k k0 k1).2
  refine fin_i ?_ j3
  have ech : chS s2 = chS s := by
    unfold chS
    rw [f54 76 (by decide) (by decide), f54 77 (by decide) (by decide), f54 78 (by decide) (by decide), f54 79 (by decide) (by decide)]
  rw [ech, f54 66 (by decide) (by decide)]
  show w32 ((doA 0 cs hk (chS s) (s2 82) n 0 (stN (s 66), fun _ => 0, 0)).1 (14 + b) - s 66 b) = w32 ((doA 0 cs hk (chS s) (cps (s 49) (s 52) (12 * a) 0 n) n 0 (stN (s 66), fun _ => 0, 0)).1 (14 + b) - s 66 b)
  rw [doA_ext (g := s2 82) (g' := cps (s 49) (s 52) (12 * a) 0 n) n 0 _ (fun k k0 k1 => ?_)]
  rw [g82 k (by omega) (by omega), cps_at (by omega) (by omega)]
  exact (n3 k (by omega) (by omega)).1.symm
end DP
