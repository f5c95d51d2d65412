/-! ROWS: kept and taken; BREAKS, PROFIT, ROW -/
def chS (s : Nat → Int → Int) : Ch := fun i => (s 76 i, s 77 i, s 78 i, s 79 i)
def brk0 (cs : Int → Option Cd) (hk : Int → Option (Int × Int)) (ch : Ch) (rl : Cd) (M g : Int → Int) (n : Nat) : Option Nat := (brk 0 cs hk ch rl g n 0 (stN M, fun _ => 0, 0)).1
theorem brk0_ext {cs : Int → Option Cd} {hk : Int → Option (Int × Int)} {ch : Ch} {rl : Cd} {M g g' : Int → Int} {n : Nat} (e : ∀ k : Int, 0 ≤ k → k < n → g k = g' k) : brk0 cs hk ch rl M g n = brk0 cs hk ch rl M g' n := by
  unfold brk0
  rw [brk_ext n 0 _ (fun k _ k1 => e k (by omega) (by omega))]
theorem hCh_J {h : az_H} {s : Nat → Int → Int} {r : Nat → Int → Option Nat} (hC : jC h s r) : hCh h r (chS s) (s 54 40) := fun i i0 i1 => hC.2.2 i i0 i1
theorem jM_of {s s' : Nat → Int → Int} {Z : Z3} {M : Int → Int} (q1 : metR (s' 24) Z.2.1) (hZ : ∀ i, 0 ≤ i → i < 144 → Z.2.1 i = s' 69 i) (h4 : s' 22 4 = 0) (h29 : s' 54 29 = 0) : jM s' := by
  refine ⟨fun k k0 k1 => ⟨(q1 k k0 k1).1, fun l l0 l1 => ?_⟩, h4, h29⟩
  rw [← hZ _ (by omega) (by omega)]
  exact (q1 k k0 k1).2 l l0 l1
section RO
variable {h : az_H} {s : Nat → Int → Int} {r : Nat → Int → Option Nat} {G : az_G} {d D : Nat} {Q : Option az_V → az_H → Prop} {cs : Int → Option Cd} {hk : Int → Option (Int × Int)} {ru : Int → Cd} {xs : List Int} {a b c e : Int}
/-- the class: where a row breaks a rule -/
theorem cB {q : Nat} (hq43 : q = 52 ∨ q = 43) (hJ : J h s r cs hk ru) {bb : Nat} (hb0 : 0 ≤ b) (hb1 : b < s 54 13) (hbb : r 51 b = some bb) {n : Nat} (hn : n ≤ 12) (hrow : ∀ k : Int, 0 ≤ k → k < n → 0 ≤ s q k ∧ s q k < s 54 40)
    (hq : ∀ s', J h s' r cs hk ru → frM 31 s s' → Q (some (vi (bI (brk0 cs hk (chS s) (ru b) (s 66) (s q) n)))) (PS h s' r)) : cz G mX7_breaksAt (d + 12) 0 0 [vo 35, vo q, vi n, vo bb] (PS h s r) Q := by
  obtain ⟨a1, a2, a3, a4, a5, a6, a7, a8, a9, a10, a11, a12, a13⟩ := hJ
  have hJ : J h s r cs hk ru := ⟨a1, a2, a3, a4, a5, a6, a7, a8, a9, a10, a11, a12, a13⟩
  obtain ⟨wf, _, b2, lv, e2, hcc⟩ := a6.2.2 b hb0 hb1
  have : b2 = bb := Option.some.inj (e2.symm.trans hbb)
  subst this
  have hal : ∀ (s1 : Nat → Int → Int) (K : Int → Prop), aln (PS h s1 r) q K = K 12 := by
    rcases hq43 with rfl | rfl
    · exact fun s1 K => al_52
    · exact fun s1 K => al_43
  have hld : ∀ (s1 : Nat → Int → Int) (i : Int) (K : Int → Prop), ldI (PS h s1 r) q .int i K = (0 ≤ i ∧ i < 12 ∧ K (s1 q i)) := by
    rcases hq43 with rfl | rfl
    · exact fun s1 i K => ld_52
    · exact fun s1 i K => ld_43
  refine sX7_breaksAt (m := s 54 40) (w := 0) (N := stN (s 66)) (M := s 69) (f := s 22 5) (by omega) hal hld a2 (hCh_J a10) a10.2.1.2 hcc wf a10.1 hn hrow a8.1 rfl a8.2.1 (stN_eq (fun i i0 i1 => (a7 i i0 i1).1)) (stN_rg (fun i i0 i1 => (a7 i i0 i1).2)) (fun s' q1 q2 => ?_)
  rw [brk_in (w' := 0) n 0 (stN (s 66), s 69, s 22 5) (stN (s 66), fun _ => 0, 0) rfl]
  refine hq s' (J_sc (sc_M (by decide) q2) ?_ hJ) q2
  refine jM_of (s := s) (M := s 69) q1.2.1 (fun i _ _ => ?_) q1.2.2.2.1 ?_
  · rw [brk_q0]
    show s 69 i = s' 69 i
    rw [q2 69 (by decide) (by decide) (by decide) (by decide) (by decide) (by decide)]
  · rw [q2 54 (by decide) (by decide) (by decide) (by decide) (by decide) (by decide)]
    exact a8.2.2
/-- the reference: where its row breaks a rule -/
theorem rB {but : Int} (hb : -1 ≤ but) (hJ : J h s r cs hk ru) (hb0 : 0 ≤ b) (hb1 : b < s 54 13) {n n' : Nat} (h48 : s 54 48 = n) (hn : n ≤ 12) (hrow : ∀ k : Int, 0 ≤ k → k < n → 0 ≤ s 82 k ∧ s 82 k < s 54 40) {g' : Int → Int}
    (hg : but = -1 ∧ n' = n ∧ (∀ k, g' k = s 82 k) ∨ 0 ≤ but ∧ but < n ∧ n = n' + 1 ∧ ∀ k, g' k = er (s 82) but k)
    (hq : ∀ s', J h s' r cs hk ru → frX s s' → Q (some (vi (bI (brk0 cs hk (chS s) (ru b) (s 66) g' n')))) (PS h s' r)) : cz G mX11_breaksAt (d + 6) 0 0 [vo 54, vi b, vi but] (PS h s r) Q := by
  obtain ⟨a1, a2, a3, a4, a5, a6, a7, a8, a9, a10, a11, a12, a13⟩ := hJ
  have hJ : J h s r cs hk ru := ⟨a1, a2, a3, a4, a5, a6, a7, a8, a9, a10, a11, a12, a13⟩
  obtain ⟨wf, hrc, _⟩ := a6.2.2 b hb0 hb1
  have h8 := a6.2.1.2
  refine sX11_breaksAt (m := s 54 40) (w := 0) (N := stN (s 66)) (M := s 69) (f := s 54 30) (ch := chS s) hb ⟨hb0, by omega⟩ wf a10.2.1.2 h48 hn hrow hg a3 hrc (fun i i0 i1 => ⟨rfl, (a10.2.2 i i0 i1).1, (a10.2.2 i i0 i1).2.1⟩) (fun i _ _ => rfl) rfl a8.2.2 eq19_rf (stN_rg (fun i i0 i1 => (a7 i i0 i1).2)) (fun s' q1 q2 => ?_)
  rw [brk_in (w' := 0) n' 0 (stN (s 66), s 69, s 54 30) (stN (s 66), fun _ => 0, 0) rfl]
  refine hq s' (J_sc (sc_X q2) ?_ hJ) q2
  have l24 : s' 24 = s 24 := q2.1 24 (by decide) (by decide) (by decide)
  have l22 : s' 22 = s 22 := q2.1 22 (by decide) (by decide) (by decide)
  refine jM_of (s := s) (M := s 69) (Z := (stN (s 66), s 69, 0)) (by rw [l24]; exact a8.1) (fun i i0 i1 => ?_) (by rw [l22]; exact a8.2.1) q1.2.2.2.1
  rw [q1.2.1 i i0 i1, brk_q0]
theorem sX6_copy48 (ha0 : 0 ≤ a) (ha1 : a < s 48 3) (h20 : s 48 3 ≤ 20) {n : Nat} (hl : s 50 a = n) (hn : n ≤ 12) (hq : Q (some (vi n)) (PS h (up s 52 (cps (s 49) (s 52) (12 * a) 0 n)) r)) : cz G mX6_copy (d + 1) 0 0 [vo 48, vi a, vo 52] (PS h s r) Q := by
  refine vX6_copy ?_
  rw [rc_48]
  refine vX6_has ?_
  rw [if_neg (by omega), ri_48_3, if_neg (by omega), atI_q, if_neg (by decide), nnR_q, al_52, ro_48_2, ld_50, hl]
  refine ⟨by omega, by omega, ?_⟩
  rw [if_pos (by omega), ro_48_1, ro_48_2, ld_50, hl]
  refine ⟨by omega, by omega, ?_⟩
  rw [cp_49_52, w32_id (x := a * 12) (by omega) (by omega), show a * 12 = 12 * a by omega]
  refine ⟨by omega, by omega, by omega, by omega, by omega, ?_⟩
  rw [ro_48_2, ld_50, show up s 52 (cps (s 49) (s 52) (12 * a) 0 n) 50 a = n from hl]
  exact ⟨by omega, by omega, hq⟩
theorem sX6_copy45 (ha0 : 0 ≤ a) (ha1 : a < s 45 3) (h8 : s 45 3 ≤ 8) {n : Nat} (hl : s 47 a = n) (hn : n ≤ 12) (hq : Q (some (vi n)) (PS h (up s 52 (cps (s 46) (s 52) (12 * a) 0 n)) r)) : cz G mX6_copy (d + 1) 0 0 [vo 45, vi a, vo 52] (PS h s r) Q := by
  refine vX6_copy ?_
  rw [rc_45]
  refine vX6_has ?_
  rw [if_neg (by omega), ri_45_3, if_neg (by omega), atI_q, if_neg (by decide), nnR_q, al_52, ro_45_2, ld_47, hl]
  refine ⟨by omega, by omega, ?_⟩
  rw [if_pos (by omega), ro_45_1, ro_45_2, ld_47, hl]
  refine ⟨by omega, by omega, ?_⟩
  rw [cp_46_52, w32_id (x := a * 12) (by omega) (by omega), show a * 12 = 12 * a by omega]
  refine ⟨by omega, by omega, by omega, by omega, by omega, ?_⟩
  rw [ro_45_2, ld_47, show up s 52 (cps (s 46) (s 52) (12 * a) 0 n) 47 a = n from hl]
  exact ⟨by omega, by omega, hq⟩
theorem sX6_add48 {N : Int} (hN : s 48 3 = N) (N0 : 0 ≤ N) (N1 : N < 20) {n : Nat} (hn : n ≤ 12) (hq : Q (some (vi N)) (PS h (uf (uf (up s 49 (cps (s 52) (s 49) 0 (12 * N) n)) 50 N n) 48 3 (N + 1)) r)) : cz G mX6_add (d + 1) 0 0 [vo 48, vo 52, vi n] (PS h s r) Q := by
  refine vX6_add ?_
  rw [rc_48]
  refine vX6_isFull ?_
  rw [ri_48_3, ri_48_0, hN, if_pos N1, atI_q, if_pos rfl, nnR_q, al_52]
  refine vJ9_min_7cf53 ?_
  rw [if_neg (by decide), atI_q]
  refine vJ9_min_7cf53 ?_
  rw [if_neg (by omega), atI_q]
  refine vJ9_max_7cf53 ?_
  have go : rdO (PS h s r) 48 6 1 (fun o11 => rdI (PS h s r) 48 6 3 (fun f12 => acp (PS h s r) 52 o11 0 (w32 (f12 * 12)) n (fun h13 => rdO h13 48 6 2 (fun o14 => rdI h13 48 6 3 (fun f15 => stI h13 o14 .int f15 n (fun h16 => rdI h16 48 6 3 (fun f17 => wrF h16 48 6 3 (.int) (vi (w32 (f17 + 1))) (fun h18 => rdI h18 48 6 3 (fun f19 => Q (some (vi (w32 (f19 - 1)))) h18))))))))) := by
    rw [ro_48_1, ri_48_3, hN, cp_52_49, w32_id (x := N * 12) (by omega) (by omega), show N * 12 = 12 * N by omega]
    refine ⟨by omega, by omega, by omega, by omega, by omega, ?_⟩
    rw [ro_48_2, ri_48_3, show up s 49 (cps (s 52) (s 49) 0 (12 * N) n) 48 3 = N from hN, st_50]
    refine ⟨by omega, by omega, ?_⟩
    rw [ri_48_3, show uf (up s 49 (cps (s 52) (s 49) 0 (12 * N) n)) 50 N n 48 3 = N from hN, wi_48_3, ri_48_3, w32_id (x := N + 1) (by omega) (by omega)]
    rw [show uf (uf (up s 49 (cps (s 52) (s 49) 0 (12 * N) n)) 50 N n) 48 3 (N + 1) 48 3 = N + 1 from rfl, w32_id (by omega) (by omega), show N + 1 - 1 = N by omega]
    exact hq
  by_cases c0 : (0 : Int) < n
  · rw [if_pos c0, atI_q]; exact go
  · have : (n : Int) = 0 := by omega
    rw [if_neg c0, atI_q]
    rw [this] at go
    exact go
theorem sX6_add45 {N : Int} (hN : s 45 3 = N) (N0 : 0 ≤ N) (N1 : N < 8) {n : Nat} (hn : n ≤ 12) (hq : Q (some (vi N)) (PS h (uf (uf (up s 46 (cps (s 52) (s 46) 0 (12 * N) n)) 47 N n) 45 3 (N + 1)) r)) : cz G mX6_add (d + 1) 0 0 [vo 45, vo 52, vi n] (PS h s r) Q := by
  refine vX6_add ?_
  rw [rc_45]
  refine vX6_isFull ?_
  rw [ri_45_3, ri_45_0, hN, if_pos N1, atI_q, if_pos rfl, nnR_q, al_52]
  refine vJ9_min_7cf53 ?_
  rw [if_neg (by decide), atI_q]
  refine vJ9_min_7cf53 ?_
  rw [if_neg (by omega), atI_q]
  refine vJ9_max_7cf53 ?_
  have go : rdO (PS h s r) 45 6 1 (fun o11 => rdI (PS h s r) 45 6 3 (fun f12 => acp (PS h s r) 52 o11 0 (w32 (f12 * 12)) n (fun h13 => rdO h13 45 6 2 (fun o14 => rdI h13 45 6 3 (fun f15 => stI h13 o14 .int f15 n (fun h16 => rdI h16 45 6 3 (fun f17 => wrF h16 45 6 3 (.int) (vi (w32 (f17 + 1))) (fun h18 => rdI h18 45 6 3 (fun f19 => Q (some (vi (w32 (f19 - 1)))) h18))))))))) := by
    rw [ro_45_1, ri_45_3, hN, cp_52_46, w32_id (x := N * 12) (by omega) (by omega), show N * 12 = 12 * N by omega]
    refine ⟨by omega, by omega, by omega, by omega, by omega, ?_⟩
    rw [ro_45_2, ri_45_3, show up s 46 (cps (s 52) (s 46) 0 (12 * N) n) 45 3 = N from hN, st_47]
    refine ⟨by omega, by omega, ?_⟩
    rw [ri_45_3, show uf (up s 46 (cps (s 52) (s 46) 0 (12 * N) n)) 47 N n 45 3 = N from hN, wi_45_3, ri_45_3, w32_id (x := N + 1) (by omega) (by omega)]
    rw [show uf (uf (up s 46 (cps (s 52) (s 46) 0 (12 * N) n)) 47 N n) 45 3 (N + 1) 45 3 = N + 1 from rfl, w32_id (by omega) (by omega), show N + 1 - 1 = N by omega]
    exact hq
  by_cases c0 : (0 : Int) < n
  · rw [if_pos c0, atI_q]; exact go
  · have : (n : Int) = 0 := by omega
    rw [if_neg c0, atI_q]
    rw [this] at go
    exact go
theorem sX11_keepRow {N : Int} (hN : s 54 45 = N) (N0 : 0 ≤ N) (N1 : N < 20) {n : Nat} (h48 : s 54 48 = n) (hn : n ≤ 12) (hq : Q (some (vi N)) (PS h (uf (uf (up s 81 (cps (s 82) (s 81) 0 (12 * N) n)) 80 N n) 54 45 (N + 1)) r)) : cz G mX11_keepRow d 0 0 [vo 54] (PS h s r) Q := by
  refine vX11_keepRow ?_
  have L : ∀ (t : Nat) (i : Int), i = n - t → 0 ≤ i → pX11_keepRow_2 G d 54 i (PS h (up s 81 (cps (s 82) (s 81) 0 (12 * N) i)) r) Q := by
    intro t
    induction t with
    | zero =>
      intro i hi _
      have : i = n := by omega
      subst this
      refine vX11_keepRow_2 ?_
      rw [ri_54_48, show up s 81 (cps (s 82) (s 81) 0 (12 * N) n) 54 48 = n from h48, if_pos (Int.le_refl _), ro_54_46, ri_54_45, ri_54_48, show up s 81 (cps (s 82) (s 81) 0 (12 * N) n) 54 48 = n from h48, show up s 81 (cps (s 82) (s 81) 0 (12 * N) n) 54 45 = N from hN, st_80]
      refine ⟨by omega, by omega, ?_⟩
      rw [ri_54_45, show uf (up s 81 (cps (s 82) (s 81) 0 (12 * N) n)) 80 N n 54 45 = N from hN, wi_54_45, ri_54_45, w32_id (x := N + 1) (by omega) (by omega)]
      rw [show uf (uf (up s 81 (cps (s 82) (s 81) 0 (12 * N) n)) 80 N n) 54 45 (N + 1) 54 45 = N + 1 from rfl, w32_id (by omega) (by omega), show N + 1 - 1 = N by omega]
      exact hq
    | succ t ih =>
      intro i hi i0
      refine vX11_keepRow_2 ?_
      have e2 := cps_s (g := s 82) (g' := s 81) (sp := 0) (dp := 12 * N) i0
      rw [Int.zero_add] at e2
      rw [ri_54_48, show up s 81 (cps (s 82) (s 81) 0 (12 * N) i) 54 48 = n from h48, if_neg (by omega), ro_54_47, ri_54_45, show up s 81 (cps (s 82) (s 81) 0 (12 * N) i) 54 45 = N from hN, ro_54_49, ld_82]
      refine ⟨by omega, by omega, ?_⟩
      rw [st_81, up_ne (by decide), up_uf, w32_id (x := 12 * N) (by omega) (by omega), w32_id (x := 12 * N + i) (by omega) (by omega), w32_id (x := i + 1) (by omega) (by omega), e2]
      exact ⟨by omega, by omega, ih (i + 1) (by omega) (by omega)⟩
  have := L n 0 (by omega) (by omega)
  rw [cps_0, up_same] at this
  exact this
theorem sX11_take (ha0 : 0 ≤ a) (ha1 : a < 20) {n : Nat} (hl : s 80 a = n) (hn : n ≤ 12) (hq : Q none (PS h (up (uf s 54 48 n) 82 (cps (s 81) (s 82) (12 * a) 0 n)) r)) : cz G mX11_take d 0 0 [vo 54, vi a] (PS h s r) Q := by
  refine vX11_take ?_
  rw [ro_54_46, ld_80, hl, wi_54_48]
  refine ⟨by omega, by omega, ?_⟩
  have L : ∀ (t : Nat) (i : Int), i = n - t → 0 ≤ i → pX11_take_12 G d 54 a i (PS h (up (uf s 54 48 n) 82 (cps (s 81) (s 82) (12 * a) 0 i)) r) Q := by
    intro t
    induction t with
    | zero =>
      intro i hi _
      have : i = n := by omega
      subst this
      refine vX11_take_12 ?_
      rw [ri_54_48, show up (uf s 54 48 n) 82 (cps (s 81) (s 82) (12 * a) 0 n) 54 48 = n from rfl, if_pos (Int.le_refl _)]
      exact hq
    | succ t ih =>
      intro i hi i0
      refine vX11_take_12 ?_
      have e2 := cps_s (g := s 81) (g' := s 82) (sp := 12 * a) (dp := 0) i0
      rw [Int.zero_add] at e2
      rw [ri_54_48, show up (uf s 54 48 n) 82 (cps (s 81) (s 82) (12 * a) 0 i) 54 48 = n from rfl, if_neg (by omega), ro_54_49, ro_54_47, ld_81]
      rw [w32_id (x := 12 * a) (by omega) (by omega), w32_id (x := 12 * a + i) (by omega) (by omega), w32_id (x := i + 1) (by omega) (by omega)]
      refine ⟨by omega, by omega, ?_⟩
      rw [st_82, up_uf, show up (uf s 54 48 n) 82 (cps (s 81) (s 82) (12 * a) 0 i) 81 = s 81 from rfl, e2]
      exact ⟨by omega, by omega, ih (i + 1) (by omega) (by omega)⟩
  have := L n 0 (by omega) (by omega)
  rw [cps_0, show s 82 = uf s 54 48 n 82 from rfl, up_same] at this
  exact this
theorem jQ_add {N m M : Int} {l l' g g' q q' : Int → Int} {n : Nat} (hQ : jQ N N m M l l' g g') (hN : N < M) (hn : n ≤ 12) (he : ∀ k : Int, 0 ≤ k → k < n → q k = q' k ∧ 0 ≤ q' k ∧ q' k < m) : jQ (N + 1) (N + 1) m M (ud l N n) (ud l' N n) (cps q g 0 (12 * N) n) (cps q' g' 0 (12 * N) n) := by
  obtain ⟨_, w2, w3⟩ := hQ
  refine ⟨rfl, by omega, fun i i0 i1 => ?_⟩
  rw [ud_ap, ud_ap]
  by_cases ei : i = N
  · subst ei
    rw [if_pos rfl, if_pos rfl]
    refine ⟨rfl, by omega, fun j j0 j1 => ?_⟩
    unfold cps
    rw [if_pos (by omega), if_pos (by omega), show 0 + (12 * i + j - 12 * i) = j by omega]
    exact he j j0 j1
  · rw [if_neg ei, if_neg ei]
    obtain ⟨w4, w5, w6⟩ := w3 i i0 (by omega)
    refine ⟨w4, w5, fun j j0 j1 => ?_⟩
    unfold cps
    rw [if_neg (by omega), if_neg (by omega)]
    exact w6 j j0 j1
end RO
