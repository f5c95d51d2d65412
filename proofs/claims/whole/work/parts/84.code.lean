/-! A new Code -/
theorem rgm_zero (n : Nat) : List.replicate n (0 : Int) = rgm n (fun _ => 0) := by
  unfold rgm
  rw [List.map_const', List.length_range]
theorem cpy_0 {n : Nat} {g : Int → Int} (hn : n ≤ 208) : cpyL (rgm 208 g) (List.replicate n 0) (0 : Int).toNat (0 : Int).toNat ((n : Int)).toNat = rgm n g := by
  rw [rgm_zero, rgm_cpy (by decide) (by decide) (by omega) (by omega) (by omega)]
  exact rgm_ext (fun k k0 k1 => by
    unfold cps
    rw [if_pos (by omega), show 0 + (k - 0) = k by omega])
section HC
variable {h : az_H} {s : Nat → Int → Int} {r : Nat → Int → Option Nat} {G : az_G} {d : Nat} {Q : Option az_V → az_H → Prop}
theorem set_p1 {c c' x : az_C} : hset (hpsh (hpsh h c) x) h.2 c' = hpsh (hpsh h c') x := by
  refine Prod.ext (funext fun j => ?_) rfl
  show (if j = h.2 then c' else if j = h.2 + 1 then x else if j = h.2 then c else h.1 j) = if j = h.2 + 1 then x else if j = h.2 then c' else h.1 j
  by_cases e : j = h.2
  · rw [if_pos e, if_neg (by omega), if_pos e]
  · rw [if_neg e, if_neg e, if_neg e]
theorem set_p2 {c c' x y : az_C} : hset (hpsh (hpsh (hpsh h c) x) y) h.2 c' = hpsh (hpsh (hpsh h c') x) y := by
  refine Prod.ext (funext fun j => ?_) rfl
  show (if j = h.2 then c' else if j = h.2 + 1 + 1 then y else if j = h.2 + 1 then x else if j = h.2 then c else h.1 j) = if j = h.2 + 1 + 1 then y else if j = h.2 + 1 then x else if j = h.2 then c' else h.1 j
  by_cases e : j = h.2
  · rw [if_pos e, if_neg (by omega), if_neg (by omega), if_pos e]
  · rw [if_neg e, if_neg e, if_neg e]
theorem at_p1 {c x : az_C} : (hpsh (hpsh h c) x).1 h.2 = c := by
  show (if h.2 = h.2 + 1 then x else if h.2 = h.2 then c else h.1 h.2) = c
  rw [if_neg (by omega), if_pos rfl]
theorem at_p2 {c x y : az_C} : (hpsh (hpsh (hpsh h c) x) y).1 h.2 = c := by
  show (if h.2 = h.2 + 1 + 1 then y else if h.2 = h.2 + 1 then x else if h.2 = h.2 then c else h.1 h.2) = c
  rw [if_neg (by omega), if_neg (by omega), if_pos rfl]
theorem sJ_copyOf {a n : Nat} (hal : ∀ (h1 : az_H) (K : Int → Prop), aln (PS h1 s r) a K = K 208) (hat : ∀ h1 : az_H, (PS h1 s r).1 a = cA .int (rgm 208 (s a))) (ha : a < 89) (h9 : 89 ≤ h.2) (hn : n ≤ 208) (hq : Q (some (vo h.2)) (PS (hpsh h (cA .int (rgm n (s a)))) s r)) : cz G mJ7_copyOf_59c91 (d + 1) 1 208 [vo a, vi n] (PS h s r) Q := by
  refine vJ7_copyOf_59c91 ?_
  rw [nnR_q, hal]
  by_cases c : (n : Int) = 208
  · rw [if_pos c]
    have : n = 208 := by omega
    subst this
    unfold clA
    rw [hat]
    refine ⟨rfl, by rw [rgm_len]; omega, ?_⟩
    rw [PS_psh h9, PS_sz]
    show isA (PS (hpsh h (cA .int (rgm 208 (s a)))) s r) h.2 (Q (some (vo h.2)) (PS (hpsh h (cA .int (rgm 208 (s a)))) s r))
    unfold isA
    rw [show (PS (hpsh h (cA .int (rgm 208 (s a)))) s r).1 h.2 = cA .int (rgm 208 (s a)) from (PS_out h9).trans hpsh_at]
    exact ⟨rfl, hq⟩
  · rw [if_neg c]
    refine ⟨by omega, by omega, ?_⟩
    rw [Int.toNat_natCast]
    refine nwO_i ?_
    rw [PS_psh h9, PS_sz, hal]
    refine sJ9_min ?_
    rw [atI_q, show min (208 : Int) (n : Int) = (n : Int) by omega]
    refine acp_i (hat _) ((PS_out h9).trans hpsh_at) (by decide) (by decide) (by omega) (by rw [rgm_len]; omega) (by rw [List.length_replicate]; omega) ?_
    rw [PS_dyn h9, hset_psh, cpy_0 hn]
    exact hq
def hN3 (h : az_H) (st lv n : Int) (L1 L2 : List Int) : az_H := hpsh (hpsh (hpsh h (cO 1 [vi st, vi lv, vi n, vo (h.2 + 1), vo (h.2 + 1 + 1)])) (cA .int L1)) (cA .int L2)
theorem sX1_init {n : Nat} {st lv : Int} (h9 : 89 ≤ h.2) (hn : n ≤ 208) (hq : Q none (PS (hN3 h st lv n (rgm n (s 20)) (rgm n (s 21))) s r)) : cz G mX1_init (d + 2) 2 416 [vo h.2, vo 20, vo 21, vi n, vi st, vi lv] (PS (hpsh h (cO 1 [vi 0, vi 0, vi 0, vn, vn])) s r) Q := by
  have at0 : ∀ c : az_C, (PS (hpsh h c) s r).1 h.2 = c := fun c => (PS_out h9).trans hpsh_at
  have st0 : ∀ c c' : az_C, hset (PS (hpsh h c) s r) h.2 c' = PS (hpsh h c') s r := fun c c' => by rw [PS_dyn h9, hset_psh]
  have at1 : ∀ c x : az_C, (PS (hpsh (hpsh h c) x) s r).1 h.2 = c := fun c x => (PS_out h9).trans at_p1
  have st1 : ∀ c c' x : az_C, hset (PS (hpsh (hpsh h c) x) s r) h.2 c' = PS (hpsh (hpsh h c') x) s r := fun c c' x => by rw [PS_dyn h9, set_p1]
  have at2 : ∀ c x y : az_C, (PS (hpsh (hpsh (hpsh h c) x) y) s r).1 h.2 = c := fun c x y => (PS_out h9).trans at_p2
  have st2 : ∀ c c' x y : az_C, hset (PS (hpsh (hpsh (hpsh h c) x) y) s r) h.2 c' = PS (hpsh (hpsh (hpsh h c') x) y) s r := fun c c' x y => by rw [PS_dyn h9, set_p2]
  refine vX1_init ?_
  rw [nnR_q, al_20, nnR_q, al_21]
  refine sJ9_min ?_
  rw [atI_q]
  refine sJ9_min ?_
  rw [atI_q]
  refine sJ9_max ?_
  rw [atI_q, show max (0 : Int) (min (n : Int) (min 208 208)) = (n : Int) by omega]
  refine wrF_i (at0 _) trivial ?_
  rw [st0]
  rw [rdI_q (at0 _) rfl]
  refine sJ_copyOf (a := 20) (h := hpsh h _) (d := d) (fun _ _ => al_20) (fun _ => PS_in ⟨by decide, by decide⟩) (by decide) (show 89 ≤ h.2 + 1 by omega) hn ?_
  rw [atR_q]
  refine wrF_i (at1 _ _) trivial ?_
  rw [st1]
  rw [rdI_q (at1 _ _) rfl]
  refine sJ_copyOf (a := 21) (h := hpsh (hpsh h _) _) (d := d) (fun _ _ => al_21) (fun _ => PS_in ⟨by decide, by decide⟩) (by decide) (show 89 ≤ h.2 + 1 + 1 by omega) hn ?_
  rw [atR_q]
  refine wrF_i (at2 _ _ _) trivial ?_
  rw [st2]
  refine wrF_i (at2 _ _ _) trivial ?_
  rw [st2]
  refine wrF_i (at2 _ _ _) trivial ?_
  rw [st2]
  exact hq
theorem sX5_finished {n : Nat} {st lv : Int} (h9 : 89 ≤ h.2) (h3 : s 19 3 = n) (hn : n ≤ 208) (h4 : s 19 4 = st) (h5 : s 19 5 = lv) (hq : Q (some (vo h.2)) (PS (hN3 h st lv n (rgm n (s 20)) (rgm n (s 21))) s r)) : cz G mX5_finished (d + 3) 3 421 [vo 19] (PS h s r) Q := by
  refine vX5_finished (d := d + 2) ?_
  refine nwO_i ?_
  rw [PS_psh h9, PS_sz, ro_19_1, ro_19_2, ri_19_3, h3, ri_19_4, h4, ri_19_5, h5]
  refine sX1_init (d := d) h9 hn ?_
  rw [atV_q]
  exact hq
theorem hx_N3 {st lv n : Int} {L1 L2 : List Int} : hx h (hN3 h st lv n L1 L2) := by
  intro i hi
  show (if i = h.2 + 1 + 1 then cA .int L2 else if i = h.2 + 1 then cA .int L1 else if i = h.2 then _ else h.1 i) = h.1 i
  rw [if_neg (by omega), if_neg (by omega), if_neg (by omega)]
theorem jH_N3 {st lv n : Int} {L1 L2 : List Int} (hj : jH h) : jH (hN3 h st lv n L1 L2) := jH_psh (jH_psh (jH_psh hj))
theorem cst_N3 {xs : List Int} {st lv n : Int} {L1 L2 : List Int} (hj : jH h) (hc : ∀ i, i < 16 → h.1 i = con0 xs i) : ∀ i, i < 16 → (hN3 h st lv n L1 L2).1 i = con0 xs i := by
  intro i hi
  have := hj.1
  rw [hx_N3 i (by omega)]
  exact hc i hi
end HC
/-- the Code that was made of what was read -/
theorem cCode_N {h : az_H} {st lv : Int} {O A : Int → Int} {c2 : C2} {c : Cd} (hj : jH h) (hs : sgR O A 0 c2) (hl : c2.length ≤ 208) (hcp : cp c.2.1 c.1 = c2.length) (hins : ∀ (OC AC : Int → Int), sgR OC AC 0 c2 → ∀ j, j < c.1 → cIns OC AC c j) : cCode (hN3 h st lv c2.length (rgm c2.length O) (rgm c2.length A)) h.2 lv c := by
  refine ⟨rgm c2.length O, rgm c2.length A, st, h.2 + 1, h.2 + 1 + 1, hj.1, by have := hj.1; omega, by have := hj.1; omega, ?_, ?_, ?_, by rw [rgm_len, hcp], by rw [rgm_len, hcp], by omega, hins _ _ (sgR_fr 0 c2 hs (fun j _ j1 => ?_))⟩
  · rw [hcp]; exact at_p2
  · show (if h.2 + 1 = h.2 + 1 + 1 then _ else if h.2 + 1 = h.2 + 1 then cA .int (rgm c2.length O) else _) = _
    rw [if_neg (by omega), if_pos rfl]
  · show (if h.2 + 1 + 1 = h.2 + 1 + 1 then cA .int (rgm c2.length A) else _) = _
    rw [if_pos rfl]
  · unfold lsF
    rw [rgm_gd (by omega) (by omega), rgm_gd (by omega) (by omega)]
    exact ⟨rfl, rfl⟩
/-- the class reads a method, a rule -/
def frG (s s' : Nat → Int → Int) : Prop := (∀ a, a ≠ 17 → a ≠ 19 → a ≠ 20 → a ≠ 21 → s' a = s a) ∧ s' 17 1 = s 17 1
section CB
variable {h : az_H} {s : Nat → Int → Int} {r : Nat → Int → Option Nat} {G : az_G} {d : Nat} {Q : Option az_V → az_H → Prop} {T : Int → Int} {L : Nat}
theorem cBegin (hs : ∀ s', strs (PS h s' r)) (hx : cTx T L s) {b : Bool} (hq : ∀ s', frG s s' → CP T L b s' 0 [] → s' 19 4 = 0 → s' 19 5 = 0 → Q none (PS h s' r)) : cz G mX5_begin (d + 9) 0 0 [vo 19, vi (wI b)] (PS h s r) Q := by
  refine vX5_begin ?_
  have go : ∀ v : Int, v = wI b → wrF (PS h (uf s 19 6 v) r) 19 5 3 (.int) (vi 0) (fun h2 => wrF h2 19 5 4 (.int) (vi 0) (fun h3 => wrF h3 19 5 5 (.int) (vi 0) (fun h4 => rdO h4 19 5 0 (fun o5 => rcv h4 o5 8 (cz G mX8_open (d + 8) 0 0 [vo o5] h4 (fun v h6 => atV v (Q none h6))))))) := by
    intro v hv
    rw [wi_19_3, wi_19_4, wi_19_5, ro_19_0, rc_17]
    refine vX8_open ?_
    rw [wi_17_3, rc_17]
    generalize hs1 : uf (uf (uf (uf (uf s 19 6 v) 19 3 0) 19 4 0) 19 5 0) 17 3 0 = s1
    have f1 : frG s s1 := by
      rw [← hs1]
      exact ⟨fun a x1 x2 _ _ => by rw [uf, up_ne x1, uf, up_ne x2, uf, up_ne x2, uf, up_ne x2, uf, up_ne x2], rfl⟩
    have hx1 : cTx T L s1 := by
      unfold cTx at *
      rw [f1.1 18 (by decide) (by decide) (by decide) (by decide), f1.2]
      exact hx
    refine sX8_next (d := d) hs hx1 (e := 0) (by rw [← hs1]; rfl) (Nat.zero_le _) (fun s2 f2 t2 => ?_)
    rw [atV_q, atV_q]
    refine hq s2 ⟨fun a x1 x2 x3 x4 => (f2.1 a x1).trans (f1.1 a x1 x2 x3 x4), (f2.2 1 (by decide) (by decide) (by decide) (by decide)).trans f1.2⟩ ⟨cTx_17 f2 hx1, t2, ?_, trivial, ?_⟩ ?_ ?_
    · rw [f2.1 19 (by decide), ← hs1]; rfl
    · rw [f2.1 19 (by decide), ← hs1]; exact hv
    · rw [f2.1 19 (by decide), ← hs1]; rfl
    · rw [f2.1 19 (by decide), ← hs1]; rfl
  cases b with
  | true =>
    show wrF (PS h s r) 19 5 6 (.boolean) (vi 1) _
    rw [wb_19_6_1]
    exact go 1 rfl
  | false =>
    show wrF (PS h s r) 19 5 6 (.boolean) (vi 0) _
    rw [wb_19_6_0]
    exact go 0 rfl
theorem frG_P {s0 s s' : Nat → Int → Int} (h0 : frG s0 s) (h1 : frP s s') : frG s0 s' := ⟨fun a x1 x2 x3 x4 => (h1.1 a x1 x2 x3 x4).trans (h0.1 a x1 x2 x3 x4), (h1.2.1 1 (by decide) (by decide) (by decide) (by decide)).trans h0.2⟩
theorem frG_T {s0 s s' : Nat → Int → Int} (h0 : frG s0 s) (h1 : frT s s') : frG s0 s' := ⟨fun a x1 x2 x3 x4 => (h1.1 a x1 x2 x3 x4).trans (h0.1 a x1 x2 x3 x4), (h1.2.1 1 (by decide) (by decide) (by decide) (by decide)).trans h0.2⟩
theorem cReadRule (hs : ∀ s', strs (PS h s' r)) (hx : cTx T L s) (h9 : 89 ≤ h.2) {R : PR} (hR : pE (lxC T L) (lxE T L) (lxN T L) true 8 0 = R)
    (h1 : R.1 = true → lxC T L R.2.1 = 0 → ∀ s' lv, frG s s' → cTok T L s' R.2.1 → sgR (s' 20) (s' 21) 0 (R.2.2.map tau) → Q (some (vo h.2)) (PS (hN3 h 0 lv (R.2.2.map tau).length (rgm (R.2.2.map tau).length (s' 20)) (rgm (R.2.2.map tau).length (s' 21))) s' r))
    (h0 : ¬ (R.1 = true ∧ lxC T L R.2.1 = 0) → ∀ s', frG s s' → cTok T L s' R.2.1 → Q (some vn) (PS h s' r)) : cz G mX5_readRule (d + 54) 3 421 [vo 19] (PS h s r) Q := by
  have ha : adv (lxC T L) (lxE T L) L := lx_adv hx.2.1 hx.2.2.2
  refine vX5_readRule (d := d + 53) ?_
  rw [rc_19]
  refine cBegin (d := d + 44) (b := true) hs hx (fun s1 f1 c1 g4 g5 => ?_)
  rw [atV_q, rc_19]
  have hRo := pE_ok (V := lxN T L) (ru := true) ha 8 0 (Nat.zero_le _)
  refine cExp8 (d := d) (ru := true) hs hx.2.1 ha s1 0 [] _ (Nat.zero_le _) c1 (Nat.le_refl _) (fun s2 f2 t2 c2 => ?_)
  rw [hR] at t2 c2 hRo ⊢
  rw [atI_q]
  by_cases cR : R.1 = true
  · rw [if_pos cR, if_neg (by decide), ro_19_0, rc_17]
    have q2 := c2 cR
    refine cToken q2 ?_
    rw [atI_q]
    by_cases c0 : lxC T L R.2.1 = 0
    · rw [if_pos c0, rc_19]
      have h4 := hRo.2.2 cR
      have hL := hx.2.1
      have hln : (R.2.2.map tau).length ≤ 208 := by rw [List.length_map]; omega
      refine sX5_finished (d := d + 50) (n := (R.2.2.map tau).length) (st := 0) (lv := 0) h9 q2.2.2.1 hln ((f2.2.2 4 (by decide)).trans g4) ((f2.2.2 5 (by decide)).trans g5) ?_
      rw [atR_q]
      exact h1 cR c0 s2 0 (frG_P f1 f2) t2 q2.2.2.2.1
    · rw [if_neg c0]
      exact h0 (fun z => c0 z.2) s2 (frG_P f1 f2) t2
  · rw [if_neg cR, if_pos rfl]
    exact h0 (fun z => cR z.1) s2 (frG_P f1 f2) t2
theorem cReadMethod (hs : ∀ s', strs (PS h s' r)) (hx : cTx T L s) (h9 : 89 ≤ h.2) {S : SR} (hS : pSS (lxC T L) (lxE T L) (lxN T L) 4 0 0 0 0 0 = S)
    (h1 : S.1 = true → lxC T L S.2.1 = 0 → ∀ s', frG s s' → cTok T L s' S.2.1 → sgR (s' 20) (s' 21) 0 S.2.2.2.2.2 → Q (some (vo h.2)) (PS (hN3 h (S.2.2.1 : Int) (2 * (S.2.2.2.1 : Int)) S.2.2.2.2.2.length (rgm S.2.2.2.2.2.length (s' 20)) (rgm S.2.2.2.2.2.length (s' 21))) s' r))
    (h0 : ¬ (S.1 = true ∧ lxC T L S.2.1 = 0) → ∀ s', frG s s' → cTok T L s' S.2.1 → Q (some vn) (PS h s' r)) : cz G mX5_readMethod (d + 69) 3 421 [vo 19] (PS h s r) Q := by
  have ha : adv (lxC T L) (lxE T L) L := lx_adv hx.2.1 hx.2.2.2
  have hL := hx.2.1
  refine vX5_readMethod (d := d + 68) ?_
  rw [rc_19]
  refine cBegin (d := d + 59) (b := false) hs hx (fun s1 f1 c1 g4 g5 => ?_)
  rw [atV_q, rc_19]
  have hSo := pSS_ok (V := lxN T L) ha 4 0 0 0 0 0 (Nat.zero_le _) (by decide) (by decide)
  refine cSS (d := d) hs hx.2.1 ha 4 (Nat.le_refl _) s1 0 0 0 0 [] _ (Nat.zero_le _) (by decide) (by decide) ⟨c1, g4, g5⟩ (Nat.le_refl _) (fun s2 f2 t2 c2 => ?_)
  rw [show ([] : C2).length = 0 from rfl, hS] at t2 c2 ⊢
  rw [hS] at hSo
  rw [atI_q]
  by_cases cS : S.1 = true
  · rw [if_pos cS, if_neg (by decide), ro_19_0, rc_17]
    have q2 := c2 cS
    have h4 := hSo.2.2 cS
    refine cToken q2.1 ?_
    rw [atI_q]
    by_cases c0 : lxC T L S.2.1 = 0
    · rw [if_pos c0, rc_19]
      refine sX5_finished (d := d + 65) (n := S.2.2.2.2.2.length) (st := (S.2.2.1 : Int)) (lv := 2 * (S.2.2.2.1 : Int)) h9 q2.1.2.2.1 (by omega) q2.2.1 q2.2.2 ?_
      rw [atR_q]
      exact h1 cS c0 s2 (frG_T f1 f2) t2 q2.1.2.2.2.1
    · rw [if_neg c0]
      exact h0 (fun z => c0 z.2) s2 (frG_T f1 f2) t2
  · rw [if_neg cS, if_pos rfl]
    exact h0 (fun z => cS z.1) s2 (frG_T f1 f2) t2
end CB
