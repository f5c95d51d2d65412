/-! TEXTS: the reference reads a method -/
section RI
variable {h : az_H} {s : Nat → Int → Int} {r : Nat → Int → Option Nat} {G : az_G} {d : Nat} {Q : Option az_V → az_H → Prop} {T : Int → Int} {L e st lp op : Nat} {o : C3}
theorem rStmtI (hx : rTx T L s) (he : e ≤ L) (hst : st ≤ 12) (hlp : lp ≤ st) (hop : op ≤ 4) (hm : RM T L s e st lp o op) (hl : o.length ≤ e) (h3 : lxC T L e = 3) {R : PR} (hR : pE (lxC T L) (lxE T L) (lxN T L) false 8 (lxE T L e) = R)
    (hI : st < 12 → op < 4 → R.1 = true → lxC T L R.2.1 = 123 → ∀ s' g0, frQ s s' → opE op s s' → s' 63 op = ((o.length + R.2.2.length : Nat) : Int) → RM T L s' (lxE T L R.2.1) (st + 1) (lp + 1) (o ++ (e3 R.2.2 ++ [(23, (lp : Int), g0)])) (op + 1) → Q none (PS h s' r))
    (hF : ∀ e', ((12 ≤ st ∨ op = 4) ∧ e' = e ∨ ¬ (R.1 = true ∧ lxC T L R.2.1 = 123) ∧ st < 12 ∧ op < 4 ∧ e' = R.2.1) → ∀ s', frQ s s' → opE op s s' → rTok T L s' e' → s' 54 14 = 1 → Q none (PS h s' r)) : cz G mX11_statement (d + 6) 0 0 [vo 54] (PS h s r) Q := by
  have ha : adv (lxC T L) (lxE T L) L := lx_adv hx.2.1 hx.2.2.2
  have hL := hx.2.1
  have a1 := ha.2 e he (by rw [h3]; decide)
  obtain ⟨m1, m2, m3, m4, m5, m6, m7, m8⟩ := hm
  refine vX11_statement (d := d + 5) ?_
  rw [ri_54_18, m3, wi_54_18, w32_s (by omega), ri_54_18, show uf s 54 18 ((st + 1 : Nat) : Int) 54 18 = ((st + 1 : Nat) : Int) from rfl]
  generalize hs1 : uf s 54 18 ((st + 1 : Nat) : Int) = s1
  have f1 : frQ s s1 := by rw [← hs1]; exact frQ_54 (by decide)
  have t1 : rTok T L s1 e := by rw [← hs1]; exact rTok_e (fun k k0 k1 => ud_ne (by omega)) m1
  have o63 : s1 63 = s 63 := by rw [← hs1]; rfl
  have o54 : ∀ k, k ≠ 18 → s1 54 k = s 54 k := fun k hk => by rw [← hs1]; exact ud_ne hk
  have b18 : s1 54 18 = ((st + 1 : Nat) : Int) := by rw [← hs1]; rfl
  have e58' : s1 58 = s 58 := by rw [← hs1]; rfl
  have bg : sgR (shf (s1 56)) (shf (s1 57)) 0 (pr2 o) := by rw [← hs1]; exact m7
  have b59 : s1 59 14 = o.length := by rw [← hs1]; exact m6
  by_cases n12 : 12 ≤ st
  · rw [if_pos (by omega)]
    refine r33w (d := d + 4) ?_
    exact hF e (Or.inl ⟨Or.inl n12, rfl⟩) _ (frQ_tr f1 (frQ_54 (by decide))) (opE_of o63) (rTok_e (fun k k0 k1 => ud_ne (by omega)) t1) rfl
  have z : s 54 2 = 1 := Classical.byContradiction (fun z => (TK_nw m1.2.2.2 z).2.2.2 h3)
  rw [if_neg (by omega), ri_54_2, o54 2 (by decide), if_pos z]
  have hk := m1.2.2.2
  rw [z] at hk
  obtain ⟨w2, w4, w3, wc⟩ := TK_wd hk
  have b14 : s1 54 14 = 0 := (o54 14 (by decide)).trans m2
  have b19 : s1 54 19 = op := (o54 19 (by decide)).trans m5
  have b21 : s1 54 21 = lp := (o54 21 (by decide)).trans m4
  have hx1 := rTx_Q f1 hx
  refine vX11_statement_33 ?_
  rw [nnR_q, wb_54_14_0, uf_same b14, ri_54_5, o54 5 (by decide)]
  generalize s 54 5 = w at hk w2 w4 w3 wc ⊢
  refine sX11_cellOf (d := d + 4) ?_
  rw [atI_q, ri_54_14, b14, if_pos rfl, if_neg (fun y => by have := w2.mp y; omega), if_neg (fun y => by have := w4.mp y; omega), if_pos (w3.mpr h3), ri_54_19, b19]
  by_cases c4 : op = 4
  · rw [if_pos (by omega)]
    refine vX11_statement_146 ?_
    rw [nnR_q, wb_54_14_1, ri_54_14, show uf s1 54 14 1 54 14 = 1 from rfl, if_neg (by decide)]
    exact hF e (Or.inl ⟨Or.inr c4, rfl⟩) _ (frQ_tr f1 (frQ_54 (by decide))) (opE_of o63) (rTok_e (fun k k0 k1 => ud_ne (by omega)) t1) rfl
  rw [if_neg (by omega)]
  refine vX11_statement_146 ?_
  rw [nnR_q, wb_54_14_0, uf_same b14, ri_54_14, b14, if_pos rfl, rc_54]
  refine sX11_next (d := d + 2) hx1 t1.2.1 (lxE_le he) (fun s2 f2 t2 => ?_)
  rw [atV_q, rc_54]
  have f12 : frQ s s2 := frQ_tr f1 (frQ_U (frU_n f2))
  have k2 : ∀ k, ¬ (2 ≤ k ∧ k ≤ 6) → s2 54 k = s1 54 k := fun k hk => f2.2 k (by omega) (by omega) (by omega) (by omega) (by omega)
  have hRo := pE_ok (V := lxN T L) (ru := false) ha 8 (lxE T L e) a1.2
  have hRw := pE_w (C := lxC T L) (X := lxE T L) (V := lxN T L) (ru := false) 8 (lxE T L e)
  rw [hR] at hRo hRw
  refine rExp0 (d := d + 1) (c := pr2 o) (rTx_Q f12 hx) a1.2 t2 ((k2 14 (by decide)).trans b14) (by rw [f2.1 59 (by decide), pr2_len]; exact b59) (by rw [f2.1 56 (by decide), f2.1 57 (by decide)]; exact bg) (by rw [pr2_len]; omega) hR (fun s3 f3 t3 g3 b3 => ?_)
  have f13 : frQ s s3 := frQ_tr f12 (frQ_U f3)
  have e63 : s3 63 = s 63 := by rw [f3.1 63 (by decide) (by decide) (by decide) (by decide) (by decide), f2.1 63 (by decide)]; exact o63
  have e58 : s3 58 = s 58 := by rw [f3.1 58 (by decide) (by decide) (by decide) (by decide) (by decide), f2.1 58 (by decide)]; exact e58'
  have k3 : ∀ k, k = 18 ∨ k = 19 ∨ k = 21 → s3 54 k = s1 54 k := fun k hk => (f3.2.1 k (by omega) (by omega) (by omega) (by omega)).trans (k2 k (by omega))
  obtain ⟨nn, hnn, hnn2⟩ : ∃ nn : Nat, s3 59 14 = nn ∧ (R.1 = true → nn = o.length + R.2.2.length) := by
    cases hRb : R.1 with
    | true => exact ⟨_, (g3 hRb).2.1, fun _ => by rw [List.length_append, pr2_len]⟩
    | false =>
      obtain ⟨n, h1, _⟩ := (b3 hRb).2
      exact ⟨n, h1, fun y => by cases y⟩
  rw [atV_q, ro_54_20, ri_54_19, (k3 19 (by omega)).trans b19, ro_54_10, ld_59, hnn]
  refine ⟨by decide, by decide, ?_⟩
  rw [st_63]
  refine ⟨by omega, by omega, ?_⟩
  rw [ri_54_19, show uf s3 63 (op : Int) (nn : Int) 54 19 = s3 54 19 from rfl, (k3 19 (by omega)).trans b19, wi_54_19, w32_s (by omega), ri_54_21, show uf (uf s3 63 (op : Int) (nn : Int)) 54 19 ((op + 1 : Nat) : Int) 54 21 = s3 54 21 from rfl, (k3 21 (by omega)).trans b21, rc_54]
  generalize hs4 : uf (uf s3 63 (op : Int) (nn : Int)) 54 19 ((op + 1 : Nat) : Int) = s4
  have f14 : frQ s s4 := by rw [← hs4]; exact frQ_tr f13 (frQ_tr frQ_63 (frQ_54 (by decide)))
  have oe4 : opE op s s4 := by
    intro j j0 j1
    rw [← hs4]
    show ud (s3 63) op nn j = _
    rw [ud_ne (by omega), e63]
  have e63o : s4 63 op = nn := by rw [← hs4]; exact ud_at
  have o4 : ∀ a, a ≠ 54 → a ≠ 63 → s4 a = s3 a := fun a x1 x2 => by rw [← hs4, uf, up_ne x1, uf, up_ne x2]
  have k4 : ∀ k, k ≠ 19 → s4 54 k = s3 54 k := fun k hk => by rw [← hs4]; exact ud_ne hk
  have b419 : s4 54 19 = ((op + 1 : Nat) : Int) := by rw [← hs4]; rfl
  have t4 : rTok T L s4 R.2.1 := rTok_e (fun k k0 k1 => k4 k (by omega)) t3
  have hlen : o.length + (if R.1 = true then R.2.2 else []).length ≤ R.2.1 := by
    by_cases cR : R.1 = true
    · rw [if_pos cR]; have := hRo.2.2 cR; omega
    · rw [if_neg cR, List.length_nil]; omega
  refine rTail (o := pr2 o) (c2 := if R.1 = true then R.2.2 else []) (ok := R.1) (rTx_Q f14 hx) hRo.2.1 t4 (by rw [pr2_len]; exact hlen) (fun cR => ?_) (fun cR => ?_) (fun cR s5 hs5 w5 t5 => ?_) (fun cR s5 f5 q5 t5 w5 k5 => ?_)
  · rw [if_pos cR, k4 14 (by decide), o4 59 (by decide) (by decide), o4 56 (by decide) (by decide), o4 57 (by decide) (by decide)]
    exact g3 cR
  · rw [k4 14 (by decide), o4 59 (by decide) (by decide)]
    exact b3 cR
  · rw [if_pos cR] at hs5
    have len : (pr2 o ++ R.2.2).length = o.length + R.2.2.length := by rw [List.length_append, pr2_len]
    have f15 : frQ s s5 := by rw [hs5]; exact frQ_tr f14 frQ_st
    have o63s : s5 63 = s4 63 := by rw [hs5]; unfold stpS; rw [uf, up_ne (by decide), uf, up_ne (by decide), uf, up_ne (by decide)]
    have o54s : ∀ k, s5 54 k = s4 54 k := fun k => by rw [hs5]; rfl
    have oe5 : opE op s s5 := opE_tr oe4 (opE_of o63s)
    rw [ri_54_21, o54s 21, k4 21 (by decide), (k3 21 (by omega)).trans b21, wi_54_21, w32_s (by omega), rc_54]
    have f16 : frQ s (uf s5 54 21 ((lp + 1 : Nat) : Int)) := frQ_tr f15 (frQ_54 (by decide))
    have t6 : rTok T L (uf s5 54 21 ((lp + 1 : Nat) : Int)) R.2.1 := rTok_e (fun k k0 k1 => ud_ne (by omega)) t5
    refine rNeed (d := d + 1) (rTx_Q f16 hx) hRo.2.1 t6 (by decide) w5 (fun c123 s7 f7 t7 => ?_) (fun c123 => ?_)
    · rw [atV_q]
      have o58 : s7 58 = s 58 := by
        rw [f7.1 58 (by decide), hs5]
        show s4 58 = s 58
        rw [o4 58 (by decide) (by decide)]; exact e58
      have o56 : s7 56 = s5 56 := by rw [f7.1 56 (by decide)]; rfl
      have o57 : s7 57 = s5 57 := by rw [f7.1 57 (by decide)]; rfl
      have o59 : s7 59 = s5 59 := by rw [f7.1 59 (by decide)]; rfl
      have g4 : sgR (shf (s4 56)) (shf (s4 57)) 0 (pr2 o ++ R.2.2) := by rw [o4 56 (by decide) (by decide), o4 57 (by decide) (by decide)]; exact (g3 cR).2.2
      have fin5 := RM_fin (s := s) (s5 := s7) (o := o) (c1 := R.2.2) (a := 23) (b := (lp : Int)) (g := shf (s 58) ((o.length + R.2.2.length : Nat) : Int)) o58 m8 hRw (fun _ => rfl) (by rw [o59, hs5, len]; rfl) (by rw [o56, o57, hs5]; exact sgR_st g4)
      refine hI (by omega) (by omega) cR c123 s7 _ (frQ_tr f16 (frQ_U (frU_n f7))) (opE_tr oe5 (opE_of (by rw [f7.1 63 (by decide)]; rfl))) ?_ ⟨t7, ?_, ?_, ?_, ?_, fin5.1, fin5.2.1, fin5.2.2⟩
      · rw [f7.1 63 (by decide)]
        show s5 63 op = _
        rw [o63s, e63o, hnn2 cR]
      · rw [f7.2 14 (by decide) (by decide) (by decide) (by decide) (by decide)]; exact w5
      · rw [f7.2 18 (by decide) (by decide) (by decide) (by decide) (by decide)]
        show s5 54 18 = _
        rw [o54s 18, k4 18 (by decide)]; exact (k3 18 (by omega)).trans b18
      · rw [f7.2 21 (by decide) (by decide) (by decide) (by decide) (by decide)]; rfl
      · rw [f7.2 19 (by decide) (by decide) (by decide) (by decide) (by decide)]
        show s5 54 19 = _
        rw [o54s 19]; exact b419
    · rw [atV_q]
      exact hF R.2.1 (Or.inr ⟨fun y => c123 y.2, by omega, by omega, rfl⟩) _ (frQ_tr f16 (frQ_54 (by decide))) oe5 (rTok_e (fun k k0 k1 => ud_ne (by omega)) t6) rfl
  · rw [ri_54_21, wi_54_21, rc_54]
    refine rNeedW (d := d + 4) w5 ?_
    rw [atV_q]
    exact hF R.2.1 (Or.inr ⟨fun y => absurd (cR.symm.trans y.1) Bool.false_ne_true, by omega, by omega, rfl⟩) _ (frQ_tr f14 (frQ_tr f5 (frQ_54 (by decide)))) (opE_tr oe4 (opE_of q5)) (rTok_e (fun k k0 k1 => ud_ne (by omega)) t5) w5
theorem glR_set {g : Int → Int} {x y z z' : Int} : ∀ (a b : C3) (n : Nat), glR g n (a ++ (x, y, z) :: b) → glR (ud g ((n + a.length : Nat) : Int) z') n (a ++ (x, y, z') :: b)
  | [], b, n, h => by
    have fr : ∀ (b : C3) (n' : Nat), n + 0 < n' → glR g n' b → glR (ud g ((n + 0 : Nat) : Int) z') n' b := by
      intro b
      induction b with
      | nil => intro _ _ _; trivial
      | cons p b ih =>
        intro n' hn hb
        exact ⟨fun zz => by rw [ud_ne (by omega)]; exact hb.1 zz, ih (n' + 1) (by omega) hb.2⟩
    exact ⟨fun _ => ud_at, fr b (n + 1) (by omega) h.2⟩
  | p :: a, b, n, h => by
    refine ⟨fun zz => ?_, ?_⟩
    · rw [ud_ne (by rw [List.length_cons]; omega)]
      exact h.1 zz
    · have := glR_set (z' := z') a b (n + 1) h.2
      rw [show n + 1 + a.length = n + (p :: a).length by rw [List.length_cons]; omega] at this
      exact this
theorem shf_ud {g : Int → Int} {i v : Int} : shf (ud g (4200 + i) v) = ud (shf g) i v := by
  funext j
  unfold shf
  rw [ud_ap, ud_ap]
  by_cases c : j = i
  · rw [if_pos c, if_pos (by omega)]
  · rw [if_neg c, if_neg (by omega)]
theorem pSt_0 {C : Nat → Int} {X : Nat → Nat} {V : Nat → Int} {k n m : Nat} {inner : Nat → Nat → Nat → Nat → Nat → SR} (hc : C e = 0 ∨ C e = 125) : pSt C X V k inner e st lp n m = flS e := by
  unfold pSt
  by_cases c : 12 ≤ st
  · rw [if_pos c]
  rw [if_neg c, if_neg (fun y => by have := cel7_ne y; omega), if_neg (by omega), if_neg (by omega), if_neg (by omega)]
theorem TK_0 {c t w : Int} (hk : TK c t w) : t = 0 ↔ c = 0 := by
  unfold TK isS isL at hk
  omega
theorem r33W {kk : Int} (h14 : s 54 14 = 1) (hq : pX11_method_119 G d 54 kk (PS h s r) Q) : pX11_method_33 G d 54 kk (PS h s r) Q := by
  refine vX11_method_33 ?_
  rw [ri_54_14, h14, if_neg (by decide)]
  exact hq
/-- statements at the depth of op ifs -/
def RLS (G : az_G) (h : az_H) (r : Nat → Int → Option Nat) (T : Int → Int) (L : Nat) (D : Nat) (kk : Int) (Q : Option az_V → az_H → Prop) (op : Nat) (q : Nat → Nat → Nat → Nat → Nat → SR) : Prop := ∀ (s : Nat → Int → Int) (e st lp m : Nat) (o : C3) (S : SR), rTx T L s → e ≤ L → st ≤ 12 → lp ≤ st → RM T L s e st lp o op → o.length ≤ e → q e st lp o.length m = S →
  (S.1 = true → (lxC T L S.2.1 = 0 ∨ lxC T L S.2.1 = 125) → ∀ s', frQ s s' → opE op s s' → RM T L s' S.2.1 S.2.2.1 S.2.2.2.1 (o ++ S.2.2.2.2.1) op → pX11_method_33 G D 54 kk (PS h s' r) Q) →
  (S.1 = false → ∀ s', frQ s s' → opE op s s' → rTok T L s' S.2.1 → s' 54 14 = 1 → pX11_method_119 G D 54 kk (PS h s' r) Q) → pX11_method_33 G D 54 kk (PS h s r) Q
theorem rLoopK {kk : Int} {k : Nat} (hk : k ≤ 4) (hopk : op = 4 - k) {inner : Nat → Nat → Nat → Nat → Nat → SR} (hio : okS L inner) (hin : 0 < k → RLS G h r T L (d + 6) kk Q (op + 1) inner) : RLS G h r T L (d + 6) kk Q op (fun e st lp n m => pStL (lxC T L) (lxE T L) (lxN T L) k inner 13 e st lp n m [] []) := by
  intro s0 e0 st0 lp0 m0 o RR hx0 he0 hst0 hlp0 hm0 hl0 hRR hS hF
  have ha : adv (lxC T L) (lxE T L) L := lx_adv hx0.2.1 hx0.2.2.2
  have hL := hx0.2.1
  have main : ∀ (f e st lp m : Nat) (a3 : C3) (a2 : C2) (s : Nat → Int → Int), 13 ≤ st + f → e ≤ L → st ≤ 12 → lp ≤ st → frQ s0 s → opE op s0 s → RM T L s e st lp (o ++ a3) op → (o ++ a3).length ≤ e → pStL (lxC T L) (lxE T L) (lxN T L) k inner f e st lp (o ++ a3).length m a3 a2 = RR → pX11_method_33 G (d + 6) 54 kk (PS h s r) Q := by
    intro f
    induction f with
    | zero => intro e st lp m a3 a2 s h13 he hst; omega
    | succ f ih =>
      intro e st lp m a3 a2 s h13 he hst hlp f0 oe0 hm hl heq
      have hx := rTx_Q f0 hx0
      unfold pStL at heq
      by_cases cE : lxC T L e = 0 ∨ lxC T L e = 125
      · rw [if_pos cE] at heq
        rw [← heq] at hS
        exact hS rfl cE s f0 oe0 hm
      rw [if_neg cE] at heq
      have hk2 := hm.1.2.2.2
      have t0 := TK_0 hk2
      have t125 : s 54 2 = 125 ↔ lxC T L e = 125 := TK_sg hk2 (by decide)
      refine vX11_method_33 ?_
      rw [ri_54_14, hm.2.1, if_pos rfl, ri_54_2, if_neg (fun y => cE (Or.inl (t0.mp y)))]
      refine vX11_method_54 ?_
      rw [ri_54_2, if_neg (fun y => cE (Or.inr (t125.mp y))), rc_54]
      have hpo := pSt_ok (V := lxN T L) ha (k := k) hio e st lp (o ++ a3).length m he hst hlp
      by_cases c3 : lxC T L e = 3
      rotate_left
      · obtain ⟨S, hSS⟩ : ∃ S, pSt (lxC T L) (lxE T L) (lxN T L) k inner e st lp (o ++ a3).length m = S := ⟨_, rfl⟩
        rw [hSS] at heq hpo
        refine rStmtS (d := d) (o := o ++ a3) (op := op) hx he hst hlp hm hl c3 hSS (fun cS s1 f1 e63 m1 => ?_) (fun cS s1 f1 e63 t1 w1 => ?_)
        · rw [if_pos cS] at heq
          have h2 := hpo.2.2 cS
          rw [atV_q]
          rw [List.append_assoc] at m1
          refine ih S.2.1 S.2.2.1 S.2.2.2.1 (m + S.2.2.2.2.2.length) (a3 ++ S.2.2.2.2.1) (a2 ++ S.2.2.2.2.2) s1 (by omega) hpo.2.1 h2.2.1 h2.2.2.1 (frQ_tr f0 f1) (opE_tr oe0 (opE_of e63)) m1 (by rw [← List.append_assoc, List.length_append]; omega) ?_
          rw [← List.append_assoc, List.length_append (as := o ++ a3)]
          exact heq
        · rw [if_neg (by rw [cS]; decide)] at heq
          rw [← heq] at hF
          rw [atV_q]
          exact r33W w1 (hF rfl s1 (frQ_tr f0 f1) (opE_tr oe0 (opE_of e63)) t1 w1)
      -- an if
      have ncel : ¬ 0 ≤ cel7 (lxC T L e) := fun y => by have := cel7_ne y; omega
      obtain ⟨R, hR⟩ : ∃ R, pE (lxC T L) (lxE T L) (lxN T L) false 8 (lxE T L e) = R := ⟨_, rfl⟩
      have a1 := ha.2 e he (by rw [c3]; decide)
      have hRo := pE_ok (V := lxN T L) (ru := false) ha 8 (lxE T L e) a1.2
      rw [hR] at hRo
      refine rStmtI (d := d) (o := o ++ a3) (op := op) hx he hst hlp (by omega) hm hl c3 hR (fun l12 l4 cR c123 s1 g0 f1 oe1 e63 m1 => ?_) (fun e' hc s1 f1 oe1 t1 w1 => ?_)
      rotate_left
      · have hSf : pSt (lxC T L) (lxE T L) (lxN T L) k inner e st lp (o ++ a3).length m = flS e' := by
          unfold pSt
          rcases hc with ⟨y1, y2⟩ | ⟨y1, y2, y3, y4⟩
          · subst y2
            by_cases c12 : 12 ≤ st
            · rw [if_pos c12]
            · rw [if_neg c12, if_neg ncel, if_neg (by omega), if_neg (by omega), if_neg (by omega)]
          · subst y4
            rw [if_neg (by omega), if_neg ncel, if_neg (by omega), if_neg (by omega), if_pos ⟨c3, by omega⟩]
            unfold pIf
            rw [hR]
            by_cases cR : R.1 = true
            · rw [if_pos cR, if_neg (fun y => y1 ⟨cR, y⟩)]
            · rw [if_neg cR]
        rw [hSf, if_neg (show ¬ (flS e').1 = true from Bool.false_ne_true)] at heq
        rw [← heq] at hF
        rw [atV_q]
        exact r33W w1 (hF rfl s1 (frQ_tr f0 f1) (opE_tr oe0 oe1) t1 w1)
      rw [atV_q]
      have h4 := hRo.2.2 cR
      have a2' := ha.2 _ hRo.2.1 (by rw [c123]; decide)
      obtain ⟨S, hSS⟩ : ∃ S, inner (lxE T L R.2.1) (st + 1) (lp + 1) ((o ++ a3).length + R.2.2.length + 1) (m + R.2.2.length + 2) = S := ⟨_, rfl⟩
      have hSo := hio (lxE T L R.2.1) (st + 1) (lp + 1) ((o ++ a3).length + R.2.2.length + 1) (m + R.2.2.length + 2) a2'.2 (by omega) (by omega)
      rw [hSS] at hSo
      have hpe : pSt (lxC T L) (lxE T L) (lxN T L) k inner e st lp (o ++ a3).length m = pIf2 (lxC T L) (lxE T L) S lp (o ++ a3).length m R.2.2 := by
        unfold pSt
        rw [if_neg (by omega), if_neg ncel, if_neg (by omega), if_neg (by omega), if_pos ⟨c3, by omega⟩]
        unfold pIf
        rw [hR, if_pos cR, if_pos c123, hSS]
      have len1 : (o ++ a3 ++ (e3 R.2.2 ++ [(23, (lp : Int), g0)])).length = (o ++ a3).length + R.2.2.length + 1 := by
        rw [List.length_append (as := o ++ a3), List.length_append (as := e3 R.2.2), e3_len, List.length_singleton]
        omega
      have hx1 := rTx_Q f1 hx
      rw [hpe] at heq hpo
      refine hin (by omega) s1 (lxE T L R.2.1) (st + 1) (lp + 1) (m + R.2.2.length + 2) _ S hx1 a2'.2 (by omega) (by omega) m1 (by rw [len1]; omega) (by rw [len1]; exact hSS) (fun cS cE2 s2 f2 oe2 m2 => ?_) (fun cS s2 f2 oe2 t2 w2 => ?_)
      rotate_left
      · have hpf : pIf2 (lxC T L) (lxE T L) S lp (o ++ a3).length m R.2.2 = flS S.2.1 := by
          unfold pIf2
          rw [if_neg (by rw [cS]; decide)]
        rw [hpf, if_neg (show ¬ (flS S.2.1).1 = true from Bool.false_ne_true)] at heq
        rw [← heq] at hF
        exact hF rfl s2 (frQ_tr f0 (frQ_tr f1 f2)) (opE_tr oe0 (opE_tr oe1 (fun j j0 j1 => oe2 j j0 (by omega)))) t2 w2
      have h5 := hSo.2.2 cS
      have hk3 := m2.1.2.2.2
      have t0' := TK_0 hk3
      have t125' : s2 54 2 = 125 ↔ lxC T L S.2.1 = 125 := TK_sg hk3 (by decide)
      by_cases c125 : lxC T L S.2.1 = 125
      · have hpt : pIf2 (lxC T L) (lxE T L) S lp (o ++ a3).length m R.2.2 = (true, lxE T L S.2.1, S.2.2.1, S.2.2.2.1, e3 R.2.2 ++ (23, (lp : Int), (((o ++ a3).length + R.2.2.length + 1 + S.2.2.2.2.1.length : Nat) : Int)) :: S.2.2.2.2.1, R.2.2.map tau ++ (18, 2 * (lp : Int)) :: (20, ((m + R.2.2.length + 2 + S.2.2.2.2.2.length : Nat) : Int)) :: S.2.2.2.2.2) := by
          unfold pIf2
          rw [if_pos cS, if_pos c125]
        rw [hpt] at heq hpo
        have h6 := hpo.2.2 rfl
        rw [if_pos rfl] at heq
        have len2 : (o ++ a3 ++ (e3 R.2.2 ++ [(23, (lp : Int), g0)]) ++ S.2.2.2.2.1).length = (o ++ a3).length + R.2.2.length + 1 + S.2.2.2.2.1.length := by rw [List.length_append, len1]
        have hE8 : lxE T L S.2.1 ≤ L := hpo.2.1
        refine vX11_method_33 ?_
        rw [ri_54_14, m2.2.1, if_pos rfl, ri_54_2, if_neg (fun y => by have := t0'.mp y; omega)]
        refine vX11_method_54 ?_
        rw [ri_54_2, if_pos (t125'.mpr c125), ri_54_19, m2.2.2.2.2.1, if_neg (by omega), ri_54_19, m2.2.2.2.2.1, wi_54_19, show w32 (((op + 1 : Nat) : Int) - 1) = (op : Int) by rw [w32_id] <;> omega, ro_54_9, ro_54_20, ri_54_19, show uf s2 54 19 (op : Int) 54 19 = (op : Int) from rfl, ld_63]
        refine ⟨by omega, by omega, ?_⟩
        rw [show uf s2 54 19 (op : Int) 63 op = s2 63 op from rfl, oe2 op (by omega) (by omega), e63, ro_54_10, ld_59]
        refine ⟨by decide, by decide, ?_⟩
        have l208 : (o ++ a3).length + R.2.2.length ≤ 208 := by omega
        rw [show uf s2 54 19 (op : Int) 59 14 = s2 59 14 from rfl, m2.2.2.2.2.2.1, len2, show w32 (4200 + (((o ++ a3).length + R.2.2.length : Nat) : Int)) = 4200 + (((o ++ a3).length + R.2.2.length : Nat) : Int) by rw [w32_id] <;> omega, st_58]
        refine ⟨by omega, by omega, ?_⟩
        rw [rc_54]
        generalize hs3 : uf (uf s2 54 19 (op : Int)) 58 (4200 + (((o ++ a3).length + R.2.2.length : Nat) : Int)) (((o ++ a3).length + R.2.2.length + 1 + S.2.2.2.2.1.length : Nat) : Int) = s3
        have f3 : frQ s2 s3 := by
          rw [← hs3]
          refine frQ_tr (frQ_54 (k := 19) (v := (op : Int)) (by decide)) ⟨fun a _ _ _ x4 _ _ _ => up_ne x4, fun _ _ _ _ _ _ _ _ => rfl, fun j hj => ⟨rfl, rfl, ?_⟩, fun _ _ => rfl⟩
          exact ud_ne (by omega)
        have t3 : rTok T L s3 S.2.1 := by rw [← hs3]; exact rTok_e (fun k k0 k1 => ud_ne (by omega)) m2.1
        have f03 : frQ s0 s3 := frQ_tr f0 (frQ_tr f1 (frQ_tr f2 f3))
        refine sX11_next (d := d + 3) (rTx_Q f03 hx0) t3.2.1 (lxE_le hSo.2.1) (fun s4 f4 t4 => ?_)
        rw [atV_q]
        have k4 : ∀ k, ¬ (2 ≤ k ∧ k ≤ 6) → s4 54 k = s3 54 k := fun k hk => f4.2 k (by omega) (by omega) (by omega) (by omega) (by omega)
        refine ih (lxE T L S.2.1) S.2.2.1 S.2.2.2.1 _ (a3 ++ (e3 R.2.2 ++ (23, (lp : Int), (((o ++ a3).length + R.2.2.length + 1 + S.2.2.2.2.1.length : Nat) : Int)) :: S.2.2.2.2.1)) _ s4 (by have := h6.1; omega) hE8 h6.2.1 h6.2.2.1 (frQ_tr f03 (frQ_U (frU_n f4))) ?_ ?_ ?_ (by rw [← List.append_assoc, List.length_append (as := o ++ a3)]; exact heq)
        · refine opE_tr oe0 (opE_tr oe1 (opE_tr (fun j j0 j1 => oe2 j j0 (by omega)) (opE_of ?_)))
          rw [f4.1 63 (by decide), ← hs3]
          rfl
        · refine ⟨t4, ?_, ?_, ?_, ?_, ?_, ?_, ?_⟩
          · rw [k4 14 (by decide), ← hs3]; exact m2.2.1
          · rw [k4 18 (by decide), ← hs3]; exact m2.2.2.1
          · rw [k4 21 (by decide), ← hs3]; exact m2.2.2.2.1
          · rw [k4 19 (by decide), ← hs3]; rfl
          · rw [f4.1 59 (by decide), ← hs3]
            show s2 59 14 = _
            rw [m2.2.2.2.2.2.1, len2, ← List.append_assoc, List.length_append (as := o ++ a3), List.length_append (as := e3 R.2.2), e3_len, List.length_cons]
            omega
          · rw [f4.1 56 (by decide), f4.1 57 (by decide), ← hs3]
            show sgR (shf (s2 56)) (shf (s2 57)) 0 _
            have g := m2.2.2.2.2.2.2.1
            have ee : pr2 (o ++ a3 ++ (e3 R.2.2 ++ [(23, (lp : Int), g0)]) ++ S.2.2.2.2.1) = pr2 (o ++ (a3 ++ (e3 R.2.2 ++ (23, (lp : Int), (((o ++ a3).length + R.2.2.length + 1 + S.2.2.2.2.1.length : Nat) : Int)) :: S.2.2.2.2.1))) := by
              simp only [pr2, List.map_append, List.map_cons, List.map_nil, List.append_assoc, List.cons_append, List.nil_append]
            rw [← ee]
            exact g
          · rw [f4.1 58 (by decide), ← hs3]
            show glR (shf (ud (s2 58) (4200 + (((o ++ a3).length + R.2.2.length : Nat) : Int)) (((o ++ a3).length + R.2.2.length + 1 + S.2.2.2.2.1.length : Nat) : Int))) 0 _
            rw [shf_ud]
            have g := m2.2.2.2.2.2.2.2
            rw [show o ++ a3 ++ (e3 R.2.2 ++ [(23, (lp : Int), g0)]) ++ S.2.2.2.2.1 = (o ++ a3 ++ e3 R.2.2) ++ (23, (lp : Int), g0) :: S.2.2.2.2.1 by simp only [List.append_assoc, List.cons_append, List.nil_append]] at g
            have g2 := glR_set (z' := (((o ++ a3).length + R.2.2.length + 1 + S.2.2.2.2.1.length : Nat) : Int)) _ _ 0 g
            rw [Nat.zero_add, List.length_append (as := o ++ a3), e3_len] at g2
            rw [show o ++ (a3 ++ (e3 R.2.2 ++ (23, (lp : Int), (((o ++ a3).length + R.2.2.length + 1 + S.2.2.2.2.1.length : Nat) : Int)) :: S.2.2.2.2.1)) = (o ++ a3 ++ e3 R.2.2) ++ (23, (lp : Int), (((o ++ a3).length + R.2.2.length + 1 + S.2.2.2.2.1.length : Nat) : Int)) :: S.2.2.2.2.1 by simp only [List.append_assoc]]
            exact g2
        · rw [← List.append_assoc, List.length_append (as := o ++ a3)]
          have h7 := h6.2.2.2.1
          dsimp only at h7
          omega
      · have c0 : lxC T L S.2.1 = 0 := by
          rcases cE2 with y | y
          · exact y
          · exact absurd y c125
        have hpf : pIf2 (lxC T L) (lxE T L) S lp (o ++ a3).length m R.2.2 = flS S.2.1 := by
          unfold pIf2
          rw [if_pos cS, if_neg c125]
        rw [hpf, if_neg (show ¬ (flS S.2.1).1 = true from Bool.false_ne_true)] at heq
        rw [← heq] at hF
        refine vX11_method_33 ?_
        rw [ri_54_14, m2.2.1, if_pos rfl, ri_54_2, if_pos (t0'.mpr c0), ri_54_19, m2.2.2.2.2.1, if_neg (by omega)]
        refine vX11_method_54 ?_
        rw [ri_54_2, if_neg (fun y => c125 (t125'.mp y)), rc_54]
        have hx2 := rTx_Q f2 hx1
        refine rStmtS (d := d) (op := op + 1) (k := 0) (n := 0) (m := 0) (inner := inner) hx2 hSo.2.1 h5.2.1 h5.2.2.1 m2 (by rw [List.length_append, len1]; omega) (by omega) (pSt_0 (Or.inl c0)) (fun cS2 => by cases cS2) (fun _ s3 f3 e63' t3 w3 => ?_)
        rw [atV_q]
        exact r33W w3 (hF rfl s3 (frQ_tr f0 (frQ_tr f1 (frQ_tr f2 f3))) (opE_tr oe0 (opE_tr oe1 (opE_tr (fun j j0 j1 => oe2 j j0 (by omega)) (opE_of e63')))) t3 w3)
  exact main 13 e0 st0 lp0 m0 [] [] s0 (by omega) he0 hst0 hlp0 frQ_rf (opE_of rfl) (by rw [List.append_nil]; exact hm0) (by rw [List.append_nil]; exact hl0) (by rw [List.append_nil]; exact hRR)
theorem rSS (hL : L ≤ 208) (ha : adv (lxC T L) (lxE T L) L) {kk : Int} : ∀ k : Nat, k ≤ 4 → RLS G h r T L (d + 6) kk Q (4 - k) (pSS (lxC T L) (lxE T L) (lxN T L) k)
  | 0, _ => rLoopK (d := d) (k := 0) (by decide) rfl (fun e st lp n m he _ _ => fl_ok (Nat.le_refl _) he) (fun z => absurd z (by decide))
  | k + 1, hk => rLoopK (d := d) (k := k + 1) hk rfl (pSS_ok (V := lxN T L) ha k) (fun _ => by
      rw [show 4 - (k + 1) + 1 = 4 - k by omega]
      exact rSS hL ha k (by omega))
end RI
