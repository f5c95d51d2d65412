/-! TEXTS: the class reads statements -/
def frT (s s' : Nat → Int → Int) : Prop := (∀ a, a ≠ 17 → a ≠ 19 → a ≠ 20 → a ≠ 21 → s' a = s a) ∧ (∀ k, k ≠ 2 → k ≠ 3 → k ≠ 4 → k ≠ 5 → s' 17 k = s 17 k) ∧ ∀ k, k ≠ 3 → k ≠ 4 → k ≠ 5 → s' 19 k = s 19 k
theorem frT_rf {s : Nat → Int → Int} : frT s s := ⟨fun _ _ _ _ _ => rfl, fun _ _ _ _ _ => rfl, fun _ _ _ _ => rfl⟩
theorem frT_tr {s s' s'' : Nat → Int → Int} (h1 : frT s s') (h2 : frT s' s'') : frT s s'' := ⟨fun a x1 x2 x3 x4 => (h2.1 a x1 x2 x3 x4).trans (h1.1 a x1 x2 x3 x4), fun k x1 x2 x3 x4 => (h2.2.1 k x1 x2 x3 x4).trans (h1.2.1 k x1 x2 x3 x4), fun k x1 x2 x3 => (h2.2.2 k x1 x2 x3).trans (h1.2.2 k x1 x2 x3)⟩
theorem frT_P {s s' : Nat → Int → Int} (h1 : frP s s') : frT s s' := ⟨h1.1, h1.2.1, fun k x1 _ _ => h1.2.2 k x1⟩
theorem frT_19 {s : Nat → Int → Int} {k v : Int} (hk : k = 3 ∨ k = 4 ∨ k = 5) : frT s (uf s 19 k v) := ⟨fun a _ x2 _ _ => up_ne x2, fun j _ _ _ _ => rfl, fun j x1 x2 x3 => ud_ne (by omega)⟩
theorem frT_21 {s : Nat → Int → Int} {k v : Int} : frT s (uf s 21 k v) := ⟨fun a _ _ _ x4 => up_ne x4, fun j _ _ _ _ => rfl, fun j _ _ _ => rfl⟩
def CQ (T : Int → Int) (L : Nat) (s : Nat → Int → Int) (e st lp : Nat) (acc : C2) : Prop := CP T L false s e acc ∧ s 19 4 = st ∧ s 19 5 = 2 * (lp : Int)
theorem CQ_P {T : Int → Int} {L : Nat} {s s' : Nat → Int → Int} {e e' st lp : Nat} {acc acc' : C2} (hf : frP s s') (hc : CQ T L s e st lp acc) (hp : CP T L false s' e' acc') : CQ T L s' e' st lp acc' := ⟨hp, (hf.2.2 4 (by decide)).trans hc.2.1, (hf.2.2 5 (by decide)).trans hc.2.2⟩
theorem sgR_set {O A : Int → Int} {x y z : Int} : ∀ (a b : C2) (n : Nat), sgR O A n (a ++ (x, y) :: b) → sgR O (ud A ((n + a.length : Nat) : Int) z) n (a ++ (x, z) :: b)
  | [], b, n, h => ⟨h.1, ud_at, sgR_fr (n + 1) b h.2.2 (fun j j0 _ => ⟨rfl, ud_ne (by show ((j : Int)) ≠ ((n + 0 : Nat) : Int); omega)⟩)⟩
  | p :: a, b, n, h => by
    refine ⟨h.1, ?_, ?_⟩
    · show ud A ((n + (p :: a).length : Nat) : Int) z n = p.2
      rw [ud_ne (by rw [List.length_cons]; omega)]
      exact h.2.1
    · have := sgR_set (z := z) a b (n + 1) h.2.2
      rw [show n + 1 + a.length = n + (p :: a).length by rw [List.length_cons]; omega] at this
      exact this
def CSS (G : az_G) (h : az_H) (r : Nat → Int → Option Nat) (T : Int → Int) (L : Nat) (M : az_M) (D : Nat) (as : List az_V) (q : Nat → Nat → Nat → Nat → Nat → SR) : Prop := ∀ (s : Nat → Int → Int) (e st lp n : Nat) (acc : C2) (Q : Option az_V → az_H → Prop), e ≤ L → st ≤ 12 → lp ≤ st → CQ T L s e st lp acc → acc.length ≤ e → (∀ s', frT s s' → cTok T L s' (q e st lp n acc.length).2.1 → ((q e st lp n acc.length).1 = true → CQ T L s' (q e st lp n acc.length).2.1 (q e st lp n acc.length).2.2.1 (q e st lp n acc.length).2.2.2.1 (acc ++ (q e st lp n acc.length).2.2.2.2.2)) → Q (some (vi (if (q e st lp n acc.length).1 = true then 1 else 0))) (PS h s' r)) → cz G M D 0 0 (vo 19 :: as) (PS h s r) Q
section CT
variable {h : az_H} {s : Nat → Int → Int} {r : Nat → Int → Option Nat} {G : az_G} {d : Nat} {Q : Option az_V → az_H → Prop} {T : Int → Int} {L e st lp : Nat} {acc : C2}
theorem cExp8 (hs : ∀ s', strs (PS h s' r)) (hL : L ≤ 208) (ha : adv (lxC T L) (lxE T L) L) {ru : Bool} : CSp G h r T L ru mX5_readExpression (d + 53) [vi 0] (pE (lxC T L) (lxE T L) (lxN T L) ru 8) := by
  have := cE (G := G) (h := h) (r := r) (d := d) (T := T) (L := L) (ru := ru) hs hL ha 8 (Nat.le_refl _)
  exact this
theorem cEx (hs : ∀ s', strs (PS h s' r)) (hL : L ≤ 208) (ha : adv (lxC T L) (lxE T L) L) {K : az_H → Prop} (he : e ≤ L) (hc : CP T L false s e acc) (hl : acc.length ≤ e)
    (hf : (pEx (lxC T L) (lxE T L) (lxN T L) e).1 = false → ∀ s', frP s s' → cTok T L s' (pEx (lxC T L) (lxE T L) (lxN T L) e).2.1 → Q (some (vi 0)) (PS h s' r))
    (ho : (pEx (lxC T L) (lxE T L) (lxN T L) e).1 = true → ∀ s', frP s s' → CP T L false s' (pEx (lxC T L) (lxE T L) (lxN T L) e).2.1 (acc ++ (pEx (lxC T L) (lxE T L) (lxN T L) e).2.2.map tau) → K (PS h s' r)) :
    rcv (PS h s r) 19 5 (cz G mX5_readExpression (d + 53) 0 0 [vo 19, vi 0] (PS h s r) (fun v h1 => atI v (fun r2 => (if r2 = 0 then Q (some (vi 0)) h1 else rcv h1 19 5 (cz G mX5_pass (d + 53) 0 0 [vo 19, vi 59] h1 (fun v h3 => atI v (fun r4 => (if r4 = 0 then Q (some (vi 0)) h3 else K h3)))))))) := by
  rw [rc_19]
  refine cExp8 (d := d) hs hL ha s e acc _ he hc hl (fun s1 f1 t1 c1 => ?_)
  rw [atI_q]
  have hok := pE_ok (V := lxN T L) (ru := false) ha 8 e he
  unfold pEx at hf ho
  by_cases cR : (pE (lxC T L) (lxE T L) (lxN T L) false 8 e).1 = true
  · rw [if_pos cR] at hf ho
    rw [if_pos cR, if_neg (by decide), rc_19]
    refine cPass (d := d + 45) hs (c1 cR) hok.2.1 (fun k s2 f2 c2 => ?_) (fun k => ?_)
    · rw [if_pos k] at ho
      rw [atI_q, if_neg (by decide)]
      exact ho rfl s2 (frP_tr f1 f2) c2
    · rw [if_neg k] at hf
      rw [atI_q, if_pos rfl]
      exact hf rfl s1 f1 t1
  · rw [if_neg cR] at hf
    rw [if_neg cR, if_pos rfl]
    exact hf rfl s1 f1 t1
theorem cLeaves (hc : CQ T L s e st lp acc) (hl : acc.length < 208) (hlp : lp ≤ 12) (hq : ∀ s', frT s s' → CQ T L s' e st (lp + 1) (acc ++ [(18, 2 * (lp : Int))]) → Q none (PS h s' r)) : cz G mX5_addLeaves (d + 1) 0 0 [vo 19] (PS h s r) Q := by
  refine vX5_addLeaves ?_
  rw [ri_19_5, hc.2.2, rc_19]
  refine cAdd hc.1 hl (fun s1 f1 c1 => ?_)
  rw [atV_q, ri_19_5, (f1.2.2 5 (by decide)).trans hc.2.2, wi_19_5, show w32 (2 * (lp : Int) + 2) = 2 * ((lp + 1 : Nat) : Int) by rw [w32_id] <;> omega]
  exact hq _ (frT_tr (frT_P f1) (frT_19 (by decide))) ⟨c1, (f1.2.2 4 (by decide)).trans hc.2.1, rfl⟩
theorem cel_7 {c : Int} : (cel c < 0 ↔ cel7 c < 0) ∧ (0 ≤ cel7 c → (cel7 c < 6 ↔ ¬ (c = 112 ∨ c = 113))) := by
  unfold cel cel7
  constructor
  · repeat' split
    all_goals omega
  · repeat' split
    all_goals omega
/-- the class reads an if -/
theorem cReadIf (hs : ∀ s', strs (PS h s' r)) (hL : L ≤ 208) (ha : adv (lxC T L) (lxE T L) L) {k : Nat} {x1 : Int} (hk : x1 = 3 - (k : Int)) (hk3 : k ≤ 3) {inner : Nat → Nat → Nat → Nat → Nat → SR} (hin : okS L inner) (hp : CSS G h r T L mX5_readStatements (d + 53) [vi (x1 + 1)] inner)
    {n : Nat} (he : e ≤ L) (hst : st + 1 ≤ 12) (hlp : lp ≤ st) (hc3 : lxC T L e = 3) (hc : CQ T L s (lxE T L e) (st + 1) lp acc) (hl : acc.length ≤ e)
    (hq : ∀ s', frT s s' → cTok T L s' (pIf (lxC T L) (lxE T L) (lxN T L) inner e st lp n acc.length).2.1 → ((pIf (lxC T L) (lxE T L) (lxN T L) inner e st lp n acc.length).1 = true → CQ T L s' (pIf (lxC T L) (lxE T L) (lxN T L) inner e st lp n acc.length).2.1 (pIf (lxC T L) (lxE T L) (lxN T L) inner e st lp n acc.length).2.2.1 (pIf (lxC T L) (lxE T L) (lxN T L) inner e st lp n acc.length).2.2.2.1 (acc ++ (pIf (lxC T L) (lxE T L) (lxN T L) inner e st lp n acc.length).2.2.2.2.2)) → Q (some (vi (if (pIf (lxC T L) (lxE T L) (lxN T L) inner e st lp n acc.length).1 = true then 1 else 0))) (PS h s' r)) :
    cz G mX5_readIf (d + 54) 0 0 [vo 19, vi x1] (PS h s r) Q := by
  have a1 := ha.2 e he (by rw [hc3]; decide)
  have hok := pE_ok (V := lxN T L) (ru := false) ha 8 (lxE T L e) a1.2
  refine vX5_readIf ?_
  rw [rc_19]
  refine cExp8 (d := d) hs hL ha s (lxE T L e) acc _ a1.2 hc.1 (by omega) (fun s1 f1 t1 c1 => ?_)
  rw [atI_q]
  unfold pIf at hq
  generalize pE (lxC T L) (lxE T L) (lxN T L) false 8 (lxE T L e) = R at hok t1 c1 hq ⊢
  by_cases cR : R.1 = true
  rotate_left
  · rw [if_neg cR] at hq
    rw [if_neg cR, if_pos rfl]
    exact hq s1 (frT_P f1) t1 (fun z => by cases z)
  rw [if_pos cR] at hq
  have h3 := hok.2.2 cR
  rw [if_pos cR, if_neg (by decide), rc_19]
  have q1 := CQ_P f1 hc (c1 cR)
  refine cPass (d := d + 45) hs (c1 cR) hok.2.1 (fun k123 s2 f2 c2 => ?_) (fun k123 => ?_)
  rotate_left
  · rw [if_neg k123] at hq
    rw [atI_q, if_pos rfl]
    exact hq s1 (frT_P f1) t1 (fun z => by cases z)
  rw [if_pos k123] at hq
  have a2 := ha.2 _ hok.2.1 (by rw [k123]; decide)
  have q2 := CQ_P f2 q1 c2
  rw [atI_q, if_neg (by decide), rc_19]
  have len1 : (acc ++ R.2.2.map tau).length = acc.length + R.2.2.length := by rw [List.length_append, List.length_map]
  refine cLeaves (d := d + 52) q2 (by omega) (by omega) (fun s3 f3 q3 => ?_)
  rw [atV_q, ri_19_3, q3.1.2.2.1, rc_19]
  have len2 : (acc ++ R.2.2.map tau ++ [(18, 2 * (lp : Int))]).length = acc.length + R.2.2.length + 1 := by rw [List.length_append, len1, List.length_singleton]
  rw [len2]
  refine cAdd q3.1 (by omega) (fun s4 f4 c4 => ?_)
  have q4 := CQ_P f4 q3 c4
  have len3 : (acc ++ R.2.2.map tau ++ [(18, 2 * (lp : Int))] ++ [((20 : Int), (0 : Int))]).length = acc.length + R.2.2.length + 2 := by rw [List.length_append, len2, List.length_singleton]
  rw [atV_q, rc_19, show w32 (x1 + 1) = x1 + 1 by rw [w32_id] <;> omega]
  refine hp s4 (lxE T L R.2.1) (st + 1) (lp + 1) (n + R.2.2.length + 1) _ _ a2.2 hst (by omega) q4 (by omega) (fun s5 f5 t5 c5 => ?_)
  rw [atI_q]
  rw [len3] at t5 c5 ⊢
  have hio := hin (lxE T L R.2.1) (st + 1) (lp + 1) (n + R.2.2.length + 1) (acc.length + R.2.2.length + 2) a2.2 hst (by omega)
  generalize inner (lxE T L R.2.1) (st + 1) (lp + 1) (n + R.2.2.length + 1) (acc.length + R.2.2.length + 2) = S at t5 c5 hq hio ⊢
  have fr5 : frT s s5 := frT_tr (frT_P f1) (frT_tr (frT_P f2) (frT_tr f3 (frT_tr (frT_P f4) f5)))
  unfold pIf2 at hq
  by_cases cS : S.1 = true
  rotate_left
  · rw [if_neg cS] at hq
    rw [if_neg cS, if_pos rfl]
    exact hq s5 fr5 t5 (fun z => by cases z)
  rw [if_pos cS] at hq
  have h5 := hio.2.2 cS
  have q5 := c5 cS
  rw [if_pos cS, if_neg (by decide), rc_19]
  refine cPass (d := d + 45) hs q5.1 hio.2.1 (fun k125 s6 f6 c6 => ?_) (fun k125 => ?_)
  rotate_left
  · rw [if_neg k125] at hq
    rw [atI_q, if_pos rfl]
    exact hq s5 fr5 t5 (fun z => by cases z)
  rw [if_pos k125] at hq
  have q6 := CQ_P f6 q5 c6
  have len4 : (acc ++ R.2.2.map tau ++ [(18, 2 * (lp : Int))] ++ [((20 : Int), (0 : Int))] ++ S.2.2.2.2.2).length = acc.length + R.2.2.length + 2 + S.2.2.2.2.2.length := by rw [List.length_append, len3]
  rw [atI_q, if_neg (by decide), ro_19_2, al_21, if_neg (by omega), ro_19_2, ri_19_3, c6.2.2.1, len4, st_21]
  refine ⟨by omega, by omega, ?_⟩
  refine hq _ (frT_tr fr5 (frT_tr (frT_P f6) frT_21)) q6.1.2.1 (fun _ => ⟨⟨cTx_P (frP_tr f6 ⟨fun a _ _ _ x4 => up_ne x4, fun _ _ _ _ _ => rfl, fun _ _ => rfl⟩) q5.1.1, q6.1.2.1, ?_, ?_, q6.1.2.2.2.2⟩, q6.2.1, q6.2.2⟩)
  · show s6 19 3 = _
    rw [c6.2.2.1, len4]
    show _ = ((acc ++ (R.2.2.map tau ++ (18, 2 * (lp : Int)) :: (20, _) :: S.2.2.2.2.2)).length : Int)
    rw [List.length_append, List.length_append, List.length_map, List.length_cons, List.length_cons]
    omega
  · show sgR (s6 20) (ud (s6 21) ((acc.length + R.2.2.length + 1 : Nat) : Int) ((acc.length + R.2.2.length + 2 + S.2.2.2.2.2.length : Nat) : Int)) 0 (acc ++ (R.2.2.map tau ++ (18, 2 * (lp : Int)) :: (20, ((acc.length + R.2.2.length + 2 + S.2.2.2.2.2.length : Nat) : Int)) :: S.2.2.2.2.2))
    have g := q6.1.2.2.2.1
    rw [show acc ++ R.2.2.map tau ++ [(18, 2 * (lp : Int))] ++ [((20 : Int), (0 : Int))] ++ S.2.2.2.2.2 = (acc ++ R.2.2.map tau ++ [(18, 2 * (lp : Int))]) ++ (20, 0) :: S.2.2.2.2.2 by simp only [List.append_assoc, List.cons_append, List.nil_append]] at g
    have g2 := sgR_set (z := ((acc.length + R.2.2.length + 2 + S.2.2.2.2.2.length : Nat) : Int)) _ _ 0 g
    rw [len2, Nat.zero_add] at g2
    rw [show acc ++ (R.2.2.map tau ++ (18, 2 * (lp : Int)) :: (20, ((acc.length + R.2.2.length + 2 + S.2.2.2.2.2.length : Nat) : Int)) :: S.2.2.2.2.2) = (acc ++ R.2.2.map tau ++ [(18, 2 * (lp : Int))]) ++ (20, ((acc.length + R.2.2.length + 2 + S.2.2.2.2.2.length : Nat) : Int)) :: S.2.2.2.2.2 by simp only [List.append_assoc, List.cons_append, List.nil_append]]
    exact g2
/-- the class reads a statement -/
theorem cReadSt (hs : ∀ s', strs (PS h s' r)) (hL : L ≤ 208) (ha : adv (lxC T L) (lxE T L) L) {k : Nat} {x1 : Int} (hk : x1 = 4 - (k : Int)) (hk4 : k ≤ 4) {inner : Nat → Nat → Nat → Nat → Nat → SR} (hin : okS L inner) (hp : 0 < k → CSS G h r T L mX5_readStatements (d + 53) [vi (x1 + 1)] inner) : CSS G h r T L mX5_readStatement (d + 55) [vi x1] (pSt (lxC T L) (lxE T L) (lxN T L) k inner) := by
  intro s e st lp n acc Q he hst hlp hc hl hq
  unfold pSt at hq
  have hx1 : (x1 < 4 ↔ 0 < k) := by omega
  -- behind the first token
  have go68 : ∀ (x3 x4 : Int), ¬ 12 ≤ st → (x3 = 1 ∧ 0 ≤ cel7 (lxC T L e) ∧ x4 = 0 ∨ x3 = 0 ∧ cel7 (lxC T L e) < 0 ∧ (x4 = 0 ∧ (lxC T L e = 2 ∨ lxC T L e = 4) ∨ x4 = 1 ∧ lxC T L e = 3 ∧ 0 < k)) → pX5_readStatement_68 G (d + 54) 19 x1 (lxC T L e) x3 x4 (PS h s r) Q := by
    intro x3 x4 n12 hcase
    rw [if_neg n12] at hq
    have hne : lxC T L e ≠ 0 := by
      rcases hcase with z | z
      · exact (cel7_ne z.2.1).1
      · omega
    have a1 := ha.2 e he hne
    refine vX5_readStatement_68 ?_
    rw [ri_19_4, hc.2.1, wi_19_4, ro_19_0, rc_17, show w32 ((st : Int) + 1) = ((st + 1 : Nat) : Int) by rw [w32_id] <;> omega]
    have hc1 : CP T L false (uf s 19 4 ((st + 1 : Nat) : Int)) e acc := hc.1
    refine cNext (d := d + 47) hs hc1 he (fun s1 f1 c1 => ?_)
    rw [atV_q]
    have fr1 : frT s s1 := frT_tr (frT_19 (by decide)) (frT_P f1)
    have q1 : CQ T L s1 (lxE T L e) (st + 1) lp acc := ⟨c1, (f1.2.2 4 (by decide)).trans rfl, (f1.2.2 5 (by decide)).trans hc.2.2⟩
    rcases hcase with ⟨z1, z2, z3⟩ | ⟨z1, z2, z3⟩
    · -- a cell
      subst z1; subst z3
      rw [if_pos z2] at hq
      unfold pSet at hq
      rw [if_pos rfl, if_neg (by decide), rc_19]
      refine cPass (d := d + 46) hs c1 a1.2 (fun k61 s2 f2 c2 => ?_) (fun k61 => ?_)
      rotate_left
      · rw [if_neg k61] at hq
        rw [atI_q, if_pos rfl]
        exact hq s1 fr1 c1.2.1 (fun z => by cases z)
      rw [if_pos k61] at hq
      have a2 := ha.2 _ a1.2 (by rw [k61]; decide)
      have hxo := pEx_ok (V := lxN T L) ha _ a2.2
      rw [atI_q, if_neg (by decide)]
      refine vX5_readStatement_111 ?_
      refine cEx (d := d + 1) hs hL ha a2.2 c2 (by omega) (fun cf s3 f3 t3 => ?_) (fun co s3 f3 c3 => ?_)
      · rw [if_neg (by rw [cf]; decide)] at hq
        exact hq s3 (frT_tr fr1 (frT_tr (frT_P f2) (frT_P f3))) t3 (fun z => by cases z)
      rw [if_pos co] at hq
      have h4 := hxo.2.2 co
      have q3 := CQ_P f3 (CQ_P f2 q1 c2) c3
      rw [if_neg (by decide)]
      have len : (acc ++ (pEx (lxC T L) (lxE T L) (lxN T L) (lxE T L (lxE T L e))).2.2.map tau).length < 208 := by rw [List.length_append, List.length_map]; omega
      refine sX5_isOwn (fun ko => ?_) (fun ko => ?_)
      · rw [atI_q, if_neg (by decide)]
        refine sX5_cellOf ?_
        rw [atI_q, rc_19]
        refine cAdd q3.1 len (fun s4 f4 c4 => ?_)
        rw [atV_q]
        refine hq s4 (frT_tr fr1 (frT_tr (frT_P f2) (frT_tr (frT_P f3) (frT_P f4)))) c4.2.1 (fun _ => ?_)
        rw [if_neg (fun z => absurd ko ((cel_7.2 z2).mp z)), ← List.append_assoc]
        exact CQ_P f4 q3 c4
      · rw [atI_q, if_pos rfl]
        refine sX5_cellOf ?_
        rw [atI_q, rc_19]
        refine cAdd q3.1 len (fun s4 f4 c4 => ?_)
        rw [atV_q]
        refine hq s4 (frT_tr fr1 (frT_tr (frT_P f2) (frT_tr (frT_P f3) (frT_P f4)))) c4.2.1 (fun _ => ?_)
        rw [if_pos ((cel_7.2 z2).mpr ko), ← List.append_assoc]
        exact CQ_P f4 q3 c4
    · subst z1
      rw [if_neg (by omega)] at hq
      rcases z3 with ⟨y1, y2⟩ | ⟨y1, y2, y3⟩
      · subst y1
        rw [if_pos rfl, if_pos rfl]
        have hxo := pEx_ok (V := lxN T L) ha _ a1.2
        refine vX5_readStatement_111 ?_
        by_cases c2 : lxC T L e = 2
        · rw [if_pos c2] at hq
          unfold pNeed at hq
          refine cEx (d := d + 1) hs hL ha a1.2 c1 (by omega) (fun cf s3 f3 t3 => ?_) (fun co s3 f3 c3 => ?_)
          · rw [if_neg (by rw [cf]; decide)] at hq
            exact hq s3 (frT_tr fr1 (frT_P f3)) t3 (fun z => by cases z)
          rw [if_pos co] at hq
          have h4 := hxo.2.2 co
          have q3 := CQ_P f3 q1 c3
          rw [if_pos rfl, if_pos c2, rc_19]
          refine cLeaves (d := d + 53) q3 (by rw [List.length_append, List.length_map]; omega) (by omega) (fun s4 f4 q4 => ?_)
          rw [atV_q, rc_19]
          refine cAdd q4.1 (by rw [List.length_append, List.length_append, List.length_map, List.length_singleton]; omega) (fun s5 f5 c5 => ?_)
          rw [atV_q]
          refine hq s5 (frT_tr fr1 (frT_tr (frT_P f3) (frT_tr f4 (frT_P f5)))) c5.2.1 (fun _ => ?_)
          have := CQ_P f5 q4 c5
          rw [List.append_assoc, List.append_assoc] at this
          exact this
        · have c4 : lxC T L e = 4 := by omega
          rw [if_neg c2, if_pos c4] at hq
          unfold pPay at hq
          refine cEx (d := d + 1) hs hL ha a1.2 c1 (by omega) (fun cf s3 f3 t3 => ?_) (fun co s3 f3 c3 => ?_)
          · rw [if_neg (by rw [cf]; decide)] at hq
            exact hq s3 (frT_tr fr1 (frT_P f3)) t3 (fun z => by cases z)
          rw [if_pos co] at hq
          have h4 := hxo.2.2 co
          have q3 := CQ_P f3 q1 c3
          rw [if_pos rfl, if_neg c2, rc_19]
          refine cAdd q3.1 (by rw [List.length_append, List.length_map]; omega) (fun s5 f5 c5 => ?_)
          rw [atV_q]
          refine hq s5 (frT_tr fr1 (frT_tr (frT_P f3) (frT_P f5))) c5.2.1 (fun _ => ?_)
          have := CQ_P f5 q3 c5
          rw [List.append_assoc] at this
          exact this
      · subst y1
        rw [if_neg (by omega), if_neg (by omega), if_pos ⟨y2, y3⟩] at hq
        rw [if_neg (by decide), rc_19]
        refine cReadIf (d := d) (k := k - 1) (n := n) hs hL ha (by omega) (by omega) hin (hp y3) he (by omega) hlp y2 q1 hl (fun s2 f2 t2 c2 => ?_)
        rw [atI_q]
        refine ⟨by split <;> simp [az_fit], hq s2 (frT_tr fr1 f2) t2 c2⟩
  have bad : cel7 (lxC T L e) < 0 → lxC T L e ≠ 2 → lxC T L e ≠ 4 → ¬ (lxC T L e = 3 ∧ 0 < k) → Q (some (vi 0)) (PS h s r) := by
    intro b1 b2 b3 b4
    by_cases n12 : 12 ≤ st
    · rw [if_pos n12] at hq
      exact hq s frT_rf hc.1.2.1 (fun z => by cases z)
    · rw [if_neg n12, if_neg (by omega), if_neg b2, if_neg b3, if_neg b4] at hq
      exact hq s frT_rf hc.1.2.1 (fun z => by cases z)
  have full : 12 ≤ st → Q (some (vi 0)) (PS h s r) := by
    intro n12
    rw [if_pos n12] at hq
    exact hq s frT_rf hc.1.2.1 (fun z => by cases z)
  refine vX5_readStatement ?_
  rw [ro_19_0, rc_17]
  refine cToken hc.1 ?_
  rw [atI_q]
  refine sX5_cellOf ?_
  rw [atI_q]
  clear hq
  generalize lxC T L e = c at go68 bad ⊢
  have g36 : ∀ x3 x4 : Int, (x3 = 1 ∧ 0 ≤ cel7 c ∧ x4 = 0 ∨ x3 = 0 ∧ cel7 c < 0 ∧ (x4 = 0 ∧ (c ≠ 3 ∨ ¬ 0 < k) ∨ x4 = 1 ∧ c = 3 ∧ 0 < k)) → pX5_readStatement_36 G (d + 54) 19 x1 c x3 x4 (PS h s r) Q := by
    intro x3 x4 hcase
    refine vX5_readStatement_36 ?_
    rw [ri_19_4, hc.2.1]
    by_cases n12 : 12 ≤ st
    · rw [if_pos (by omega)]; exact full n12
    rw [if_neg (by omega)]
    rcases hcase with ⟨z1, z2, z3⟩ | ⟨z1, z2, z3⟩
    · subst z1
      rw [if_neg (by decide)]
      exact go68 1 x4 n12 (Or.inl ⟨rfl, z2, z3⟩)
    · subst z1
      rw [if_pos rfl]
      rcases z3 with ⟨y1, y2⟩ | ⟨y1, y2⟩
      · subst y1
        rw [if_pos rfl]
        by_cases c2 : c = 2
        · rw [if_pos c2]; exact go68 0 0 n12 (Or.inr ⟨rfl, z2, Or.inl ⟨rfl, Or.inl c2⟩⟩)
        rw [if_neg c2]
        by_cases c4 : c = 4
        · rw [if_pos c4]; exact go68 0 0 n12 (Or.inr ⟨rfl, z2, Or.inl ⟨rfl, Or.inr c4⟩⟩)
        rw [if_neg c4]
        exact bad z2 c2 c4 (by omega)
      · subst y1
        rw [if_neg (by decide)]
        exact go68 0 1 n12 (Or.inr ⟨rfl, z2, Or.inr ⟨rfl, y2⟩⟩)
  have c7 := (cel_7 (c := c)).1
  by_cases cc : cel c < 0
  · rw [if_pos cc]
    have cc7 := c7.mp cc
    by_cases c3 : c = 3
    · rw [if_pos c3]
      by_cases c4 : 4 ≤ x1
      · rw [if_pos c4]; exact g36 0 0 (Or.inr ⟨rfl, cc7, Or.inl ⟨rfl, Or.inr (by omega)⟩⟩)
      · rw [if_neg c4]; exact g36 0 1 (Or.inr ⟨rfl, cc7, Or.inr ⟨rfl, c3, by omega⟩⟩)
    · rw [if_neg c3]; exact g36 0 0 (Or.inr ⟨rfl, cc7, Or.inl ⟨rfl, Or.inl c3⟩⟩)
  · rw [if_neg cc]
    have cc7 : 0 ≤ cel7 c := by omega
    have n3 := cel7_ne cc7
    rw [if_neg (by omega)]
    exact g36 1 0 (Or.inl ⟨rfl, cc7, rfl⟩)
theorem cStmts (hs : ∀ s', strs (PS h s' r)) (hL : L ≤ 208) (ha : adv (lxC T L) (lxE T L) L) {k : Nat} {x1 : Int} (hk : x1 = 4 - (k : Int)) (hk4 : k ≤ 4) {inner : Nat → Nat → Nat → Nat → Nat → SR} (hin : okS L inner) (hp : 0 < k → CSS G h r T L mX5_readStatements (d + 53) [vi (x1 + 1)] inner) : CSS G h r T L mX5_readStatements (d + 56) [vi x1] (fun e st lp n m => pStL (lxC T L) (lxE T L) (lxN T L) k inner 13 e st lp n m [] []) := by
  intro s e st lp n acc Q he hst hlp hc hl hq
  refine vX5_readStatements ?_
  dsimp only at hq
  obtain ⟨RR, hRR⟩ : ∃ RR, pStL (lxC T L) (lxE T L) (lxN T L) k inner 13 e st lp n acc.length [] [] = RR := ⟨_, rfl⟩
  simp only [hRR] at hq
  have lp1 : ∀ (f e1 st1 lp1 n1 : Nat) (a3 : C3) (a2 : C2) (s1 : Nat → Int → Int), f ≤ 13 → e1 ≤ L → st1 ≤ 12 → lp1 ≤ st1 → frT s s1 → CQ T L s1 e1 st1 lp1 (acc ++ a2) → e + a2.length ≤ e1 → pStL (lxC T L) (lxE T L) (lxN T L) k inner f e1 st1 lp1 n1 (acc.length + a2.length) a3 a2 = RR → pX5_readStatements_2 G (d + 55) 19 x1 (13 - (f : Int)) (PS h s1 r) Q := by
    intro f
    induction f with
    | zero =>
      intro e1 st1 lp1 n1 a3 a2 s1 hf he1 hst1 hlp1 f1 c1 hle heq
      refine vX5_readStatements_2 ?_
      rw [if_pos (by omega)]
      rw [← heq] at hq
      exact hq s1 f1 c1.1.2.1 (fun z => by cases z)
    | succ f ih =>
      intro e1 st1 lp1 n1 a3 a2 s1 hf he1 hst1 hlp1 f1 c1 hle heq
      refine vX5_readStatements_2 ?_
      rw [if_neg (by omega), ro_19_0, rc_17]
      refine cToken c1.1 ?_
      rw [atI_q]
      unfold pStL at heq
      by_cases cE : lxC T L e1 = 0 ∨ lxC T L e1 = 125
      · rw [if_pos cE] at heq
        rw [← heq] at hq
        have fin := hq s1 f1 c1.1.2.1 (fun _ => c1)
        by_cases c0 : lxC T L e1 = 0
        · rw [if_pos c0]; exact fin
        · rw [if_neg c0, ro_19_0, rc_17]
          refine cToken c1.1 ?_
          rw [atI_q, if_pos (by omega)]
          exact fin
      rw [if_neg cE] at heq
      rw [if_neg (by omega), ro_19_0, rc_17]
      refine cToken c1.1 ?_
      rw [atI_q, if_neg (by omega), rc_19]
      have hpo := pSt_ok (V := lxN T L) ha (k := k) hin e1 st1 lp1 n1 (acc.length + a2.length) he1 hst1 hlp1
      refine cReadSt (d := d) hs hL ha hk hk4 hin hp s1 e1 st1 lp1 n1 (acc ++ a2) _ he1 hst1 hlp1 c1 (by rw [List.length_append]; omega) (fun s2 f2 t2 c2 => ?_)
      rw [atI_q]
      rw [List.length_append] at t2 c2 ⊢
      generalize pSt (lxC T L) (lxE T L) (lxN T L) k inner e1 st1 lp1 n1 (acc.length + a2.length) = S at hpo t2 c2 heq ⊢
      by_cases cS : S.1 = true
      · rw [if_pos cS] at heq
        have h2 := hpo.2.2 cS
        rw [if_pos cS, if_neg (by decide), show w32 (13 - ((f + 1 : Nat) : Int) + 1) = 13 - (f : Int) by rw [w32_id] <;> omega]
        refine ih S.2.1 S.2.2.1 S.2.2.2.1 (n1 + S.2.2.2.2.1.length) (a3 ++ S.2.2.2.2.1) (a2 ++ S.2.2.2.2.2) s2 (by omega) hpo.2.1 h2.2.1 h2.2.2.1 (frT_tr f1 f2) (by rw [← List.append_assoc]; exact c2 cS) (by rw [List.length_append]; omega) ?_
        rw [List.length_append, ← Nat.add_assoc]
        exact heq
      · rw [if_neg cS] at heq
        rw [← heq] at hq
        rw [if_neg cS, if_pos rfl]
        exact hq s2 (frT_tr f1 f2) t2 (fun z => by cases z)
  exact lp1 13 e st lp n [] [] s (Nat.le_refl _) he hst hlp frT_rf (by rw [List.append_nil]; exact hc) (by rw [List.length_nil]; omega) hRR
theorem cSS (hs : ∀ s', strs (PS h s' r)) (hL : L ≤ 208) (ha : adv (lxC T L) (lxE T L) L) : ∀ k : Nat, k ≤ 4 → CSS G h r T L mX5_readStatements (d + 56 + 3 * k) [vi (4 - (k : Int))] (pSS (lxC T L) (lxE T L) (lxN T L) k)
  | 0, _ => cStmts (d := d) (k := 0) hs hL ha rfl (by decide) (fun e st lp n m he _ _ => fl_ok (Nat.le_refl _) he) (fun z => absurd z (by decide))
  | k + 1, hk => by
    have ih := cSS hs hL ha k (by omega)
    have := cStmts (G := G) (h := h) (r := r) (T := T) (L := L) (d := d + 3 * k + 3) (k := k + 1) (x1 := 4 - ((k + 1 : Nat) : Int)) hs hL ha rfl hk (pSS_ok (V := lxN T L) ha k) (fun _ => by
      rw [show (4 : Int) - ((k + 1 : Nat) : Int) + 1 = 4 - (k : Int) by omega, show d + 3 * k + 3 + 53 = d + 56 + 3 * k by omega]
      exact ih)
    rw [show d + 3 * k + 3 + 56 = d + 56 + 3 * (k + 1) by omega] at this
    exact this
end CT
