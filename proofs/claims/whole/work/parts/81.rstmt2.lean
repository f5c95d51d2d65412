/-! TEXTS: the reference reads statements -/
section PW
variable {C : Nat → Int} {X : Nat → Nat} {V : Nat → Int} {ru : Bool}
def alW (q : Nat → PR) : Prop := ∀ e, ∀ p ∈ (q e).2.2, 1 ≤ p.1 ∧ p.1 ≤ 18
theorem pOp_w {e : Nat} {o : Int × Int} (h : pOp C V ru e = some o) : 1 ≤ o.1 ∧ o.1 ≤ 8 := by
  unfold pOp at h
  repeat' split at h
  all_goals first | (cases h; done) | (have h1 := congrArg Prod.fst (Option.some.inj h); dsimp only at h1; omega)
theorem z0_w {ps : List Int} (h : ∀ x ∈ ps, x = 9 ∨ x = 10) : ∀ p ∈ z0 ps, p.1 = 9 ∨ p.1 = 10 := by
  intro p hp
  obtain ⟨x, hx, rfl⟩ := List.mem_map.mp hp
  exact h x hx
theorem pFac_w {k : Nat} {pp : Nat → PR} (hp : alW pp) : alW (pFac C X V ru k pp) := by
  intro e p hpm
  have hm := pPre_mem (C := C) (X := X) 8 e [] (fun x hx => by cases hx)
  unfold pFac at hpm
  generalize pPre C X 8 e [] = q at hm hpm
  by_cases c : (pAtm C X V ru k pp q.1).1 = true
  · rw [if_pos c] at hpm
    rcases List.mem_append.mp hpm with z | z
    · unfold pAtm at z
      by_cases c40 : C q.1 = 40
      · rw [if_pos c40] at z
        unfold pPar at z
        split at z
        · cases z
        split at z
        · split at z
          · exact hp _ p z
          · cases z
        · cases z
      · rw [if_neg c40] at z
        cases ho : pOp C V ru q.1 with
        | none => rw [ho] at z; cases z
        | some o =>
          rw [ho] at z
          have := List.mem_singleton.mp z
          subst this
          have := pOp_w ho
          omega
    · have := z0_w hm p z
      omega
  · rw [if_neg c] at hpm
    cases hpm
theorem pLp_w {l : Int} {q : Nat → PR} (hq : alW q) : ∀ (f e : Nat) (cd : C2), (∀ p ∈ cd, 1 ≤ p.1 ∧ p.1 ≤ 18) → ∀ p ∈ (pLp C X l q f e cd).2.2, 1 ≤ p.1 ∧ p.1 ≤ 18
  | 0, _, _, h => h
  | f + 1, e, cd, h => by
    unfold pLp
    by_cases c : opl l (C e) = 0
    · rw [if_pos c]; exact h
    rw [if_neg c]
    by_cases cq : (q (X e)).1 = true
    · rw [if_pos cq]
      refine pLp_w hq f _ _ (fun p hp => ?_)
      rcases List.mem_append.mp hp with z | z
      · rcases List.mem_append.mp z with y | y
        · exact h p y
        · exact hq _ p y
      · have := List.mem_singleton.mp z
        subst this
        have h1 := opl_n c
        have h2 := stO_rg (C e)
        show 1 ≤ opl l (C e) ∧ opl l (C e) ≤ 18
        omega
    · rw [if_neg cq]; intro p hp; cases hp
theorem pBin_w {l : Int} {q : Nat → PR} (hq : alW q) : alW (pBin C X l q) := by
  intro e
  unfold pBin
  split
  · exact pLp_w hq 208 _ _ (hq e)
  · intro p hp; cases hp
theorem pExp_w {q : Nat → PR} (hq : alW q) : alW (pExp C X q) := by
  intro e p hp
  unfold pExp at hp
  split at hp
  · split at hp
    · split at hp
      · rcases List.mem_append.mp hp with z | z
        · rcases List.mem_append.mp z with y | y
          · exact hq _ p y
          · exact hq _ p y
        · have := List.mem_singleton.mp z
          subst this
          have h2 := stO_rg (C (q e).2.1)
          show 1 ≤ stO (C (q e).2.1) ∧ stO (C (q e).2.1) ≤ 18
          omega
      · cases hp
    · exact hq e p hp
  · cases hp
theorem pE_w : ∀ k, alW (pE C X V ru k)
  | 0 => pExp_w (pBin_w (pBin_w (pFac_w (fun e p hp => by cases hp))))
  | k + 1 => pExp_w (pBin_w (pBin_w (pFac_w (pE_w k))))
end PW
theorem RM_fin {s s5 : Nat → Int → Int} {o : C3} {c1 : C2} {a b g : Int} (f58 : s5 58 = s 58) (hg : glR (shf (s 58)) 0 o) (hw : ∀ p ∈ c1, 1 ≤ p.1 ∧ p.1 ≤ 18) (ha : a = 23 → shf (s 58) ((o.length + c1.length : Nat) : Int) = g) (n5 : s5 59 14 = ((o.length + c1.length + 1 : Nat) : Int)) (g5 : sgR (shf (s5 56)) (shf (s5 57)) 0 (pr2 o ++ c1 ++ [(a, b)])) : s5 59 14 = (o ++ (e3 c1 ++ [(a, b, g)])).length ∧ sgR (shf (s5 56)) (shf (s5 57)) 0 (pr2 (o ++ (e3 c1 ++ [(a, b, g)]))) ∧ glR (shf (s5 58)) 0 (o ++ (e3 c1 ++ [(a, b, g)])) := by
  refine ⟨?_, ?_, ?_⟩
  · rw [n5, List.length_append, List.length_append, e3_len, List.length_singleton]
    omega
  · rw [pr2_app, pr2_app, pr2_e3, ← List.append_assoc]
    exact g5
  · rw [f58, glR_app, glR_app]
    refine ⟨hg, glR_e3 c1 _ (fun p hp => ?_), ⟨fun z => ?_, trivial⟩⟩
    · have := hw p hp
      omega
    · rw [e3_len, Nat.zero_add]
      exact ha z
theorem w32_s {n : Nat} (hn : n ≤ 1000) : w32 ((n : Int) + 1) = ((n + 1 : Nat) : Int) := by rw [w32_id] <;> omega
theorem w32_z {n : Nat} (hn : n ≤ 1000) : w32 ((n : Int) + 0) = (n : Int) := by rw [w32_id] <;> omega
section RS
variable {h : az_H} {s : Nat → Int → Int} {r : Nat → Int → Option Nat} {G : az_G} {d : Nat} {Q : Option az_V → az_H → Prop} {T : Int → Int} {L e st lp op : Nat} {o : C3}
theorem rExp0 {c : C2} (hx : rTx T L s) (he : e ≤ L) (t : rTok T L s e) (h14 : s 54 14 = 0) (ho : s 59 14 = c.length) (hg : sgR (shf (s 56)) (shf (s 57)) 0 c) (hl : c.length ≤ e) {R : PR} (hR : pE (lxC T L) (lxE T L) (lxN T L) false 8 e = R)
    (hq : ∀ s', frU s s' → rTok T L s' R.2.1 → (R.1 = true → s' 54 14 = 0 ∧ s' 59 14 = (c ++ R.2.2).length ∧ sgR (shf (s' 56)) (shf (s' 57)) 0 (c ++ R.2.2)) → (R.1 = false → s' 54 14 = 1 ∧ ∃ n : Nat, s' 59 14 = n ∧ n ≤ 210) → Q none (PS h s' r)) : cz G mX11_expression (d + 4) 0 0 [vo 54, vi 0] (PS h s r) Q := by
  subst hR
  exact sX11_expression (ru := false) hx he t h14 ho hg hl hq
/-- need and pay -/
theorem r89 {c1 : C2} {e2 : Nat} {okb : Bool} {s2 : Nat → Int → Int} {w : Int} (hw : w = 1852138852 ∨ w ≠ 1852138852) (hx : rTx T L s2) (he2 : e2 ≤ L) (t2 : rTok T L s2 e2) (hlen : o.length + c1.length ≤ e2) (hcw : ∀ p ∈ c1, 1 ≤ p.1 ∧ p.1 ≤ 18) (h18 : s2 54 18 = ((st + 1 : Nat) : Int)) (h21 : s2 54 21 = lp) (h19 : s2 54 19 = op) (hlp : lp ≤ 12) (hg58 : glR (shf (s2 58)) 0 o)
    (hok : okb = true → s2 54 14 = 0 ∧ s2 59 14 = (pr2 o ++ c1).length ∧ sgR (shf (s2 56)) (shf (s2 57)) 0 (pr2 o ++ c1)) (hbad : okb = false → s2 54 14 = 1 ∧ ∃ n : Nat, s2 59 14 = n ∧ n ≤ 210)
    (hS : okb = true → lxC T L e2 = 59 → ∀ s', frQ s2 s' → s' 63 = s2 63 → RM T L s' (lxE T L e2) (st + 1) (if w = 1852138852 then lp + 1 else lp) (o ++ (e3 c1 ++ [(if w = 1852138852 then 20 else 22, (lp : Int), 0)])) op → Q none (PS h s' r))
    (hF : (okb = false ∨ lxC T L e2 ≠ 59) → ∀ s', frQ s2 s' → s' 63 = s2 63 → rTok T L s' e2 → s' 54 14 = 1 → Q none (PS h s' r)) : pX11_statement_89 G (d + 5) 54 w (if w = 1852138852 then 20 else 22) (some 54) (PS h s2 r) Q := by
  have hL := hx.2.1
  refine vX11_statement_89 ?_
  rw [ri_54_21, h21, nnR_q, rc_54]
  refine rTail (o := pr2 o) (c2 := c1) (ok := okb) hx he2 t2 (by rw [pr2_len]; exact hlen) hok hbad (fun ho s3 hs3 w3 t3 => ?_) (fun ho s3 f3 e63 t3 w3 k3 => ?_)
  · obtain ⟨g1, g2, g3⟩ := hok ho
    have len : (pr2 o ++ c1).length = o.length + c1.length := by rw [List.length_append, pr2_len]
    have f3 : frQ s2 s3 := by rw [hs3]; exact frQ_st
    have o63 : s3 63 = s2 63 := by rw [hs3]; unfold stpS; rw [uf, up_ne (by decide), uf, up_ne (by decide), uf, up_ne (by decide)]
    have o54 : ∀ k, s3 54 k = s2 54 k := fun k => by rw [hs3]; rfl
    rw [ri_54_21, o54 21, h21]
    have fin : ∀ lp' : Nat, lp' = (if w = 1852138852 then lp + 1 else lp) → cz G mX11_need (d + 5) 0 0 [vo 54, vi 59] (PS h (uf s3 54 21 (lp' : Int)) r) (fun v h8 => atV v (Q none h8)) := by
      intro lp' hlp'
      have f4 : frQ s2 (uf s3 54 21 (lp' : Int)) := frQ_tr f3 (frQ_54 (by decide))
      have t4 : rTok T L (uf s3 54 21 (lp' : Int)) e2 := rTok_e (fun k k0 k1 => ud_ne (by omega)) t3
      refine rNeed (d := d + 1) (rTx_Q f4 hx) he2 t4 (by decide) w3 (fun c59 s5 f5 t5 => ?_) (fun c59 => ?_)
      · rw [atV_q]
        have o58 : s5 58 = s2 58 := by rw [f5.1 58 (by decide), hs3]; rfl
        have o56 : s5 56 = s3 56 := by rw [f5.1 56 (by decide)]; rfl
        have o57 : s5 57 = s3 57 := by rw [f5.1 57 (by decide)]; rfl
        have o59 : s5 59 = s3 59 := by rw [f5.1 59 (by decide)]; rfl
        have fin5 := RM_fin (s := s2) (s5 := s5) (o := o) (c1 := c1) (a := if w = 1852138852 then 20 else 22) (b := (lp : Int)) (g := 0) o58 hg58 hcw (fun z => by split at z <;> omega) (by rw [o59, hs3, len]; rfl) (by rw [o56, o57, hs3]; exact sgR_st g3)
        refine hS ho c59 s5 (frQ_tr f4 (frQ_U (frU_n f5))) (by rw [f5.1 63 (by decide)]; exact o63) ⟨t5, ?_, ?_, ?_, ?_, fin5.1, fin5.2.1, fin5.2.2⟩
        · rw [f5.2 14 (by decide) (by decide) (by decide) (by decide) (by decide)]; exact w3
        · rw [f5.2 18 (by decide) (by decide) (by decide) (by decide) (by decide)]
          show s3 54 18 = _
          rw [o54 18]; exact h18
        · rw [f5.2 21 (by decide) (by decide) (by decide) (by decide) (by decide), ← hlp']
          rfl
        · rw [f5.2 19 (by decide) (by decide) (by decide) (by decide) (by decide)]
          show s3 54 19 = _
          rw [o54 19]; exact h19
      · rw [atV_q]
        exact hF (Or.inr c59) _ (frQ_tr f4 (frQ_54 (by decide))) o63 (rTok_e (fun k k0 k1 => ud_ne (by omega)) t4) rfl
    by_cases cw : w = 1852138852
    · rw [if_pos cw, wi_54_21, w32_s (by omega), rc_54]
      exact fin (lp + 1) (by rw [if_pos cw])
    · rw [if_neg cw, wi_54_21, w32_z (by omega), rc_54]
      exact fin lp (by rw [if_neg cw])
  · have fin : ∀ v : Int, cz G mX11_need (d + 5) 0 0 [vo 54, vi 59] (PS h (uf s3 54 21 v) r) (fun v h8 => atV v (Q none h8)) := by
      intro v
      refine rNeedW (d := d + 4) w3 ?_
      rw [atV_q]
      exact hF (Or.inl ho) _ (frQ_tr f3 (frQ_54 (by decide))) e63 (rTok_e (fun k k0 k1 => ud_ne (by omega)) t3) w3
    rw [ri_54_21]
    by_cases cw : w = 1852138852
    · rw [if_pos cw, wi_54_21, rc_54]; exact fin _
    · rw [if_neg cw, wi_54_21, rc_54]; exact fin _
theorem pEx_1 {C : Nat → Int} {X : Nat → Nat} {V : Nat → Int} {e : Nat} {R : PR} (hR : pE C X V false 8 e = R) (c : R.1 = true) (c59 : C R.2.1 = 59) : pEx C X V e = (true, X R.2.1, R.2.2) := by
  unfold pEx
  rw [hR, if_pos c, if_pos c59]
theorem pEx_0 {C : Nat → Int} {X : Nat → Nat} {V : Nat → Int} {e : Nat} {R : PR} (hR : pE C X V false 8 e = R) (c : ¬ (R.1 = true ∧ C R.2.1 = 59)) : pEx C X V e = (false, R.2.1, []) := by
  unfold pEx
  rw [hR]
  by_cases c1 : R.1 = true
  · rw [if_pos c1, if_neg (fun z => c ⟨c1, z⟩)]
  · rw [if_neg c1]
/-- need and pay, from behind the count of statements -/
theorem rNP {s1 : Nat → Int → Int} {w : Int} {S : SR} (hx : rTx T L s1) (he : e ≤ L) (hc : lxC T L e ≠ 0) (t1 : rTok T L s1 e) (b14 : s1 54 14 = 0) (b18 : s1 54 18 = ((st + 1 : Nat) : Int)) (b21 : s1 54 21 = lp) (b19 : s1 54 19 = op) (hlp : lp ≤ 12) (b59 : s1 59 14 = o.length) (bg : sgR (shf (s1 56)) (shf (s1 57)) 0 (pr2 o)) (b58 : glR (shf (s1 58)) 0 o) (hl : o.length ≤ e)
    (hA : ∀ R, pE (lxC T L) (lxE T L) (lxN T L) false 8 (lxE T L e) = R → R.1 = true → lxC T L R.2.1 = 59 → S = (true, lxE T L R.2.1, st + 1, (if w = 1852138852 then lp + 1 else lp), e3 R.2.2 ++ [(if w = 1852138852 then 20 else 22, (lp : Int), 0)], S.2.2.2.2.2))
    (hB : ∀ R, pE (lxC T L) (lxE T L) (lxN T L) false 8 (lxE T L e) = R → ¬ (R.1 = true ∧ lxC T L R.2.1 = 59) → S.1 = false ∧ S.2.1 = R.2.1)
    (hS : S.1 = true → ∀ s', frQ s1 s' → s' 63 = s1 63 → RM T L s' S.2.1 S.2.2.1 S.2.2.2.1 (o ++ S.2.2.2.2.1) op → Q none (PS h s' r))
    (hF : S.1 = false → ∀ s', frQ s1 s' → s' 63 = s1 63 → rTok T L s' S.2.1 → s' 54 14 = 1 → Q none (PS h s' r)) :
    rcv (PS h s1 r) 54 11 (cz G mX11_next (d + 5) 0 0 [vo 54] (PS h s1 r) (fun v h7 => atV v (rcv h7 54 11 (cz G mX11_expression (d + 5) 0 0 [vo 54, vi 0] h7 (fun v h8 => atV v (if w = 1852138852 then pX11_statement_89 G (d + 5) 54 w 20 (some 54) h8 Q else pX11_statement_89 G (d + 5) 54 w 22 (some 54) h8 Q)))))) := by
  have ha : adv (lxC T L) (lxE T L) L := lx_adv hx.2.1 hx.2.2.2
  have hL := hx.2.1
  have a1 := ha.2 e he hc
  rw [rc_54]
  refine sX11_next (d := d + 2) hx t1.2.1 (lxE_le he) (fun s2 f2 t2 => ?_)
  rw [atV_q, rc_54]
  have f12 : frQ s1 s2 := frQ_U (frU_n f2)
  have k2 : ∀ k, ¬ (2 ≤ k ∧ k ≤ 6) → s2 54 k = s1 54 k := fun k hk => f2.2 k (by omega) (by omega) (by omega) (by omega) (by omega)
  obtain ⟨R, hR⟩ : ∃ R, pE (lxC T L) (lxE T L) (lxN T L) false 8 (lxE T L e) = R := ⟨_, rfl⟩
  have hRo := pE_ok (V := lxN T L) (ru := false) ha 8 (lxE T L e) a1.2
  have hRw := pE_w (C := lxC T L) (X := lxE T L) (V := lxN T L) (ru := false) 8 (lxE T L e)
  rw [hR] at hRo hRw
  refine rExp0 (d := d + 1) (c := pr2 o) (rTx_Q f12 hx) a1.2 t2 ((k2 14 (by decide)).trans b14) (by rw [f2.1 59 (by decide), pr2_len]; exact b59) (by rw [f2.1 56 (by decide), f2.1 57 (by decide)]; exact bg) (by rw [pr2_len]; omega) hR (fun s3 f3 t3 g3 b3 => ?_)
  rw [atV_q]
  have f13 : frQ s1 s3 := frQ_tr f12 (frQ_U f3)
  have e63 : s3 63 = s1 63 := by rw [f3.1 63 (by decide) (by decide) (by decide) (by decide) (by decide), f2.1 63 (by decide)]
  have e58 : s3 58 = s1 58 := by rw [f3.1 58 (by decide) (by decide) (by decide) (by decide) (by decide), f2.1 58 (by decide)]
  have k3 : ∀ k, k = 18 ∨ k = 19 ∨ k = 21 → s3 54 k = s1 54 k := fun k hk => (f3.2.1 k (by omega) (by omega) (by omega) (by omega)).trans (k2 k (by omega))
  have to89 : pX11_statement_89 G (d + 5) 54 w (if w = 1852138852 then 20 else 22) (some 54) (PS h s3 r) Q → (if w = 1852138852 then pX11_statement_89 G (d + 5) 54 w 20 (some 54) (PS h s3 r) Q else pX11_statement_89 G (d + 5) 54 w 22 (some 54) (PS h s3 r) Q) := by
    intro z
    by_cases cw : w = 1852138852
    · rw [if_pos cw] at z ⊢; exact z
    · rw [if_neg cw] at z ⊢; exact z
  refine to89 ?_
  replace hA := hA R hR
  replace hB := hB R hR
  cases hRb : R.1 with
  | true =>
    rw [hRb] at g3 b3 hA hB
    have h4 := hRo.2.2 hRb
    refine r89 (d := d) (okb := true) (o := o) (c1 := R.2.2) (e2 := R.2.1) (Decidable.em _) (rTx_Q f13 hx) hRo.2.1 t3 (by omega) hRw ((k3 18 (by omega)).trans b18) ((k3 21 (by omega)).trans b21) ((k3 19 (by omega)).trans b19) hlp (by rw [e58]; exact b58) g3 b3 (fun _ c59 s4 f4 q4 r4 => ?_) (fun hor s4 f4 q4 t4 w4 => ?_)
    · have hSe := hA rfl c59
      rw [hSe] at hS
      exact hS rfl s4 (frQ_tr f13 f4) (q4.trans e63) r4
    · have c59 : ¬ lxC T L R.2.1 = 59 := by
        rcases hor with y | y
        · cases y
        · exact y
      have hSe := hB (fun z => c59 z.2)
      refine hF hSe.1 s4 (frQ_tr f13 f4) (q4.trans e63) ?_ w4
      rw [hSe.2]
      exact t4
  | false =>
    rw [hRb] at b3 hB
    have hSe := hB (fun z => by cases z.1)
    refine r89 (d := d) (okb := false) (o := o) (c1 := []) (e2 := R.2.1) (Decidable.em _) (rTx_Q f13 hx) hRo.2.1 t3 (by rw [List.length_nil]; omega) (fun p hp => by cases hp) ((k3 18 (by omega)).trans b18) ((k3 21 (by omega)).trans b21) ((k3 19 (by omega)).trans b19) hlp (by rw [e58]; exact b58) (fun y => by cases y) b3 (fun y => by cases y) (fun hor s4 f4 q4 t4 w4 => ?_)
    refine hF hSe.1 s4 (frQ_tr f13 f4) (q4.trans e63) ?_ w4
    rw [hSe.2]
    exact t4
/-- a cell is set, from behind the count of statements -/
theorem rSetS {s1 : Nat → Int → Int} {S : SR} (hx : rTx T L s1) (he : e ≤ L) (hc : 0 ≤ cel7 (lxC T L e)) (t1 : rTok T L s1 e) (b14 : s1 54 14 = 0) (b18 : s1 54 18 = ((st + 1 : Nat) : Int)) (b21 : s1 54 21 = lp) (b19 : s1 54 19 = op) (b59 : s1 59 14 = o.length) (bg : sgR (shf (s1 56)) (shf (s1 57)) 0 (pr2 o)) (b58 : glR (shf (s1 58)) 0 o) (hl : o.length ≤ e) (hSS : pSet (lxC T L) (lxE T L) (lxN T L) e st lp = S)
    (hS : S.1 = true → ∀ s', frQ s1 s' → s' 63 = s1 63 → RM T L s' S.2.1 S.2.2.1 S.2.2.2.1 (o ++ S.2.2.2.2.1) op → Q none (PS h s' r))
    (hF : S.1 = false → ∀ s', frQ s1 s' → s' 63 = s1 63 → rTok T L s' S.2.1 → s' 54 14 = 1 → Q none (PS h s' r)) :
    pX11_statement_230 G (d + 5) 54 (cel7 (lxC T L e)) 0 (some 54) (PS h s1 r) Q := by
  have ha : adv (lxC T L) (lxE T L) L := lx_adv hx.2.1 hx.2.2.2
  have hL := hx.2.1
  have a1 := ha.2 e he (cel7_ne hc).1
  refine vX11_statement_230 ?_
  rw [nnR_q, wb_54_14_0, uf_same b14, ri_54_14, b14, if_pos rfl, rc_54]
  refine sX11_next (d := d + 2) hx t1.2.1 (lxE_le he) (fun s2 f2 t2 => ?_)
  rw [atV_q, rc_54]
  have f12 : frQ s1 s2 := frQ_U (frU_n f2)
  have k2 : ∀ k, ¬ (2 ≤ k ∧ k ≤ 6) → s2 54 k = s1 54 k := fun k hk => f2.2 k (by omega) (by omega) (by omega) (by omega) (by omega)
  unfold pSet at hSS
  refine rNeed (d := d + 1) (rTx_Q f12 hx) a1.2 t2 (by decide) ((k2 14 (by decide)).trans b14) (fun c61 s3 f3 t3 => ?_) (fun c61 => ?_)
  · rw [if_pos c61] at hSS
    rw [atV_q, rc_54]
    have a2 := ha.2 _ a1.2 (by rw [c61]; decide)
    have f13 : frQ s1 s3 := frQ_tr f12 (frQ_U (frU_n f3))
    have k3 : ∀ k, ¬ (2 ≤ k ∧ k ≤ 6) → s3 54 k = s1 54 k := fun k hk => (f3.2 k (by omega) (by omega) (by omega) (by omega) (by omega)).trans (k2 k hk)
    have o3 : ∀ a, a ≠ 54 → s3 a = s1 a := fun a ha => (f3.1 a ha).trans (f2.1 a ha)
    obtain ⟨R, hR⟩ : ∃ R, pE (lxC T L) (lxE T L) (lxN T L) false 8 (lxE T L (lxE T L e)) = R := ⟨_, rfl⟩
    have hRo := pE_ok (V := lxN T L) (ru := false) ha 8 (lxE T L (lxE T L e)) a2.2
    have hRw := pE_w (C := lxC T L) (X := lxE T L) (V := lxN T L) (ru := false) 8 (lxE T L (lxE T L e))
    rw [hR] at hRo hRw
    refine rExp0 (d := d + 1) (c := pr2 o) (rTx_Q f13 hx) a2.2 t3 ((k3 14 (by decide)).trans b14) (by rw [o3 59 (by decide), pr2_len]; exact b59) (by rw [o3 56 (by decide), o3 57 (by decide)]; exact bg) (by rw [pr2_len]; omega) hR (fun s4 f4 t4 g4 b4 => ?_)
    rw [atV_q, rc_54]
    have f14 : frQ s1 s4 := frQ_tr f13 (frQ_U f4)
    have e63 : s4 63 = s1 63 := by rw [f4.1 63 (by decide) (by decide) (by decide) (by decide) (by decide)]; exact o3 63 (by decide)
    have e58 : s4 58 = s1 58 := by rw [f4.1 58 (by decide) (by decide) (by decide) (by decide) (by decide)]; exact o3 58 (by decide)
    have k4 : ∀ k, k = 18 ∨ k = 19 ∨ k = 21 → s4 54 k = s1 54 k := fun k hk => (f4.2.1 k (by omega) (by omega) (by omega) (by omega)).trans (k3 k (by omega))
    have hlen : o.length + (if R.1 = true then R.2.2 else []).length ≤ R.2.1 := by
      by_cases cR : R.1 = true
      · rw [if_pos cR]; have := hRo.2.2 cR; omega
      · rw [if_neg cR, List.length_nil]; omega
    refine rTail (o := pr2 o) (c2 := if R.1 = true then R.2.2 else []) (ok := R.1) (rTx_Q f14 hx) hRo.2.1 t4 (by rw [pr2_len]; exact hlen) (fun cR => by rw [if_pos cR]; exact g4 cR) b4 (fun cR s5 hs5 w5 t5 => ?_) (fun cR s5 f5 q5 t5 w5 k5 => ?_)
    · rw [if_pos cR] at hs5
      have len : (pr2 o ++ R.2.2).length = o.length + R.2.2.length := by rw [List.length_append, pr2_len]
      have f15 : frQ s1 s5 := by rw [hs5]; exact frQ_tr f14 frQ_st
      have o63 : s5 63 = s1 63 := by rw [hs5]; unfold stpS; rw [uf, up_ne (by decide), uf, up_ne (by decide), uf, up_ne (by decide)]; exact e63
      have o54 : ∀ k, s5 54 k = s4 54 k := fun k => by rw [hs5]; rfl
      rw [rc_54]
      refine rNeed (d := d + 1) (rTx_Q f15 hx) hRo.2.1 t5 (by decide) w5 (fun c59 s6 f6 t6 => ?_) (fun c59 => ?_)
      · rw [atV_q]
        have hSe : S = (true, lxE T L R.2.1, st + 1, lp, e3 R.2.2 ++ [(21, cel7 (lxC T L e), 0)], R.2.2.map tau ++ [(if cel7 (lxC T L e) < 6 then 21 else 22, cel (lxC T L e))]) := by
          rw [pEx_1 hR cR c59, if_pos rfl] at hSS
          exact hSS.symm
        have o58 : s6 58 = s1 58 := by rw [f6.1 58 (by decide), hs5]; exact e58
        have o56 : s6 56 = s5 56 := f6.1 56 (by decide)
        have o57 : s6 57 = s5 57 := f6.1 57 (by decide)
        have o59 : s6 59 = s5 59 := f6.1 59 (by decide)
        have fin5 := RM_fin (s := s1) (s5 := s6) (o := o) (c1 := R.2.2) (a := 21) (b := cel7 (lxC T L e)) (g := 0) o58 b58 hRw (fun z => absurd z (by decide)) (by rw [o59, hs5, len]; rfl) (by rw [o56, o57, hs5]; exact sgR_st (g4 cR).2.2)
        rw [hSe] at hS
        refine hS rfl s6 (frQ_tr f15 (frQ_U (frU_n f6))) (by rw [f6.1 63 (by decide)]; exact o63) ⟨t6, ?_, ?_, ?_, ?_, fin5.1, fin5.2.1, fin5.2.2⟩
        · rw [f6.2 14 (by decide) (by decide) (by decide) (by decide) (by decide)]; exact w5
        · rw [f6.2 18 (by decide) (by decide) (by decide) (by decide) (by decide), o54 18]; exact (k4 18 (by omega)).trans b18
        · rw [f6.2 21 (by decide) (by decide) (by decide) (by decide) (by decide), o54 21]; exact (k4 21 (by omega)).trans b21
        · rw [f6.2 19 (by decide) (by decide) (by decide) (by decide) (by decide), o54 19]; exact (k4 19 (by omega)).trans b19
      · rw [atV_q]
        rw [pEx_0 hR (fun z => c59 z.2), if_neg (show ¬ (false, R.2.1, ([] : C2)).1 = true from Bool.false_ne_true)] at hSS
        rw [← hSS] at hF
        exact hF rfl _ (frQ_tr f15 (frQ_54 (by decide))) o63 (rTok_e (fun k k0 k1 => ud_ne (by omega)) t5) rfl
    · rw [pEx_0 hR (fun z => by rw [cR] at z; cases z.1), if_neg (show ¬ (false, R.2.1, ([] : C2)).1 = true from Bool.false_ne_true)] at hSS
      rw [← hSS] at hF
      rw [rc_54]
      refine rNeedW (d := d + 4) w5 ?_
      rw [atV_q]
      exact hF rfl s5 (frQ_tr f14 f5) (q5.trans e63) t5 w5
  · rw [if_neg c61] at hSS
    rw [← hSS] at hF
    rw [atV_q, rc_54]
    refine sX11_exprw (ru := false) (d := d + 4) rfl ?_
    rw [atV_q, rc_54]
    have q59 : uf (uf (uf s2 54 14 1) 54 15 0) 54 17 0 59 14 = o.length := by
      show s2 59 14 = _
      rw [f2.1 59 (by decide)]; exact b59
    refine rStepB q59 (by omega) ?_
    rw [atV_q, rc_54]
    refine rNeedW (d := d + 4) rfl ?_
    rw [atV_q]
    refine hF rfl _ (frQ_tr (frQ_tr f12 (frQ_tr (frQ_54 (by decide)) (frQ_tr (frQ_54 (by decide)) (frQ_54 (by decide))))) frQ_st) ?_ (rTok_e (fun k k0 k1 => (ud_ne (by omega)).trans ((ud_ne (by omega)).trans (ud_ne (by omega)))) t2) rfl
    show s2 63 = s1 63
    exact f2.1 63 (by decide)
theorem rStmtS {k n m : Nat} {inner : Nat → Nat → Nat → Nat → Nat → SR} (hx : rTx T L s) (he : e ≤ L) (hst : st ≤ 12) (hlp : lp ≤ st) (hm : RM T L s e st lp o op) (hl : o.length ≤ e) (h3 : lxC T L e ≠ 3) {S : SR} (hSS : pSt (lxC T L) (lxE T L) (lxN T L) k inner e st lp n m = S)
    (hS : S.1 = true → ∀ s', frQ s s' → s' 63 = s 63 → RM T L s' S.2.1 S.2.2.1 S.2.2.2.1 (o ++ S.2.2.2.2.1) op → Q none (PS h s' r))
    (hF : S.1 = false → ∀ s', frQ s s' → s' 63 = s 63 → rTok T L s' S.2.1 → s' 54 14 = 1 → Q none (PS h s' r)) : cz G mX11_statement (d + 6) 0 0 [vo 54] (PS h s r) Q := by
  obtain ⟨m1, m2, m3, m4, m5, m6, m7, m8⟩ := hm
  refine vX11_statement (d := d + 5) ?_
  rw [ri_54_18, m3, wi_54_18, w32_s (by omega), ri_54_18, show uf s 54 18 ((st + 1 : Nat) : Int) 54 18 = ((st + 1 : Nat) : Int) from rfl]
  generalize hs1 : uf s 54 18 ((st + 1 : Nat) : Int) = s1
  have f1 : frQ s s1 := by rw [← hs1]; exact frQ_54 (by decide)
  have t1 : rTok T L s1 e := by rw [← hs1]; exact rTok_e (fun k k0 k1 => ud_ne (by omega)) m1
  have o63 : s1 63 = s 63 := by rw [← hs1]; rfl
  have o54 : ∀ k, k ≠ 18 → s1 54 k = s 54 k := fun k hk => by rw [← hs1]; exact ud_ne hk
  have b18 : s1 54 18 = ((st + 1 : Nat) : Int) := by rw [← hs1]; rfl
  have b58 : glR (shf (s1 58)) 0 o := by rw [← hs1]; exact m8
  have bg : sgR (shf (s1 56)) (shf (s1 57)) 0 (pr2 o) := by rw [← hs1]; exact m7
  have b59 : s1 59 14 = o.length := by rw [← hs1]; exact m6
  have hS1 : S.1 = true → ∀ s', frQ s1 s' → s' 63 = s1 63 → RM T L s' S.2.1 S.2.2.1 S.2.2.2.1 (o ++ S.2.2.2.2.1) op → Q none (PS h s' r) := fun c s' z1 z2 z3 => hS c s' (frQ_tr f1 z1) (z2.trans o63) z3
  have hF1 : S.1 = false → ∀ s', frQ s1 s' → s' 63 = s1 63 → rTok T L s' S.2.1 → s' 54 14 = 1 → Q none (PS h s' r) := fun c s' z1 z2 z3 z4 => hF c s' (frQ_tr f1 z1) (z2.trans o63) z3 z4
  clear hS hF
  have bad : S = flS e → pX11_statement_33 G (d + 5) 54 1 (some 54) (PS h s1 r) Q := by
    intro hSe
    refine r33w (d := d + 4) ?_
    rw [hSe] at hF1
    exact hF1 rfl _ (frQ_54 (by decide)) rfl (rTok_e (fun k k0 k1 => ud_ne (by omega)) t1) rfl
  unfold pSt at hSS
  by_cases n12 : 12 ≤ st
  · rw [if_pos n12] at hSS
    rw [if_pos (by omega)]
    exact bad hSS.symm
  rw [if_neg n12] at hSS
  rw [if_neg (by omega), ri_54_2, o54 2 (by decide)]
  by_cases z : s 54 2 = 1
  rotate_left
  · have hn := TK_nw m1.2.2.2 z
    rw [if_neg (by omega), if_neg hn.2.1, if_neg hn.2.2.1, if_neg (fun y => h3 y.1)] at hSS
    rw [if_neg z]
    exact bad hSS.symm
  rw [if_pos z]
  have hk := m1.2.2.2
  rw [z] at hk
  obtain ⟨w2, w4, w3, wc⟩ := TK_wd hk
  have b14 : s1 54 14 = 0 := (o54 14 (by decide)).trans m2
  have hx1 := rTx_Q f1 hx
  refine vX11_statement_33 ?_
  rw [nnR_q, wb_54_14_0, uf_same b14, ri_54_5, o54 5 (by decide)]
  generalize s 54 5 = w at hk w2 w4 w3 wc ⊢
  refine sX11_cellOf (d := d + 4) ?_
  rw [atI_q, ri_54_14, b14, if_pos rfl, wc]
  by_cases cN : w = 1852138852
  · have c2 := w2.mp cN
    have ncel : ¬ 0 ≤ cel7 (lxC T L e) := fun y => by have := cel7_ne y; omega
    rw [if_neg ncel, if_pos c2] at hSS
    rw [if_pos cN]
    refine rNP (d := d) (S := S) (st := st) (lp := lp) (op := op) hx1 he (by omega) t1 b14 b18 ((o54 21 (by decide)).trans m4) ((o54 19 (by decide)).trans m5) (by omega) b59 bg b58 hl (fun R hR cR c59 => ?_) (fun R hR cR => ?_) hS1 hF1
    · unfold pNeed at hSS
      rw [pEx_1 hR cR c59, if_pos rfl] at hSS
      rw [if_pos cN, if_pos cN, ← hSS]
    · unfold pNeed at hSS
      rw [pEx_0 hR cR, if_neg (show ¬ (false, R.2.1, ([] : C2)).1 = true from Bool.false_ne_true)] at hSS
      rw [← hSS]
      exact ⟨rfl, rfl⟩
  rw [if_neg cN]
  have n2 : ¬ lxC T L e = 2 := fun y => cN (w2.mpr y)
  by_cases cP : w = 7364985
  · have c4 := w4.mp cP
    have ncel : ¬ 0 ≤ cel7 (lxC T L e) := fun y => by have := cel7_ne y; omega
    rw [if_neg ncel, if_neg n2, if_pos c4] at hSS
    rw [if_pos cP]
    refine rNP (d := d) (S := S) (st := st) (lp := lp) (op := op) hx1 he (by omega) t1 b14 b18 ((o54 21 (by decide)).trans m4) ((o54 19 (by decide)).trans m5) (by omega) b59 bg b58 hl (fun R hR cR c59 => ?_) (fun R hR cR => ?_) hS1 hF1
    · unfold pPay at hSS
      rw [pEx_1 hR cR c59, if_pos rfl] at hSS
      rw [if_neg cN, if_neg cN, ← hSS]
    · unfold pPay at hSS
      rw [pEx_0 hR cR, if_neg (show ¬ (false, R.2.1, ([] : C2)).1 = true from Bool.false_ne_true)] at hSS
      rw [← hSS]
      exact ⟨rfl, rfl⟩
  rw [if_neg cP, if_neg (fun y => h3 (w3.mp y))]
  by_cases cc : 0 ≤ cel7 (lxC T L e)
  · rw [if_pos cc] at hSS ⊢
    exact rSetS (d := d) hx1 he cc t1 b14 b18 ((o54 21 (by decide)).trans m4) ((o54 19 (by decide)).trans m5) b59 bg b58 hl hSS hS1 hF1
  · rw [if_neg cc, if_neg n2, if_neg (fun y => cP (w4.mpr y)), if_neg (fun y => h3 y.1)] at hSS
    rw [if_neg cc]
    refine vX11_statement_230 ?_
    rw [nnR_q, wb_54_14_1, ri_54_14, show uf s1 54 14 1 54 14 = 1 from rfl, if_neg (by decide)]
    rw [← hSS] at hF1
    exact hF1 rfl _ (frQ_54 (by decide)) rfl (rTok_e (fun k k0 k1 => ud_ne (by omega)) t1) rfl
end RS
