/-! TEXTS: statements -/
section EX
variable {h : az_H} {s : Nat → Int → Int} {r : Nat → Int → Option Nat} {G : az_G} {d : Nat} {Q : Option az_V → az_H → Prop} {T : Int → Int} {L e : Nat} {o : List (Int × Int)} {ru : Bool}
/-- the reference reads an expression -/
theorem sX11_expression (hx : rTx T L s) (he : e ≤ L) (t : rTok T L s e) (h14 : s 54 14 = 0) (ho : s 59 14 = o.length) (hg : sgR (shf (s 56)) (shf (s 57)) 0 o) (hl : o.length ≤ e)
    (hq : ∀ s', frU s s' → rTok T L s' (pE (lxC T L) (lxE T L) (lxN T L) ru 8 e).2.1 → ((pE (lxC T L) (lxE T L) (lxN T L) ru 8 e).1 = true → s' 54 14 = 0 ∧ s' 59 14 = (o ++ (pE (lxC T L) (lxE T L) (lxN T L) ru 8 e).2.2).length ∧ sgR (shf (s' 56)) (shf (s' 57)) 0 (o ++ (pE (lxC T L) (lxE T L) (lxN T L) ru 8 e).2.2)) → ((pE (lxC T L) (lxE T L) (lxN T L) ru 8 e).1 = false → s' 54 14 = 1 ∧ ∃ n : Nat, s' 59 14 = n ∧ n ≤ 210) → Q none (PS h s' r)) : cz G mX11_expression (d + 4) 0 0 [vo 54, vi (wI ru)] (PS h s r) Q := by
  have ha : adv (lxC T L) (lxE T L) L := lx_adv hx.2.1 hx.2.2.2
  refine vX11_expression (d := d + 3) ?_
  rw [wi_54_15, wi_54_17, ri_54_14, show uf (uf s 54 15 0) 54 17 0 54 14 = s 54 14 from rfl, h14, if_pos rfl]
  generalize hs1 : uf (uf s 54 15 0) 54 17 0 = s1
  have f1 : frU s s1 := by rw [← hs1]; exact frU_tr (frU_54 (by decide)) (frU_54 (by decide))
  have hx1 := rTx_U f1 hx
  have hE := de_E (V := lxN T L) (ru := ru) ha (rHc (G := G) (h := h) (r := r) (d := d) (Q := Q) (ru := ru) hx1) 8 e 0 o [] he rfl ⟨by decide, by decide⟩ (by decide)
  have hok := pE_ok (V := lxN T L) (ru := ru) ha 8 e he
  have key : RAP G h r T L ru (d + 3) Q s1 e 0 true 0 o [] := by
    cases hR : (pE (lxC T L) (lxE T L) (lxN T L) ru 8 e).1 with
    | true =>
      refine hE.1 hR ⟨fun z => absurd z.2 (by omega), fun _ => ⟨fun z => absurd z (by omega), fun _ => ?_⟩⟩
      intro _ _ s2 f2 t2 n2 g2 w2
      exact hq s2 (frU_tr f1 f2) t2 (fun _ => ⟨w2, n2, g2⟩) (fun z => by rw [hR] at z; cases z)
    | false =>
      refine hE.2 hR ?_
      intro s2 f2 t2 w2 n2
      exact hq s2 (frU_tr f1 f2) t2 (fun z => by rw [hR] at z; cases z) (fun _ => ⟨w2, n2⟩)
  refine key hl he (by omega) (by omega) (by omega) s1 frU_rf ?_ ⟨?_, ?_, trivial, ?_⟩ ?_ ?_
  · rw [← hs1]; exact rTok_e (fun k k0 k1 => (ud_ne (by omega)).trans (ud_ne (by omega))) t
  · rw [← hs1]; exact ho
  · rw [← hs1]; exact hg
  · rw [← hs1]; rfl
  · rw [← hs1]; rfl
  · rw [← hs1]; exact h14
theorem sX11_exprw (h14 : s 54 14 = 1) (hq : Q none (PS h (uf (uf s 54 15 0) 54 17 0) r)) : cz G mX11_expression (d + 1) 0 0 [vo 54, vi (wI ru)] (PS h s r) Q := by
  refine vX11_expression ?_
  rw [wi_54_15, wi_54_17, ri_54_14, show uf (uf s 54 15 0) 54 17 0 54 14 = s 54 14 from rfl, h14, if_neg (by decide)]
  refine vX11_expression_28 ?_
  rw [if_pos rfl]
  exact hq
end EX
abbrev C3 : Type := List (Int × Int × Int)
abbrev C2 : Type := List (Int × Int)
abbrev SR : Type := Bool × Nat × Nat × Nat × C3 × C2
def e3 (cd : C2) : C3 := cd.map (fun p => (p.1, p.2, 0))
def cel7 (c : Int) : Int := if c = 112 then 6 else if c = 113 then 7 else if 97 ≤ c ∧ c ≤ 102 then c - 97 else -1
def flS (e : Nat) : SR := (false, e, 0, 0, [], [])
section PS2
variable (C : Nat → Int) (X : Nat → Nat) (V : Nat → Int)
/-- an expression and its ; -/
def pEx (e : Nat) : PR := if (pE C X V false 8 e).1 = true then (if C (pE C X V false 8 e).2.1 = 59 then (true, X (pE C X V false 8 e).2.1, (pE C X V false 8 e).2.2) else (false, (pE C X V false 8 e).2.1, [])) else (false, (pE C X V false 8 e).2.1, [])
def pIf2 (S : SR) (lp n m : Nat) (c1 : C2) : SR := if S.1 = true then (if C S.2.1 = 125 then (true, X S.2.1, S.2.2.1, S.2.2.2.1, e3 c1 ++ (23, (lp : Int), ((n + c1.length + 1 + S.2.2.2.2.1.length : Nat) : Int)) :: S.2.2.2.2.1, c1.map tau ++ (18, 2 * (lp : Int)) :: (20, ((m + c1.length + 2 + S.2.2.2.2.2.length : Nat) : Int)) :: S.2.2.2.2.2) else flS S.2.1) else flS S.2.1
def pIf (inner : Nat → Nat → Nat → Nat → Nat → SR) (e st lp n m : Nat) : SR := if (pE C X V false 8 (X e)).1 = true then (if C (pE C X V false 8 (X e)).2.1 = 123 then pIf2 C X (inner (X (pE C X V false 8 (X e)).2.1) (st + 1) (lp + 1) (n + (pE C X V false 8 (X e)).2.2.length + 1) (m + (pE C X V false 8 (X e)).2.2.length + 2)) lp n m (pE C X V false 8 (X e)).2.2 else flS (pE C X V false 8 (X e)).2.1) else flS (pE C X V false 8 (X e)).2.1
def pSet (e st lp : Nat) : SR := if C (X e) = 61 then (if (pEx C X V (X (X e))).1 = true then (true, (pEx C X V (X (X e))).2.1, st + 1, lp, e3 (pEx C X V (X (X e))).2.2 ++ [(21, cel7 (C e), 0)], (pEx C X V (X (X e))).2.2.map tau ++ [(if cel7 (C e) < 6 then 21 else 22, cel (C e))]) else flS (pEx C X V (X (X e))).2.1) else flS (X e)
def pNeed (e st lp : Nat) : SR := if (pEx C X V (X e)).1 = true then (true, (pEx C X V (X e)).2.1, st + 1, lp + 1, e3 (pEx C X V (X e)).2.2 ++ [(20, (lp : Int), 0)], (pEx C X V (X e)).2.2.map tau ++ [(18, 2 * (lp : Int)), (19, 0)]) else flS (pEx C X V (X e)).2.1
def pPay (e st lp : Nat) : SR := if (pEx C X V (X e)).1 = true then (true, (pEx C X V (X e)).2.1, st + 1, lp, e3 (pEx C X V (X e)).2.2 ++ [(22, (lp : Int), 0)], (pEx C X V (X e)).2.2.map tau ++ [(23, 0)]) else flS (pEx C X V (X e)).2.1
def pSt (k : Nat) (inner : Nat → Nat → Nat → Nat → Nat → SR) (e st lp n m : Nat) : SR := if 12 ≤ st then flS e else if 0 ≤ cel7 (C e) then pSet C X V e st lp else if C e = 2 then pNeed C X V e st lp else if C e = 4 then pPay C X V e st lp else if C e = 3 ∧ 0 < k then pIf C X V inner e st lp n m else flS e
def pStL (k : Nat) (inner : Nat → Nat → Nat → Nat → Nat → SR) : Nat → Nat → Nat → Nat → Nat → Nat → C3 → C2 → SR
  | 0, e, _, _, _, _, _, _ => flS e
  | f + 1, e, st, lp, n, m, a3, a2 => if C e = 0 ∨ C e = 125 then (true, e, st, lp, a3, a2) else if (pSt C X V k inner e st lp n m).1 = true then pStL k inner f (pSt C X V k inner e st lp n m).2.1 (pSt C X V k inner e st lp n m).2.2.1 (pSt C X V k inner e st lp n m).2.2.2.1 (n + (pSt C X V k inner e st lp n m).2.2.2.2.1.length) (m + (pSt C X V k inner e st lp n m).2.2.2.2.2.length) (a3 ++ (pSt C X V k inner e st lp n m).2.2.2.2.1) (a2 ++ (pSt C X V k inner e st lp n m).2.2.2.2.2) else flS (pSt C X V k inner e st lp n m).2.1
def pSS : Nat → Nat → Nat → Nat → Nat → Nat → SR
  | 0 => fun e st lp n m => pStL C X V 0 (fun e _ _ _ _ => flS e) 13 e st lp n m [] []
  | k + 1 => fun e st lp n m => pStL C X V (k + 1) (pSS k) 13 e st lp n m [] []
end PS2
/-- how far statements lead, how much they say -/
def okS (L : Nat) (q : Nat → Nat → Nat → Nat → Nat → SR) : Prop := ∀ e st lp n m, e ≤ L → st ≤ 12 → lp ≤ st → e ≤ (q e st lp n m).2.1 ∧ (q e st lp n m).2.1 ≤ L ∧ ((q e st lp n m).1 = true → st ≤ (q e st lp n m).2.2.1 ∧ (q e st lp n m).2.2.1 ≤ 12 ∧ (q e st lp n m).2.2.2.1 ≤ (q e st lp n m).2.2.1 ∧ e + (q e st lp n m).2.2.2.2.1.length ≤ (q e st lp n m).2.1 ∧ e + (q e st lp n m).2.2.2.2.2.length ≤ (q e st lp n m).2.1)
section OS
variable {C : Nat → Int} {X : Nat → Nat} {V : Nat → Int} {L : Nat}
theorem e3_len (c : C2) : (e3 c).length = c.length := List.length_map _
theorem pEx_ok (ha : adv C X L) : ∀ e, e ≤ L → e ≤ (pEx C X V e).2.1 ∧ (pEx C X V e).2.1 ≤ L ∧ ((pEx C X V e).1 = true → e + (pEx C X V e).2.2.length + 1 ≤ (pEx C X V e).2.1) := by
  intro e he
  have h1 := pE_ok (V := V) (ru := false) ha 8 e he
  unfold pEx
  by_cases c : (pE C X V false 8 e).1 = true
  · rw [if_pos c]
    have h2 := h1.2.2 c
    by_cases c59 : C (pE C X V false 8 e).2.1 = 59
    · rw [if_pos c59]
      have h3 := ha.2 _ h1.2.1 (by rw [c59]; decide)
      exact ⟨by show e ≤ X (pE C X V false 8 e).2.1; omega, h3.2, fun _ => by show e + (pE C X V false 8 e).2.2.length + 1 ≤ X (pE C X V false 8 e).2.1; omega⟩
    · rw [if_neg c59]; exact ⟨h1.1, h1.2.1, fun z => by cases z⟩
  · rw [if_neg c]; exact ⟨h1.1, h1.2.1, fun z => by cases z⟩
theorem fl_ok {e e' st : Nat} (h1 : e ≤ e') (h2 : e' ≤ L) : e ≤ (flS e').2.1 ∧ (flS e').2.1 ≤ L ∧ ((flS e').1 = true → st ≤ (flS e').2.2.1 ∧ (flS e').2.2.1 ≤ 12 ∧ (flS e').2.2.2.1 ≤ (flS e').2.2.1 ∧ e + (flS e').2.2.2.2.1.length ≤ (flS e').2.1 ∧ e + (flS e').2.2.2.2.2.length ≤ (flS e').2.1) := ⟨h1, h2, fun z => by cases z⟩
theorem cel7_ne {c : Int} (h : 0 ≤ cel7 c) : c ≠ 0 ∧ c ≠ 125 ∧ 97 ≤ c ∧ c ≤ 113 := by
  unfold cel7 at h
  repeat' split at h
  all_goals omega
theorem pSt_ok (ha : adv C X L) {k : Nat} {inner : Nat → Nat → Nat → Nat → Nat → SR} (hin : okS L inner) : ∀ e st lp n m, e ≤ L → st ≤ 12 → lp ≤ st → e ≤ (pSt C X V k inner e st lp n m).2.1 ∧ (pSt C X V k inner e st lp n m).2.1 ≤ L ∧ ((pSt C X V k inner e st lp n m).1 = true → st + 1 ≤ (pSt C X V k inner e st lp n m).2.2.1 ∧ (pSt C X V k inner e st lp n m).2.2.1 ≤ 12 ∧ (pSt C X V k inner e st lp n m).2.2.2.1 ≤ (pSt C X V k inner e st lp n m).2.2.1 ∧ e + (pSt C X V k inner e st lp n m).2.2.2.2.1.length ≤ (pSt C X V k inner e st lp n m).2.1 ∧ e + (pSt C X V k inner e st lp n m).2.2.2.2.2.length ≤ (pSt C X V k inner e st lp n m).2.1) := by
  intro e st lp n m he hst hlp
  unfold pSt
  by_cases c12 : 12 ≤ st
  · rw [if_pos c12]; exact fl_ok (Nat.le_refl _) he
  rw [if_neg c12]
  by_cases cc : 0 ≤ cel7 (C e)
  · rw [if_pos cc]
    have h1 := ha.2 e he (cel7_ne cc).1
    unfold pSet
    by_cases c61 : C (X e) = 61
    · rw [if_pos c61]
      have h2 := ha.2 _ h1.2 (by rw [c61]; decide)
      have h3 := pEx_ok (V := V) ha _ h2.2
      by_cases cx : (pEx C X V (X (X e))).1 = true
      · rw [if_pos cx]
        have h4 := h3.2.2 cx
        refine ⟨by show e ≤ (pEx C X V (X (X e))).2.1; omega, h3.2.1, fun _ => ⟨Nat.le_refl _, by show st + 1 ≤ 12; omega, by show lp ≤ st + 1; omega, ?_, ?_⟩⟩
        · show e + (e3 (pEx C X V (X (X e))).2.2 ++ [_]).length ≤ (pEx C X V (X (X e))).2.1
          rw [List.length_append, e3_len, List.length_singleton]; omega
        · show e + ((pEx C X V (X (X e))).2.2.map tau ++ [_]).length ≤ (pEx C X V (X (X e))).2.1
          rw [List.length_append, List.length_map, List.length_singleton]; omega
      · rw [if_neg cx]; exact fl_ok (by omega) h3.2.1
    · rw [if_neg c61]; exact fl_ok (by omega) h1.2
  rw [if_neg cc]
  by_cases c2 : C e = 2
  · rw [if_pos c2]
    have h1 := ha.2 e he (by rw [c2]; decide)
    have h3 := pEx_ok (V := V) ha _ h1.2
    unfold pNeed
    by_cases cx : (pEx C X V (X e)).1 = true
    · rw [if_pos cx]
      have h4 := h3.2.2 cx
      refine ⟨by show e ≤ (pEx C X V (X e)).2.1; omega, h3.2.1, fun _ => ⟨Nat.le_refl _, by show st + 1 ≤ 12; omega, by show lp + 1 ≤ st + 1; omega, ?_, ?_⟩⟩
      · show e + (e3 (pEx C X V (X e)).2.2 ++ [_]).length ≤ (pEx C X V (X e)).2.1
        rw [List.length_append, e3_len, List.length_singleton]; omega
      · show e + ((pEx C X V (X e)).2.2.map tau ++ [_, _]).length ≤ (pEx C X V (X e)).2.1
        rw [List.length_append, List.length_map, List.length_cons, List.length_singleton]; omega
    · rw [if_neg cx]; exact fl_ok (by omega) h3.2.1
  rw [if_neg c2]
  by_cases c4 : C e = 4
  · rw [if_pos c4]
    have h1 := ha.2 e he (by rw [c4]; decide)
    have h3 := pEx_ok (V := V) ha _ h1.2
    unfold pPay
    by_cases cx : (pEx C X V (X e)).1 = true
    · rw [if_pos cx]
      have h4 := h3.2.2 cx
      refine ⟨by show e ≤ (pEx C X V (X e)).2.1; omega, h3.2.1, fun _ => ⟨Nat.le_refl _, by show st + 1 ≤ 12; omega, by show lp ≤ st + 1; omega, ?_, ?_⟩⟩
      · show e + (e3 (pEx C X V (X e)).2.2 ++ [_]).length ≤ (pEx C X V (X e)).2.1
        rw [List.length_append, e3_len, List.length_singleton]; omega
      · show e + ((pEx C X V (X e)).2.2.map tau ++ [_]).length ≤ (pEx C X V (X e)).2.1
        rw [List.length_append, List.length_map, List.length_singleton]; omega
    · rw [if_neg cx]; exact fl_ok (by omega) h3.2.1
  rw [if_neg c4]
  by_cases c3 : C e = 3 ∧ 0 < k
  · rw [if_pos c3]
    have h1 := ha.2 e he (by rw [c3.1]; decide)
    have h3 := pE_ok (V := V) (ru := false) ha 8 (X e) h1.2
    unfold pIf
    generalize hR : pE C X V false 8 (X e) = R at h3 ⊢
    by_cases cR : R.1 = true
    · rw [if_pos cR]
      have h4 := h3.2.2 cR
      by_cases c123 : C R.2.1 = 123
      · rw [if_pos c123]
        have h5 := ha.2 _ h3.2.1 (by rw [c123]; decide)
        have h6 := hin (X R.2.1) (st + 1) (lp + 1) (n + R.2.2.length + 1) (m + R.2.2.length + 2) h5.2 (by omega) (by omega)
        generalize hS : inner (X R.2.1) (st + 1) (lp + 1) (n + R.2.2.length + 1) (m + R.2.2.length + 2) = S at h6 ⊢
        unfold pIf2
        by_cases cS : S.1 = true
        · rw [if_pos cS]
          have h7 := h6.2.2 cS
          by_cases c125 : C S.2.1 = 125
          · rw [if_pos c125]
            have h8 := ha.2 _ h6.2.1 (by rw [c125]; decide)
            refine ⟨by show e ≤ X S.2.1; omega, h8.2, fun _ => ⟨h7.1, h7.2.1, h7.2.2.1, ?_, ?_⟩⟩
            · show e + (e3 R.2.2 ++ _ :: S.2.2.2.2.1).length ≤ X S.2.1
              rw [List.length_append, e3_len, List.length_cons]; omega
            · show e + (R.2.2.map tau ++ _ :: _ :: S.2.2.2.2.2).length ≤ X S.2.1
              rw [List.length_append, List.length_map, List.length_cons, List.length_cons]; omega
          · rw [if_neg c125]; exact fl_ok (by omega) h6.2.1
        · rw [if_neg cS]; exact fl_ok (by omega) h6.2.1
      · rw [if_neg c123]; exact fl_ok (by omega) h3.2.1
    · rw [if_neg cR]; exact fl_ok (by omega) h3.2.1
  · rw [if_neg c3]; exact fl_ok (Nat.le_refl _) he
theorem pStL_ok (ha : adv C X L) {k : Nat} {inner : Nat → Nat → Nat → Nat → Nat → SR} (hin : okS L inner) : ∀ (f e st lp n m : Nat) (a3 : C3) (a2 : C2), e ≤ L → st ≤ 12 → lp ≤ st → e ≤ (pStL C X V k inner f e st lp n m a3 a2).2.1 ∧ (pStL C X V k inner f e st lp n m a3 a2).2.1 ≤ L ∧ ((pStL C X V k inner f e st lp n m a3 a2).1 = true → st ≤ (pStL C X V k inner f e st lp n m a3 a2).2.2.1 ∧ (pStL C X V k inner f e st lp n m a3 a2).2.2.1 ≤ 12 ∧ (pStL C X V k inner f e st lp n m a3 a2).2.2.2.1 ≤ (pStL C X V k inner f e st lp n m a3 a2).2.2.1 ∧ e + (pStL C X V k inner f e st lp n m a3 a2).2.2.2.2.1.length ≤ (pStL C X V k inner f e st lp n m a3 a2).2.1 + a3.length ∧ e + (pStL C X V k inner f e st lp n m a3 a2).2.2.2.2.2.length ≤ (pStL C X V k inner f e st lp n m a3 a2).2.1 + a2.length)
  | 0, e, st, lp, n, m, a3, a2, he, _, _ => ⟨Nat.le_refl _, he, fun z => by cases z⟩
  | f + 1, e, st, lp, n, m, a3, a2, he, hst, hlp => by
    unfold pStL
    by_cases c : C e = 0 ∨ C e = 125
    · rw [if_pos c]
      exact ⟨Nat.le_refl _, he, fun _ => ⟨Nat.le_refl _, hst, hlp, Nat.le_refl _, Nat.le_refl _⟩⟩
    rw [if_neg c]
    have h1 := pSt_ok (V := V) ha (k := k) hin e st lp n m he hst hlp
    generalize pSt C X V k inner e st lp n m = S at h1 ⊢
    by_cases cS : S.1 = true
    · rw [if_pos cS]
      have h2 := h1.2.2 cS
      have ih := pStL_ok ha (k := k) hin f S.2.1 S.2.2.1 S.2.2.2.1 (n + S.2.2.2.2.1.length) (m + S.2.2.2.2.2.length) (a3 ++ S.2.2.2.2.1) (a2 ++ S.2.2.2.2.2) h1.2.1 h2.2.1 h2.2.2.1
      rw [List.length_append, List.length_append] at ih
      refine ⟨by omega, ih.2.1, fun z => ?_⟩
      have h3 := ih.2.2 z
      exact ⟨by omega, h3.2.1, h3.2.2.1, by omega, by omega⟩
    · rw [if_neg cS]; exact ⟨h1.1, h1.2.1, fun z => by cases z⟩
theorem pSS_ok (ha : adv C X L) : ∀ k, okS L (pSS C X V k)
  | 0 => fun e st lp n m he hst hlp => pStL_ok ha (fun e st lp n m he _ _ => fl_ok (Nat.le_refl _) he) 13 e st lp n m [] [] he hst hlp
  | k + 1 => fun e st lp n m he hst hlp => pStL_ok ha (pSS_ok ha k) 13 e st lp n m [] [] he hst hlp
end OS
