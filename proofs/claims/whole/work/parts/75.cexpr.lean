/-! TEXTS: the class reads an expression -/
def sgR (O A : Int → Int) : Nat → List (Int × Int) → Prop
  | _, [] => True
  | n, p :: t => O n = p.1 ∧ A n = p.2 ∧ sgR O A (n + 1) t
theorem sgR_app {O A : Int → Int} : ∀ (n : Nat) (a b : List (Int × Int)), sgR O A n (a ++ b) ↔ sgR O A n a ∧ sgR O A (n + a.length) b
  | n, [], b => ⟨fun h => ⟨trivial, h⟩, fun h => h.2⟩
  | n, p :: a, b => by
    have ih := sgR_app (O := O) (A := A) (n + 1) a b
    rw [List.length_cons, show n + (a.length + 1) = n + 1 + a.length by omega]
    exact ⟨fun h => ⟨⟨h.1, h.2.1, (ih.mp h.2.2).1⟩, (ih.mp h.2.2).2⟩, fun h => ⟨h.1.1, h.1.2.1, ih.mpr ⟨h.1.2.2, h.2⟩⟩⟩
theorem sgR_fr {O A O' A' : Int → Int} : ∀ (n : Nat) (a : List (Int × Int)), sgR O A n a → (∀ j : Nat, n ≤ j → j < n + a.length → O' j = O j ∧ A' j = A j) → sgR O' A' n a
  | _, [], _, _ => trivial
  | n, p :: a, h, e => by
    have e0 := e n (Nat.le_refl _) (by rw [List.length_cons]; omega)
    exact ⟨by rw [e0.1]; exact h.1, by rw [e0.2]; exact h.2.1, sgR_fr (n + 1) a h.2.2 (fun j j0 j1 => e j (by omega) (by rw [List.length_cons]; omega))⟩
def tau (p : Int × Int) : Int × Int := (tO p.1 p.2, tA p.1 p.2)
def frP (s s' : Nat → Int → Int) : Prop := (∀ a, a ≠ 17 → a ≠ 19 → a ≠ 20 → a ≠ 21 → s' a = s a) ∧ (∀ k, k ≠ 2 → k ≠ 3 → k ≠ 4 → k ≠ 5 → s' 17 k = s 17 k) ∧ ∀ k, k ≠ 3 → s' 19 k = s 19 k
theorem frP_rf {s : Nat → Int → Int} : frP s s := ⟨fun _ _ _ _ _ => rfl, fun _ _ _ _ _ => rfl, fun _ _ => rfl⟩
theorem frP_tr {s s' s'' : Nat → Int → Int} (h1 : frP s s') (h2 : frP s' s'') : frP s s'' := ⟨fun a x1 x2 x3 x4 => (h2.1 a x1 x2 x3 x4).trans (h1.1 a x1 x2 x3 x4), fun k x1 x2 x3 x4 => (h2.2.1 k x1 x2 x3 x4).trans (h1.2.1 k x1 x2 x3 x4), fun k x => (h2.2.2 k x).trans (h1.2.2 k x)⟩
theorem frP_17 {s s' : Nat → Int → Int} (h1 : fr17 s s') : frP s s' := ⟨fun a x1 _ _ _ => h1.1 a x1, h1.2, fun k _ => by rw [h1.1 19 (by decide)]⟩
def CP (T : Int → Int) (L : Nat) (ru : Bool) (s : Nat → Int → Int) (e : Nat) (acc : List (Int × Int)) : Prop := cTx T L s ∧ cTok T L s e ∧ s 19 3 = acc.length ∧ sgR (s 20) (s 21) 0 acc ∧ s 19 6 = (if ru = true then 1 else 0)
theorem cTx_P {T : Int → Int} {L : Nat} {s s' : Nat → Int → Int} (hf : frP s s') (hx : cTx T L s) : cTx T L s' := by
  unfold cTx at *
  rw [hf.1 18 (by decide) (by decide) (by decide) (by decide), hf.2.1 1 (by decide) (by decide) (by decide) (by decide)]
  exact hx
theorem lx_adv {T : Int → Int} {L : Nat} (hL : L ≤ 208) (hr : ∀ i : Int, 0 ≤ i → i < L → 32 ≤ T i ∧ T i ≤ 126) : adv (lxC T L) (lxE T L) L := ⟨hL, fun e he hc => ⟨lxE_adv hr he hc, lxE_le he⟩⟩
/-- a method that reads q from e on -/
def CSp (G : az_G) (h : az_H) (r : Nat → Int → Option Nat) (T : Int → Int) (L : Nat) (ru : Bool) (M : az_M) (D : Nat) (as : List az_V) (q : Nat → PR) : Prop := ∀ (s : Nat → Int → Int) (e : Nat) (acc : List (Int × Int)) (Q : Option az_V → az_H → Prop), e ≤ L → CP T L ru s e acc → acc.length ≤ e → (∀ s', frP s s' → cTok T L s' (q e).2.1 → ((q e).1 = true → CP T L ru s' (q e).2.1 (acc ++ (q e).2.2.map tau)) → Q (some (vi (if (q e).1 = true then 1 else 0))) (PS h s' r)) → cz G M D 0 0 (vo 19 :: as) (PS h s r) Q
section CX
variable {h : az_H} {s : Nat → Int → Int} {r : Nat → Int → Option Nat} {G : az_G} {d : Nat} {Q : Option az_V → az_H → Prop} {T : Int → Int} {L e : Nat} {ru : Bool} {acc : List (Int × Int)}
theorem cAdd {o a : Int} (hc : CP T L ru s e acc) (hl : acc.length < 208) (hq : ∀ s', frP s s' → CP T L ru s' e (acc ++ [(o, a)]) → Q none (PS h s' r)) : cz G mX5_add d 0 0 [vo 19, vi o, vi a] (PS h s r) Q := by
  obtain ⟨c1, c2, c3, c4, c5⟩ := hc
  refine vX5_add ?_
  rw [ri_19_3, c3, ro_19_1, al_20, if_neg (by omega), ri_19_3, c3, ro_19_2, al_21, if_neg (by omega), ro_19_1, ri_19_3, c3, st_20]
  refine ⟨by omega, by omega, ?_⟩
  rw [ro_19_2, ri_19_3, show uf s 20 acc.length o 19 3 = s 19 3 from rfl, c3, st_21]
  refine ⟨by omega, by omega, ?_⟩
  rw [ri_19_3, show uf (uf s 20 acc.length o) 21 acc.length a 19 3 = s 19 3 from rfl, c3, wi_19_3, show w32 ((acc.length : Int) + 1) = ((acc.length + 1 : Nat) : Int) by rw [w32_id] <;> omega]
  have f : frP s (uf (uf (uf s 20 acc.length o) 21 acc.length a) 19 3 ((acc.length + 1 : Nat) : Int)) := ⟨fun x x1 x2 x3 x4 => by rw [uf, up_ne x2, uf, up_ne x4, uf, up_ne x3], fun k _ _ _ _ => rfl, fun k x => ud_ne x⟩
  refine hq _ f ⟨cTx_P f c1, c2, ?_, ?_, c5⟩
  · rw [List.length_append, List.length_singleton]; rfl
  · rw [sgR_app]
    refine ⟨sgR_fr 0 acc c4 (fun j j0 j1 => ?_), ?_⟩
    · show ud (s 20) acc.length o j = _ ∧ ud (s 21) acc.length a j = _
      rw [ud_ne (by omega), ud_ne (by omega)]
      exact ⟨rfl, rfl⟩
    · rw [Nat.zero_add]
      exact ⟨ud_at, ud_at, trivial⟩
theorem cNext (hs : ∀ s', strs (PS h s' r)) (hc : CP T L ru s e acc) (he : e ≤ L) (hq : ∀ s', frP s s' → CP T L ru s' (lxE T L e) acc → Q none (PS h s' r)) : cz G mX8_next (d + 7) 0 0 [vo 17] (PS h s r) Q := by
  obtain ⟨c1, c2, c3, c4, c5⟩ := hc
  refine sX8_next (d := d) hs c1 c2.2.1 (lxE_le he) (fun s' f1 t1 => hq s' (frP_17 f1) ⟨cTx_17 f1 c1, t1, ?_, ?_, ?_⟩)
  · rw [f1.1 19 (by decide)]; exact c3
  · rw [f1.1 20 (by decide), f1.1 21 (by decide)]; exact c4
  · rw [f1.1 19 (by decide)]; exact c5
theorem cToken (hc : CP T L ru s e acc) (hq : Q (some (vi (lxC T L e))) (PS h s r)) : cz G mX8_token d 0 0 [vo 17] (PS h s r) Q := by
  refine vX8_token ?_
  rw [ri_17_4, hc.2.1.2.2.1]
  exact hq
theorem cPass (hs : ∀ s', strs (PS h s' r)) {c : Int} (hc : CP T L ru s e acc) (he : e ≤ L) (h1 : lxC T L e = c → ∀ s', frP s s' → CP T L ru s' (lxE T L e) acc → Q (some (vi 1)) (PS h s' r)) (h0 : lxC T L e ≠ c → Q (some (vi 0)) (PS h s r)) : cz G mX5_pass (d + 8) 0 0 [vo 19, vi c] (PS h s r) Q := by
  refine vX5_pass ?_
  rw [ro_19_0, rc_17]
  refine cToken hc ?_
  rw [atI_q]
  by_cases k : lxC T L e = c
  · rw [if_pos k, ro_19_0, rc_17]
    refine cNext (d := d) hs hc he (fun s' f1 c1 => ?_)
    rw [atV_q]
    exact h1 k s' f1 c1
  · rw [if_neg k]; exact h0 k
theorem sX5_isOwn {hh : az_H} {c : Int} (h1 : c = 112 ∨ c = 113 → Q (some (vi 1)) hh) (h0 : ¬ (c = 112 ∨ c = 113) → Q (some (vi 0)) hh) : cz G mX5_isOwn d 0 0 [vi c] hh Q := by
  refine vX5_isOwn ?_
  by_cases k : c = 112
  · rw [if_pos k]; exact h1 (Or.inl k)
  rw [if_neg k]
  by_cases k2 : c = 113
  · rw [if_pos k2]; exact h1 (Or.inr k2)
  rw [if_neg k2]; exact h0 (by omega)
/-- the cell that a letter names, as the class numbers it -/
def cel (c : Int) : Int := if c = 112 then 6 else if c = 113 then 10 else if 97 ≤ c ∧ c ≤ 102 then c - 97 else -1
theorem sX5_cellOf {hh : az_H} {c : Int} (hq : Q (some (vi (cel c))) hh) : cz G mX5_cellOf (d + 1) 0 0 [vi c] hh Q := by
  refine vX5_cellOf ?_
  unfold cel at hq
  refine sX5_isOwn (fun k => ?_) (fun k => ?_)
  · rw [atI_q, if_neg (by decide)]
    by_cases k1 : c = 112
    · rw [if_pos k1] at hq ⊢; exact hq
    · rw [if_neg k1, if_pos (by omega)] at hq; rw [if_neg k1]; exact hq
  · rw [atI_q, if_pos rfl]
    rw [if_neg (by omega), if_neg (by omega)] at hq
    by_cases k1 : c < 97
    · rw [if_pos k1]; rw [if_neg (by omega)] at hq; exact hq
    rw [if_neg k1]
    by_cases k2 : 102 < c
    · rw [if_pos k2]; rw [if_neg (by omega)] at hq; exact hq
    rw [if_neg k2, w32_id (by omega) (by omega)]
    rw [if_pos (by omega)] at hq
    exact hq
def pOpR (C : Nat → Int) (X : Nat → Nat) (V : Nat → Int) (ru : Bool) (e : Nat) : PR := match pOp C V ru e with
  | none => (false, e, [])
  | some o => (true, X e, [o])
theorem tau_e (o a : Int) : tau (o, a) = (tO o a, tA o a) := rfl
/-- the class reads an operand -/
theorem cOperand (hs : ∀ s', strs (PS h s' r)) (hL : L ≤ 208) : CSp G h r T L ru mX5_readOperand (d + 9) [] (pOpR (lxC T L) (lxE T L) (lxN T L) ru) := by
  intro s e acc Q he hc hl hq
  have key : ∀ (o : Int × Int), pOp (lxC T L) (lxN T L) ru e = some o → acc.length < 208 ∧ ∀ s1, frP s s1 → CP T L ru s1 e (acc ++ [tau o]) → rdO (PS h s1 r) 19 5 0 (fun o14 => rcv (PS h s1 r) o14 8 (cz G mX8_next (d + 8) 0 0 [vo o14] (PS h s1 r) (fun v h15 => atV v (Q (some (vi 1)) h15)))) := by
    intro o ho
    have hne := pOp_ne ho
    have hadv := lxE_adv hc.1.2.2.2 he hne.1
    have hle := lxE_le (T := T) (L := L) he
    refine ⟨by omega, fun s1 f1 c1 => ?_⟩
    rw [ro_19_0, rc_17]
    refine cNext (d := d + 1) hs c1 he (fun s2 f2 c2 => ?_)
    rw [atV_q]
    have hR : pOpR (lxC T L) (lxE T L) (lxN T L) ru e = (true, lxE T L e, [o]) := by unfold pOpR; rw [ho]
    have := hq s2 (frP_tr f1 f2)
    rw [hR] at this
    exact this c2.2.1 (fun _ => c2)
  have bad : pOp (lxC T L) (lxN T L) ru e = none → ∀ s1, frP s s1 → cTok T L s1 e → Q (some (vi 0)) (PS h s1 r) := by
    intro ho s1 f1 c1
    have hR : pOpR (lxC T L) (lxE T L) (lxN T L) ru e = (false, e, []) := by unfold pOpR; rw [ho]
    have := hq s1 f1
    rw [hR] at this
    exact this c1 (fun z => by cases z)
  refine vX5_readOperand ?_
  rw [ro_19_0, rc_17]
  refine cToken hc ?_
  rw [atI_q]
  unfold pOp at key bad
  have hnum := hc.2.1.2.2.2
  generalize lxC T L e = c at key bad hnum ⊢
  by_cases k1 : c = 1
  · rw [if_pos k1] at key
    obtain ⟨hl2, kk⟩ := key _ rfl
    rw [if_pos k1, ro_19_0, rc_17]
    refine vX8_number ?_
    rw [ri_17_5, hnum k1, atI_q, rc_19]
    refine cAdd hc hl2 (fun s1 f1 c1 => ?_)
    rw [atV_q]
    exact kk s1 f1 c1
  rw [if_neg k1] at key bad ⊢
  by_cases k2 : c = 104
  · rw [if_pos k2] at key
    obtain ⟨hl2, kk⟩ := key _ rfl
    rw [if_pos k2, rc_19]
    refine cAdd hc hl2 (fun s1 f1 c1 => ?_)
    rw [atV_q]
    exact kk s1 f1 c1
  rw [if_neg k2] at key bad ⊢
  by_cases k3 : c = 80
  · rw [if_pos k3] at key
    obtain ⟨hl2, kk⟩ := key _ rfl
    rw [if_pos k3]
    refine vX5_readOperand_56 ?_
    rw [if_pos k3, rc_19]
    refine cAdd hc hl2 (fun s1 f1 c1 => ?_)
    rw [atV_q]
    exact kk s1 f1 c1
  rw [if_neg k3] at key bad ⊢
  by_cases k4 : c = 81
  · rw [if_pos k4] at key
    obtain ⟨hl2, kk⟩ := key _ rfl
    rw [if_pos k4]
    refine vX5_readOperand_56 ?_
    rw [if_neg k3, rc_19]
    refine cAdd hc hl2 (fun s1 f1 c1 => ?_)
    rw [atV_q]
    exact kk s1 f1 c1
  rw [if_neg k4] at key bad ⊢
  -- the rest of it, behind the cells that all share
  have rest : ¬ (97 ≤ c ∧ c ≤ 102) → pX5_readOperand_103 G (d + 8) 19 c (PS h s r) Q := by
    intro k5
    rw [if_neg k5] at key bad
    refine vX5_readOperand_103 ?_
    rw [ri_19_6, hc.2.2.2.2]
    cases ru with
    | true =>
      rw [if_pos rfl] at key bad
      rw [if_neg (show ¬ (if true = true then (1 : Int) else 0) = 0 by decide), rc_19]
      refine vX5_addMoney ?_
      by_cases k6 : c < 5
      · rw [if_pos k6, atI_q, if_pos rfl]
        rw [if_neg (by omega)] at bad
        exact bad rfl s frP_rf hc.2.1
      rw [if_neg k6]
      by_cases k7 : c ≤ 8
      · rw [if_pos (show 5 ≤ c ∧ c ≤ 8 by omega)] at key
        obtain ⟨hl2, kk⟩ := key _ rfl
        rw [if_pos k7, rc_19, show w32 (w32 (14 + c) - 5) = 14 + (c - 5) by rw [w32_id (x := 14 + c) (by omega) (by omega), w32_id (by omega) (by omega)]; omega]
        refine cAdd hc hl2 (fun s1 f1 c1 => ?_)
        rw [atV_q, atI_q, if_neg (by decide)]
        exact kk s1 f1 c1
      · rw [if_neg k7, atI_q, if_pos rfl]
        rw [if_neg (by omega)] at bad
        exact bad rfl s frP_rf hc.2.1
    | false =>
      rw [if_neg (by decide)] at key bad
      rw [if_pos (show (if false = true then (1 : Int) else 0) = 0 from rfl), rc_19]
      refine vX5_addOfCall ?_
      refine sX5_isOwn (fun k6 => ?_) (fun k6 => ?_)
      · rw [atI_q, if_neg (by decide)]
        refine sX5_cellOf ?_
        rw [atI_q, rc_19]
        by_cases k7 : c = 112
        · rw [if_pos k7] at key
          obtain ⟨hl2, kk⟩ := key _ rfl
          rw [show cel c = 6 by rw [k7]; decide]
          refine cAdd hc hl2 (fun s1 f1 c1 => ?_)
          rw [atV_q, atI_q, if_neg (by decide)]
          exact kk s1 f1 c1
        · have k8 : c = 113 := by omega
          rw [if_neg k7, if_pos k8] at key
          obtain ⟨hl2, kk⟩ := key _ rfl
          rw [show cel c = 10 by rw [k8]; decide]
          refine cAdd hc hl2 (fun s1 f1 c1 => ?_)
          rw [atV_q, atI_q, if_neg (by decide)]
          exact kk s1 f1 c1
      · rw [atI_q, if_pos rfl]
        rw [if_neg (by omega), if_neg (by omega)] at key bad
        by_cases k7 : c = 110
        · rw [if_pos k7] at key
          obtain ⟨hl2, kk⟩ := key _ rfl
          rw [if_pos k7, rc_19]
          refine cAdd hc hl2 (fun s1 f1 c1 => ?_)
          rw [atV_q, atI_q, if_neg (by decide)]
          exact kk s1 f1 c1
        rw [if_neg k7] at key bad ⊢
        by_cases k8 : c = 118
        · rw [if_pos k8] at key
          obtain ⟨hl2, kk⟩ := key _ rfl
          rw [if_pos k8, rc_19]
          refine cAdd hc hl2 (fun s1 f1 c1 => ?_)
          rw [atV_q, atI_q, if_neg (by decide)]
          exact kk s1 f1 c1
        rw [if_neg k8] at key bad ⊢
        by_cases k9 : c = 119
        · rw [if_pos k9] at key
          obtain ⟨hl2, kk⟩ := key _ rfl
          rw [if_pos k9, rc_19]
          refine cAdd hc hl2 (fun s1 f1 c1 => ?_)
          rw [atV_q, atI_q, if_neg (by decide)]
          exact kk s1 f1 c1
        rw [if_neg k9] at bad
        rw [if_neg k9, atI_q, if_pos rfl]
        exact bad rfl s frP_rf hc.2.1
  refine sX5_cellOf ?_
  rw [atI_q]
  by_cases k5 : 97 ≤ c ∧ c ≤ 102
  · have ec : cel c = c - 97 := by unfold cel; rw [if_neg (by omega), if_neg (by omega), if_pos k5]
    rw [ec, if_neg (by omega)]
    refine sX5_isOwn (fun k6 => absurd k6 (by omega)) (fun k6 => ?_)
    rw [atI_q, if_pos rfl]
    refine sX5_cellOf ?_
    rw [atI_q, rc_19, ec]
    rw [if_pos k5] at key
    obtain ⟨hl2, kk⟩ := key _ rfl
    refine cAdd hc hl2 (fun s1 f1 c1 => ?_)
    rw [atV_q]
    refine kk s1 f1 ?_
    rw [tau_e, show tO 2 (c - 97) = 2 by unfold tO; rw [if_neg (by decide), if_pos rfl, if_pos (by omega)], show tA 2 (c - 97) = c - 97 by unfold tA; rw [if_neg (by decide), if_pos rfl, if_pos (by omega)]]
    exact c1
  · by_cases k6 : cel c < 0
    · rw [if_pos k6]; exact rest k5
    · rw [if_neg k6]
      refine sX5_isOwn (fun k7 => ?_) (fun k7 => ?_)
      · rw [atI_q, if_neg (by decide)]; exact rest k5
      · exfalso
        unfold cel at k6
        rw [if_neg (by omega), if_neg (by omega), if_neg k5] at k6
        exact k6 (by decide)
/-- the bits of the signs ahead -/
def mvN : List Int → Nat
  | [] => 0
  | p :: ps => 2 * mvN ps + (if p = 10 then 1 else 0)
theorem mvN_lt : ∀ ps : List Int, mvN ps < 2 ^ ps.length
  | [] => by decide
  | p :: ps => by
    have := mvN_lt ps
    rw [List.length_cons, Nat.pow_succ]
    show 2 * mvN ps + (if p = 10 then 1 else 0) < _
    split <;> omega
theorem cFac_104 {x2 : Int} {ps : List Int} {e : Nat} {m : Nat} (hm : m < 256) (hx : x2 = ps.length) (h8 : ps.length ≤ 8) :
    ∀ (rest : List Int) (i : Nat) (s : Nat → Int → Int) (acc : List (Int × Int)), i + rest.length = ps.length → m / 2 ^ i = mvN rest → (∀ x ∈ rest, x = 9 ∨ x = 10) → CP T L ru s e acc → acc.length + rest.length ≤ 208 → (∀ s', frP s s' → CP T L ru s' e (acc ++ (z0 rest).map tau) → Q (some (vi 1)) (PS h s' r)) → pX5_readFactor_104 G d 19 x2 (m : Int) i (PS h s r) Q
  | [], i, s, acc, hi, _, _, hc, _, hq => by
    rw [List.length_nil] at hi
    refine vX5_readFactor_104 ?_
    rw [if_pos (by omega)]
    refine hq s frP_rf ?_
    show CP T L ru s e (acc ++ [])
    rw [List.append_nil]
    exact hc
  | p :: rest, i, s, acc, hi, hd, hp, hc, hl, hq => by
    rw [List.length_cons] at hi hl
    have ih := fun s1 acc1 => cFac_104 (e := e) hm hx h8 rest (i + 1) s1 acc1 (by omega) (by
      rw [Nat.pow_succ, ← Nat.div_div_eq_div_mul, hd]
      show (2 * mvN rest + (if p = 10 then 1 else 0)) / 2 = mvN rest
      split <;> omega) (fun x hx => hp x (List.mem_cons_of_mem _ hx))
    refine vX5_readFactor_104 ?_
    rw [if_neg (by omega)]
    have eb : bAnd (bShr (m : Int) (i : Int)) 1 = (if p = 10 then 1 else 0) := by
      rw [bShr_n (m : Int) (i : Int) (by omega) (by omega) (by omega) (by omega), bAnd_1, Int.toNat_natCast, Int.toNat_natCast, Nat.shiftRight_eq_div_pow, hd]
      show ((2 * mvN rest + (if p = 10 then 1 else 0) : Nat) : Int) % 2 = _
      split <;> omega
    rw [eb, show w32 ((i : Int) + 1) = ((i + 1 : Nat) : Int) by rw [w32_id] <;> omega]
    have fin : ∀ s1, frP s s1 → CP T L ru s1 e (acc ++ [tau (p, 0)]) → pX5_readFactor_104 G d 19 x2 (m : Int) ((i + 1 : Nat) : Int) (PS h s1 r) Q := by
      intro s1 f1 c1
      refine ih s1 _ c1 (by rw [List.length_append, List.length_singleton]; omega) (fun s2 f2 c2 => hq s2 (frP_tr f1 f2) ?_)
      rw [List.append_assoc] at c2
      exact c2
    by_cases k : p = 10
    · rw [if_pos k, if_pos rfl, rc_19]
      refine cAdd hc (by omega) (fun s1 f1 c1 => ?_)
      rw [atV_q]
      refine fin s1 f1 ?_
      rw [k]
      exact c1
    · have k9 : p = 9 := by
        rcases hp p List.mem_cons_self with z | z
        · exact z
        · exact absurd z k
      rw [if_neg k, if_neg (by decide), rc_19]
      refine cAdd hc (by omega) (fun s1 f1 c1 => ?_)
      rw [atV_q]
      refine fin s1 f1 ?_
      rw [k9]
      exact c1
/-- the class reads what stands in brackets -/
theorem cParen (hs : ∀ s', strs (PS h s' r)) (hL : L ≤ 208) {k : Nat} {x1 : Int} (hk : x1 = 8 - (k : Int)) (hk8 : k ≤ 8) {D : Nat} {pp : Nat → PR} (hok : okP L pp) (hp : ∀ k', k = k' + 1 → CSp G h r T L ru mX5_readExpression (D + 8) [vi (x1 + 1)] pp)
    {s : Nat → Int → Int} {e : Nat} {acc : List (Int × Int)} {Q : Option az_V → az_H → Prop} (he : e ≤ L) (hc : CP T L ru s e acc) (hl : acc.length ≤ e) (h40 : lxC T L e = 40)
    (hq : ∀ s', frP s s' → cTok T L s' (pPar (lxC T L) (lxE T L) k pp e).2.1 → ((pPar (lxC T L) (lxE T L) k pp e).1 = true → CP T L ru s' (pPar (lxC T L) (lxE T L) k pp e).2.1 (acc ++ (pPar (lxC T L) (lxE T L) k pp e).2.2.map tau)) → Q (some (vi (if (pPar (lxC T L) (lxE T L) k pp e).1 = true then 1 else 0))) (PS h s' r)) : cz G mX5_readParenthesis (D + 9) 0 0 [vo 19, vi x1] (PS h s r) Q := by
  refine vX5_readParenthesis ?_
  unfold pPar at hq
  by_cases ck : k = 0
  · rw [if_neg (by omega)]
    rw [if_pos ck] at hq
    exact hq s frP_rf hc.2.1 (fun z => by cases z)
  rw [if_neg ck] at hq
  obtain ⟨k', rfl⟩ : ∃ k', k = k' + 1 := ⟨k - 1, by omega⟩
  have hadv := lxE_adv hc.1.2.2.2 he (by rw [h40]; decide)
  have hle := lxE_le (T := T) (L := L) he
  rw [if_pos (by omega), ro_19_0, rc_17]
  refine cNext (d := D + 1) hs hc he (fun s1 f1 c1 => ?_)
  rw [atV_q, rc_19, show w32 (x1 + 1) = x1 + 1 by rw [w32_id] <;> omega]
  refine hp k' rfl s1 (lxE T L e) acc _ hle c1 (by omega) (fun s2 f2 t2 c2 => ?_)
  rw [atI_q]
  have hpo := hok (lxE T L e) hle
  by_cases cp : (pp (lxE T L e)).1 = true
  · rw [if_pos cp] at hq
    rw [if_pos cp, if_neg (by decide), rc_19]
    refine cPass (d := D) hs (c2 cp) hpo.2.1 (fun k41 s3 f3 c3 => ?_) (fun k41 => ?_)
    · rw [if_pos k41] at hq
      rw [atI_q, if_neg (by decide)]
      exact hq s3 (frP_tr f1 (frP_tr f2 f3)) c3.2.1 (fun _ => c3)
    · rw [if_neg k41] at hq
      rw [atI_q, if_pos rfl]
      exact hq s2 (frP_tr f1 f2) t2 (fun z => by cases z)
  · rw [if_neg cp] at hq
    rw [if_neg cp, if_pos rfl]
    exact hq s2 (frP_tr f1 f2) t2 (fun z => by cases z)
/-- the class reads a factor -/
theorem cFactor (hs : ∀ s', strs (PS h s' r)) (hL : L ≤ 208) {k : Nat} {x1 : Int} (hk : x1 = 8 - (k : Int)) (hk8 : k ≤ 8) {D : Nat} {pp : Nat → PR} (hok : okP L pp) (hp : ∀ k', k = k' + 1 → CSp G h r T L ru mX5_readExpression (D + 8) [vi (x1 + 1)] pp) : CSp G h r T L ru mX5_readFactor (D + 10) [vi x1] (pFac (lxC T L) (lxE T L) (lxN T L) ru k pp) := by
  intro s e acc Q he hc hl hq
  have ha : adv (lxC T L) (lxE T L) L := lx_adv hL hc.1.2.2.2
  refine vX5_readFactor ?_
  -- what stands behind the signs
  have atm : ∀ (e1 : Nat) (ps : List Int) (s1 : Nat → Int → Int), e1 ≤ L → ps.length ≤ 8 → e + ps.length ≤ e1 → (∀ x ∈ ps, x = 9 ∨ x = 10) → frP s s1 → CP T L ru s1 e1 acc → (∀ s', frP s s' → cTok T L s' (pAtm (lxC T L) (lxE T L) (lxN T L) ru k pp e1).2.1 → ((pAtm (lxC T L) (lxE T L) (lxN T L) ru k pp e1).1 = true → CP T L ru s' (pAtm (lxC T L) (lxE T L) (lxN T L) ru k pp e1).2.1 (acc ++ ((pAtm (lxC T L) (lxE T L) (lxN T L) ru k pp e1).2.2 ++ z0 ps).map tau)) → Q (some (vi (if (pAtm (lxC T L) (lxE T L) (lxN T L) ru k pp e1).1 = true then 1 else 0))) (PS h s' r)) → pX5_readFactor_69 G (D + 9) 19 x1 (ps.length : Int) (mvN ps : Int) (PS h s1 r) Q := by
    intro e1 ps s1 he1 h8 hle hps f1 c1 hq1
    have hpo := pAtm_ok (V := lxN T L) (ru := ru) (k := k) ha hok e1 he1
    have hmv : mvN ps < 256 := by
      have h1 := mvN_lt ps
      have h2 : 2 ^ ps.length ≤ 2 ^ 8 := Nat.pow_le_pow_right (by decide) h8
      omega
    refine vX5_readFactor_69 ?_
    rw [ro_19_0, rc_17]
    refine cToken c1 ?_
    rw [atI_q]
    have tail : ∀ s2, frP s s2 → (pAtm (lxC T L) (lxE T L) (lxN T L) ru k pp e1).1 = true → CP T L ru s2 (pAtm (lxC T L) (lxE T L) (lxN T L) ru k pp e1).2.1 (acc ++ (pAtm (lxC T L) (lxE T L) (lxN T L) ru k pp e1).2.2.map tau) → pX5_readFactor_104 G (D + 9) 19 (ps.length : Int) (mvN ps : Int) 0 (PS h s2 r) Q := by
      intro s2 f2 ct c2
      have h3 := hpo.2.2 ct
      refine cFac_104 (ps := ps) hmv rfl h8 ps 0 s2 _ (by omega) (by rw [Nat.pow_zero, Nat.div_one]) hps c2 (by rw [List.length_append, List.length_map]; omega) (fun s3 f3 c3 => ?_)
      have := hq1 s3 (frP_tr f2 f3) c3.2.1 (fun _ => by rw [List.map_append, ← List.append_assoc]; exact c3)
      rw [if_pos ct] at this
      exact this
    by_cases c40 : lxC T L e1 = 40
    · have eA : pAtm (lxC T L) (lxE T L) (lxN T L) ru k pp e1 = pPar (lxC T L) (lxE T L) k pp e1 := by unfold pAtm; rw [if_pos c40]
      rw [if_pos c40, rc_19]
      rw [eA] at tail hq1
      refine cParen (D := D) hs hL hk hk8 hok hp he1 c1 (by omega) c40 (fun s2 f2 t2 c2 => ?_)
      rw [atI_q]
      by_cases cp : (pPar (lxC T L) (lxE T L) k pp e1).1 = true
      · rw [if_pos cp, if_neg (by decide)]
        exact tail s2 (frP_tr f1 f2) cp (c2 cp)
      · rw [if_neg cp, if_pos rfl]
        have := hq1 s2 (frP_tr f1 f2) t2 (fun z => absurd z cp)
        rw [if_neg cp] at this
        exact this
    · have eA : pAtm (lxC T L) (lxE T L) (lxN T L) ru k pp e1 = pOpR (lxC T L) (lxE T L) (lxN T L) ru e1 := by unfold pAtm; rw [if_neg c40]; rfl
      rw [if_neg c40, rc_19]
      rw [eA] at tail hq1
      refine cOperand (d := D) hs hL s1 e1 acc _ he1 c1 (by omega) (fun s2 f2 t2 c2 => ?_)
      rw [atI_q]
      by_cases cp : (pOpR (lxC T L) (lxE T L) (lxN T L) ru e1).1 = true
      · rw [if_pos cp, if_neg (by decide)]
        exact tail s2 (frP_tr f1 f2) cp (c2 cp)
      · rw [if_neg cp, if_pos rfl]
        have := hq1 s2 (frP_tr f1 f2) t2 (fun z => absurd z cp)
        rw [if_neg cp] at this
        exact this
  have pre : ∀ (f e1 : Nat) (ps : List Int) (s1 : Nat → Int → Int), ps.length + f = 8 → e1 ≤ L → e + ps.length ≤ e1 → (∀ x ∈ ps, x = 9 ∨ x = 10) → frP s s1 → CP T L ru s1 e1 acc → pPre (lxC T L) (lxE T L) f e1 ps = pPre (lxC T L) (lxE T L) 8 e [] → pX5_readFactor_4 G (D + 9) 19 x1 (ps.length : Int) (mvN ps : Int) (PS h s1 r) Q := by
    have stop : ∀ (e1 : Nat) (ps : List Int) (s1 : Nat → Int → Int), ps.length ≤ 8 → e1 ≤ L → e + ps.length ≤ e1 → (∀ x ∈ ps, x = 9 ∨ x = 10) → frP s s1 → CP T L ru s1 e1 acc → (e1, ps) = pPre (lxC T L) (lxE T L) 8 e [] → pX5_readFactor_69 G (D + 9) 19 x1 (ps.length : Int) (mvN ps : Int) (PS h s1 r) Q := by
      intro e1 ps s1 h8 he1 hle hps f1 c1 heq
      refine atm e1 ps s1 he1 h8 hle hps f1 c1 (fun s2 f2 t2 c2 => ?_)
      unfold pFac at hq
      rw [← heq] at hq
      dsimp only at hq
      by_cases cp : (pAtm (lxC T L) (lxE T L) (lxN T L) ru k pp e1).1 = true
      · rw [if_pos cp] at hq ⊢
        exact hq s2 f2 t2 (fun _ => c2 cp)
      · rw [if_neg cp] at hq ⊢
        exact hq s2 f2 t2 (fun z => by cases z)
    intro f
    induction f with
    | zero =>
      intro e1 ps s1 hf he1 hle hps f1 c1 heq
      refine vX5_readFactor_4 ?_
      rw [if_pos (by omega)]
      exact stop e1 ps s1 (by omega) he1 hle hps f1 c1 heq
    | succ f ih =>
      intro e1 ps s1 hf he1 hle hps f1 c1 heq
      have hmv : mvN ps < 256 := by
        have h1 := mvN_lt ps
        have h2 : 2 ^ ps.length ≤ 2 ^ 8 := Nat.pow_le_pow_right (by decide) (by omega)
        omega
      refine vX5_readFactor_4 ?_
      rw [if_neg (by omega), ro_19_0, rc_17]
      refine cToken c1 ?_
      rw [atI_q]
      unfold pPre at heq
      have one : ∀ (x : Int), lxC T L e1 = 33 ∨ lxC T L e1 = 45 → (x = 10 ↔ lxC T L e1 = 45) → (x = 9 ∨ x = 10) → pPre (lxC T L) (lxE T L) f (lxE T L e1) (x :: ps) = pPre (lxC T L) (lxE T L) 8 e [] → pX5_readFactor_34 G (D + 9) 19 x1 (ps.length : Int) (mvN ps : Int) (PS h s1 r) Q := by
        intro x hx1 hx2 hx3 heq1
        have hadv := lxE_adv c1.1.2.2.2 he1 (by omega)
        have hle2 := lxE_le (T := T) (L := L) he1
        refine vX5_readFactor_34 ?_
        rw [ro_19_0, rc_17]
        refine cToken c1 ?_
        rw [atI_q, show w32 ((ps.length : Int) + 1) = (((x :: ps).length : Nat) : Int) by rw [List.length_cons, w32_id] <;> omega, show w32 ((mvN ps : Int) * 2) = (mvN ps : Int) * 2 by rw [w32_id] <;> omega]
        have nx := fun s2 f2 c2 => ih (lxE T L e1) (x :: ps) s2 (by rw [List.length_cons]; omega) hle2 (by rw [List.length_cons]; omega) (fun y hy => by
          rcases List.mem_cons.mp hy with z | z
          · rw [z]; exact hx3
          · exact hps y z) f2 c2 heq1
        by_cases c45 : lxC T L e1 = 45
        · rw [if_pos c45, ro_19_0, rc_17]
          refine cNext (d := D + 2) hs c1 he1 (fun s2 f2 c2 => ?_)
          rw [atV_q, show w32 ((mvN ps : Int) * 2 + 1) = ((mvN (x :: ps) : Nat) : Int) by
            rw [w32_id (by omega) (by omega)]
            show _ = ((2 * mvN ps + (if x = 10 then 1 else 0) : Nat) : Int)
            rw [if_pos (hx2.mpr c45)]; omega]
          exact nx s2 (frP_tr f1 f2) c2
        · rw [if_neg c45, ro_19_0, rc_17]
          refine cNext (d := D + 2) hs c1 he1 (fun s2 f2 c2 => ?_)
          rw [atV_q, show w32 ((mvN ps : Int) * 2 + 0) = ((mvN (x :: ps) : Nat) : Int) by
            rw [w32_id (by omega) (by omega)]
            show _ = ((2 * mvN ps + (if x = 10 then 1 else 0) : Nat) : Int)
            rw [if_neg (fun z => c45 (hx2.mp z))]; omega]
          exact nx s2 (frP_tr f1 f2) c2
      by_cases c33 : lxC T L e1 = 33
      · rw [if_pos c33] at heq ⊢
        exact one 9 (Or.inl c33) (by omega) (Or.inl rfl) heq
      rw [if_neg c33] at heq ⊢
      rw [ro_19_0, rc_17]
      refine cToken c1 ?_
      rw [atI_q]
      by_cases c45 : lxC T L e1 = 45
      · rw [if_pos c45] at heq ⊢
        exact one 10 (Or.inr c45) (by omega) (Or.inr rfl) heq
      · rw [if_neg c45] at heq ⊢
        exact stop e1 ps s1 (by omega) he1 hle hps f1 c1 heq
  exact pre 8 e [] s rfl he (by rw [List.length_nil]; omega) (fun x hx => by cases hx) frP_rf hc rfl
theorem sX5_productOp {hh : az_H} {c : Int} (h0 : opl 3 c = 0 → Q (some (vi 0)) hh) (h1 : opl 3 c ≠ 0 → Q (some (vi (opl 3 c - 1))) hh) : cz G mX5_productOp d 0 0 [vi c] hh Q := by
  refine vX5_productOp ?_
  unfold opl str stO at h0 h1
  by_cases k38 : c = 38
  · subst k38
    rw [if_pos rfl]
    exact h1 (by decide)
  rw [if_neg k38]
  by_cases k42 : c = 42
  · subst k42
    rw [if_pos rfl]
    exact h1 (by decide)
  rw [if_neg k42]
  by_cases k47 : c = 47
  · subst k47
    rw [if_pos rfl]
    exact h1 (by decide)
  rw [if_neg k47]
  rw [if_neg (by
    intro z
    split at z <;> (try split at z) <;> (try split at z) <;> omega)] at h0
  exact h0 rfl
theorem creadProduct (hs : ∀ s', strs (PS h s' r)) (hL : L ≤ 208) {x1 : Int} {D : Nat} {q : Nat → PR} (hok : okP L q) (hq0 : CSp G h r T L ru mX5_readFactor (D + 8) [vi x1] q) : CSp G h r T L ru mX5_readProduct (D + 9) [vi x1] (pBin (lxC T L) (lxE T L) 3 q) := by
  intro s e acc Q he hc hl hq
  have ha : adv (lxC T L) (lxE T L) L := lx_adv hL hc.1.2.2.2
  have lp : ∀ (f e1 : Nat) (cd : List (Int × Int)) (s1 : Nat → Int → Int), f ≤ 208 → e1 ≤ L → e + cd.length ≤ e1 → frP s s1 → CP T L ru s1 e1 (acc ++ cd.map tau) → (∀ s', frP s s' → cTok T L s' (pLp (lxC T L) (lxE T L) 3 q f e1 cd).2.1 → ((pLp (lxC T L) (lxE T L) 3 q f e1 cd).1 = true → CP T L ru s' (pLp (lxC T L) (lxE T L) 3 q f e1 cd).2.1 (acc ++ (pLp (lxC T L) (lxE T L) 3 q f e1 cd).2.2.map tau)) → Q (some (vi (if (pLp (lxC T L) (lxE T L) 3 q f e1 cd).1 = true then 1 else 0))) (PS h s' r)) → pX5_readProduct_12 G (D + 8) 19 x1 (208 - (f : Int)) (PS h s1 r) Q := by
    intro f
    induction f with
    | zero =>
      intro e1 cd s1 hf he1 hle f1 c1 hq1
      refine vX5_readProduct_12 ?_
      rw [if_pos (by omega)]
      exact hq1 s1 f1 c1.2.1 (fun _ => c1)
    | succ f ih =>
      intro e1 cd s1 hf he1 hle f1 c1 hq1
      refine vX5_readProduct_12 ?_
      rw [if_neg (by omega), ro_19_0, rc_17]
      refine cToken c1 ?_
      rw [atI_q]
      unfold pLp at hq1
      refine sX5_productOp (fun k0 => ?_) (fun k0 => ?_)
      · rw [if_pos k0] at hq1
        rw [atI_q, if_pos rfl]
        exact hq1 s1 f1 c1.2.1 (fun _ => c1)
      · rw [if_neg k0] at hq1
        have hop := opl_n k0
        have hrg := stO_rg (lxC T L e1)
        have a1 := ha.2 e1 he1 (str_p (c := lxC T L e1) (by omega)).1
        rw [atI_q, if_neg (by omega), ro_19_0, rc_17]
        refine cNext (d := D + 1) hs c1 he1 (fun s2 f2 c2 => ?_)
        rw [atV_q, rc_19]
        refine hq0 s2 (lxE T L e1) _ _ a1.2 c2 (by rw [List.length_append, List.length_map]; omega) (fun s3 f3 t3 c3 => ?_)
        rw [atI_q]
        have h2 := hok (lxE T L e1) a1.2
        by_cases cq : (q (lxE T L e1)).1 = true
        · rw [if_pos cq] at hq1
          have h3 := h2.2.2 cq
          rw [if_pos cq, if_neg (by decide), rc_19]
          refine cAdd (c3 cq) (by rw [List.length_append, List.length_append, List.length_map, List.length_map]; omega) (fun s4 f4 c4 => ?_)
          rw [atV_q, show w32 (208 - ((f + 1 : Nat) : Int) + 1) = 208 - (f : Int) by rw [w32_id] <;> omega]
          refine ih _ _ s4 (by omega) h2.2.1 (by rw [List.length_append, List.length_append, List.length_singleton]; omega) (frP_tr f1 (frP_tr f2 (frP_tr f3 f4))) ?_ hq1
          have et : tau (opl 3 (lxC T L e1), 0) = (opl 3 (lxC T L e1) - 1, 0) := by
            rw [hop.2, tau_e]
            unfold tO tA
            rw [if_neg (by omega), if_neg (by omega), if_neg (by omega), if_neg (by omega), if_neg (by omega), if_neg (by omega), if_neg (by omega), if_neg (by omega), if_neg (by omega), if_neg (by omega), if_neg (by omega), if_neg (by omega), if_neg (by omega)]
          rw [List.map_append, List.map_append, List.map_singleton, et, ← List.append_assoc, ← List.append_assoc]
          exact c4
        · rw [if_neg cq] at hq1
          rw [if_neg cq, if_pos rfl]
          exact hq1 s3 (frP_tr f1 (frP_tr f2 f3)) t3 (fun z => by cases z)
  refine vX5_readProduct ?_
  rw [rc_19]
  refine hq0 s e acc _ he hc hl (fun s1 f1 t1 c1 => ?_)
  rw [atI_q]
  unfold pBin at hq
  have h2 := hok e he
  by_cases cq : (q e).1 = true
  · rw [if_pos cq] at hq
    rw [if_pos cq, if_neg (by decide)]
    have h3 := h2.2.2 cq
    exact lp 208 (q e).2.1 (q e).2.2 s1 (by omega) h2.2.1 h3.2 f1 (c1 cq) hq
  · rw [if_neg cq] at hq
    rw [if_neg cq, if_pos rfl]
    exact hq s1 f1 t1 (fun z => by cases z)
theorem sX5_sumOp {hh : az_H} {c : Int} (h0 : opl 2 c = 0 → Q (some (vi 0)) hh) (h1 : opl 2 c ≠ 0 → Q (some (vi (opl 2 c - 1))) hh) : cz G mX5_sumOp d 0 0 [vi c] hh Q := by
  refine vX5_sumOp ?_
  unfold opl str stO at h0 h1
  by_cases k43 : c = 43
  · subst k43
    rw [if_pos rfl]
    exact h1 (by decide)
  rw [if_neg k43]
  by_cases k45 : c = 45
  · subst k45
    rw [if_pos rfl]
    exact h1 (by decide)
  rw [if_neg k45]
  by_cases k124 : c = 124
  · subst k124
    rw [if_pos rfl]
    exact h1 (by decide)
  rw [if_neg k124]
  rw [if_neg (by
    intro z
    split at z <;> (try split at z) <;> (try split at z) <;> omega)] at h0
  exact h0 rfl
theorem creadSum (hs : ∀ s', strs (PS h s' r)) (hL : L ≤ 208) {x1 : Int} {D : Nat} {q : Nat → PR} (hok : okP L q) (hq0 : CSp G h r T L ru mX5_readProduct (D + 8) [vi x1] q) : CSp G h r T L ru mX5_readSum (D + 9) [vi x1] (pBin (lxC T L) (lxE T L) 2 q) := by
  intro s e acc Q he hc hl hq
  have ha : adv (lxC T L) (lxE T L) L := lx_adv hL hc.1.2.2.2
  have lp : ∀ (f e1 : Nat) (cd : List (Int × Int)) (s1 : Nat → Int → Int), f ≤ 208 → e1 ≤ L → e + cd.length ≤ e1 → frP s s1 → CP T L ru s1 e1 (acc ++ cd.map tau) → (∀ s', frP s s' → cTok T L s' (pLp (lxC T L) (lxE T L) 2 q f e1 cd).2.1 → ((pLp (lxC T L) (lxE T L) 2 q f e1 cd).1 = true → CP T L ru s' (pLp (lxC T L) (lxE T L) 2 q f e1 cd).2.1 (acc ++ (pLp (lxC T L) (lxE T L) 2 q f e1 cd).2.2.map tau)) → Q (some (vi (if (pLp (lxC T L) (lxE T L) 2 q f e1 cd).1 = true then 1 else 0))) (PS h s' r)) → pX5_readSum_12 G (D + 8) 19 x1 (208 - (f : Int)) (PS h s1 r) Q := by
    intro f
    induction f with
    | zero =>
      intro e1 cd s1 hf he1 hle f1 c1 hq1
      refine vX5_readSum_12 ?_
      rw [if_pos (by omega)]
      exact hq1 s1 f1 c1.2.1 (fun _ => c1)
    | succ f ih =>
      intro e1 cd s1 hf he1 hle f1 c1 hq1
      refine vX5_readSum_12 ?_
      rw [if_neg (by omega), ro_19_0, rc_17]
      refine cToken c1 ?_
      rw [atI_q]
      unfold pLp at hq1
      refine sX5_sumOp (fun k0 => ?_) (fun k0 => ?_)
      · rw [if_pos k0] at hq1
        rw [atI_q, if_pos rfl]
        exact hq1 s1 f1 c1.2.1 (fun _ => c1)
      · rw [if_neg k0] at hq1
        have hop := opl_n k0
        have hrg := stO_rg (lxC T L e1)
        have a1 := ha.2 e1 he1 (str_p (c := lxC T L e1) (by omega)).1
        rw [atI_q, if_neg (by omega), ro_19_0, rc_17]
        refine cNext (d := D + 1) hs c1 he1 (fun s2 f2 c2 => ?_)
        rw [atV_q, rc_19]
        refine hq0 s2 (lxE T L e1) _ _ a1.2 c2 (by rw [List.length_append, List.length_map]; omega) (fun s3 f3 t3 c3 => ?_)
        rw [atI_q]
        have h2 := hok (lxE T L e1) a1.2
        by_cases cq : (q (lxE T L e1)).1 = true
        · rw [if_pos cq] at hq1
          have h3 := h2.2.2 cq
          rw [if_pos cq, if_neg (by decide), rc_19]
          refine cAdd (c3 cq) (by rw [List.length_append, List.length_append, List.length_map, List.length_map]; omega) (fun s4 f4 c4 => ?_)
          rw [atV_q, show w32 (208 - ((f + 1 : Nat) : Int) + 1) = 208 - (f : Int) by rw [w32_id] <;> omega]
          refine ih _ _ s4 (by omega) h2.2.1 (by rw [List.length_append, List.length_append, List.length_singleton]; omega) (frP_tr f1 (frP_tr f2 (frP_tr f3 f4))) ?_ hq1
          have et : tau (opl 2 (lxC T L e1), 0) = (opl 2 (lxC T L e1) - 1, 0) := by
            rw [hop.2, tau_e]
            unfold tO tA
            rw [if_neg (by omega), if_neg (by omega), if_neg (by omega), if_neg (by omega), if_neg (by omega), if_neg (by omega), if_neg (by omega), if_neg (by omega), if_neg (by omega), if_neg (by omega), if_neg (by omega), if_neg (by omega), if_neg (by omega)]
          rw [List.map_append, List.map_append, List.map_singleton, et, ← List.append_assoc, ← List.append_assoc]
          exact c4
        · rw [if_neg cq] at hq1
          rw [if_neg cq, if_pos rfl]
          exact hq1 s3 (frP_tr f1 (frP_tr f2 f3)) t3 (fun z => by cases z)
  refine vX5_readSum ?_
  rw [rc_19]
  refine hq0 s e acc _ he hc hl (fun s1 f1 t1 c1 => ?_)
  rw [atI_q]
  unfold pBin at hq
  have h2 := hok e he
  by_cases cq : (q e).1 = true
  · rw [if_pos cq] at hq
    rw [if_pos cq, if_neg (by decide)]
    have h3 := h2.2.2 cq
    exact lp 208 (q e).2.1 (q e).2.2 s1 (by omega) h2.2.1 h3.2 f1 (c1 cq) hq
  · rw [if_neg cq] at hq
    rw [if_neg cq, if_pos rfl]
    exact hq s1 f1 t1 (fun z => by cases z)
/-- the class reads an expression -/
theorem cExpr (hs : ∀ s', strs (PS h s' r)) (hL : L ≤ 208) {x1 : Int} {D : Nat} {q : Nat → PR} (hok : okP L q) (hq0 : CSp G h r T L ru mX5_readSum (D + 8) [vi x1] q) : CSp G h r T L ru mX5_readExpression (D + 9) [vi x1] (pExp (lxC T L) (lxE T L) q) := by
  intro s e acc Q he hc hl hq
  have ha : adv (lxC T L) (lxE T L) L := lx_adv hL hc.1.2.2.2
  refine vX5_readExpression ?_
  rw [rc_19]
  refine hq0 s e acc _ he hc hl (fun s1 f1 t1 c1 => ?_)
  rw [atI_q]
  unfold pExp at hq
  have h2 := hok e he
  by_cases cq : (q e).1 = true
  · rw [if_pos cq] at hq
    rw [if_pos cq, if_neg (by decide), ro_19_0, rc_17]
    have h3 := h2.2.2 cq
    refine cToken (c1 cq) ?_
    rw [atI_q]
    generalize he1 : (q e).2.1 = e1 at *
    have go : str (lxC T L e1) = 1 → (lxC T L e1 = 60 ∨ lxC T L e1 = 61) → pX5_readExpression_32 G (D + 8) 19 x1 (lxC T L e1) (PS h s1 r) Q := by
      intro hs1 hc1
      rw [if_pos hs1] at hq
      have a1 := ha.2 e1 h2.2.1 (by omega)
      refine vX5_readExpression_32 ?_
      rw [ro_19_0, rc_17]
      refine cNext (d := D + 1) hs (c1 cq) h2.2.1 (fun s2 f2 c2 => ?_)
      rw [atV_q, rc_19]
      refine hq0 s2 (lxE T L e1) _ _ a1.2 c2 (by rw [List.length_append, List.length_map]; omega) (fun s3 f3 t3 c3 => ?_)
      rw [atI_q]
      have h4 := hok (lxE T L e1) a1.2
      by_cases cr : (q (lxE T L e1)).1 = true
      · rw [if_pos cr] at hq
        have h5 := h4.2.2 cr
        rw [if_pos cr, if_neg (by decide)]
        have fin : ∀ s4, frP s3 s4 → CP T L ru s4 (q (lxE T L e1)).2.1 (acc ++ (q e).2.2.map tau ++ (q (lxE T L e1)).2.2.map tau ++ [tau (stO (lxC T L e1), 0)]) → Q (some (vi 1)) (PS h s4 r) := by
          intro s4 f4 c4
          refine hq s4 (frP_tr f1 (frP_tr f2 (frP_tr f3 f4))) c4.2.1 (fun _ => ?_)
          show CP T L ru s4 (q (lxE T L e1)).2.1 (acc ++ ((q e).2.2 ++ (q (lxE T L e1)).2.2 ++ [(stO (lxC T L e1), 0)]).map tau)
          rw [List.map_append, List.map_append, List.map_singleton, ← List.append_assoc, ← List.append_assoc]
          exact c4
        by_cases c60 : lxC T L e1 = 60
        · rw [if_pos c60, rc_19]
          rw [c60] at fin
          refine cAdd (c3 cr) (by rw [List.length_append, List.length_append, List.length_map, List.length_map]; omega) (fun s4 f4 c4 => ?_)
          rw [atV_q]
          exact fin s4 f4 c4
        · have c61 : lxC T L e1 = 61 := by omega
          rw [if_neg c60, rc_19]
          rw [c61] at fin
          refine cAdd (c3 cr) (by rw [List.length_append, List.length_append, List.length_map, List.length_map]; omega) (fun s4 f4 c4 => ?_)
          rw [atV_q]
          exact fin s4 f4 c4
      · rw [if_neg cr] at hq
        rw [if_neg cr, if_pos rfl]
        exact hq s3 (frP_tr f1 (frP_tr f2 f3)) t3 (fun z => by cases z)
    by_cases c60 : lxC T L e1 = 60
    · rw [if_pos c60]
      exact go (by rw [c60]; decide) (Or.inl c60)
    rw [if_neg c60]
    by_cases c61 : lxC T L e1 = 61
    · rw [if_pos c61]
      exact go (by rw [c61]; decide) (Or.inr c61)
    rw [if_neg c61]
    rw [if_neg (show ¬ str (lxC T L e1) = 1 by
      unfold str
      split
      · decide
      split
      · decide
      rw [if_neg (by omega)]
      decide)] at hq
    exact hq s1 f1 t1 (fun _ => c1 cq)
  · rw [if_neg cq] at hq
    rw [if_neg cq, if_pos rfl]
    exact hq s1 f1 t1 (fun z => by cases z)
theorem cE (hs : ∀ s', strs (PS h s' r)) (hL : L ≤ 208) (ha : adv (lxC T L) (lxE T L) L) : ∀ k : Nat, k ≤ 8 → CSp G h r T L ru mX5_readExpression (d + 13 + 5 * k) [vi (8 - (k : Int))] (pE (lxC T L) (lxE T L) (lxN T L) ru k)
  | 0, _ => by
    have o0 : okP L (fun e => (false, e, [])) := fun e he => ⟨Nat.le_refl _, he, fun z => by cases z⟩
    have o1 := pFac_ok (V := lxN T L) (ru := ru) (k := 0) ha o0
    have o2 := pBin_ok ha (l := 3) (by decide) o1
    have o3 := pBin_ok ha (l := 2) (by decide) o2.1
    have f1 := cFactor (G := G) (h := h) (r := r) (T := T) (L := L) (ru := ru) (k := 0) (x1 := 8 - ((0 : Nat) : Int)) (D := d) hs hL rfl (by decide) o0 (fun k' hk => by omega)
    have f2 := creadProduct (D := d + 2) hs hL o1 f1
    have f3 := creadSum (D := d + 3) hs hL o2.1 f2
    exact cExpr (D := d + 4) hs hL o3.1 f3
  | k + 1, hk => by
    have o0 := pE_ok (V := lxN T L) (ru := ru) ha k
    have o1 := pFac_ok (V := lxN T L) (ru := ru) (k := k + 1) ha o0
    have o2 := pBin_ok ha (l := 3) (by decide) o1
    have o3 := pBin_ok ha (l := 2) (by decide) o2.1
    have ih := cE hs hL ha k (by omega)
    have f1 := cFactor (G := G) (h := h) (r := r) (T := T) (L := L) (ru := ru) (k := k + 1) (x1 := 8 - ((k + 1 : Nat) : Int)) (D := d + 5 + 5 * k) hs hL rfl hk o0 (fun k' hk' => by
      rw [show (8 : Int) - ((k + 1 : Nat) : Int) + 1 = 8 - (k : Int) by omega, show d + 5 + 5 * k + 8 = d + 13 + 5 * k by omega]
      exact ih)
    have f2 := creadProduct (D := d + 5 + 5 * k + 2) hs hL o1 f1
    have f3 := creadSum (D := d + 5 + 5 * k + 3) hs hL o2.1 f2
    have f4 := cExpr (D := d + 5 + 5 * k + 4) hs hL o3.1 f3
    rw [show d + 5 + 5 * k + 4 + 9 = d + 13 + 5 * (k + 1) by omega] at f4
    exact f4
end CX
