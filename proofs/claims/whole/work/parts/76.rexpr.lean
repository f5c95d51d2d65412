/-! TEXTS: the reference reads an expression -/
def shf (g : Int → Int) : Int → Int := fun i => g (4200 + i)
def plR : List Int → (Int → Int) → Prop
  | [], _ => True
  | x :: p, g => g (p.length : Nat) = x ∧ plR p g
theorem plR_fr {g g' : Int → Int} : ∀ p : List Int, plR p g → (∀ k : Int, 0 ≤ k → k < p.length → g' k = g k) → plR p g'
  | [], _, _ => trivial
  | x :: p, h, e => ⟨by rw [e _ (by omega) (by rw [List.length_cons]; omega)]; exact h.1, plR_fr p h.2 (fun k k0 k1 => e k k0 (by rw [List.length_cons]; omega))⟩
def RX (s : Nat → Int → Int) (o : List (Int × Int)) (p : List Int) : Prop := s 59 14 = o.length ∧ sgR (shf (s 56)) (shf (s 57)) 0 o ∧ plR p (s 62) ∧ s 54 15 = p.length
def frR (s s' : Nat → Int → Int) : Prop := (∀ a, a ≠ 54 → a ≠ 56 → a ≠ 57 → a ≠ 59 → s' a = s a) ∧ (∀ k, k ≠ 15 → s' 54 k = s 54 k) ∧ (∀ j, j < 4200 → s' 56 j = s 56 j ∧ s' 57 j = s 57 j) ∧ ∀ j, j ≠ 14 → s' 59 j = s 59 j
theorem frR_rf {s : Nat → Int → Int} : frR s s := ⟨fun _ _ _ _ _ => rfl, fun _ _ => rfl, fun _ _ => ⟨rfl, rfl⟩, fun _ _ => rfl⟩
theorem frR_tr {s s' s'' : Nat → Int → Int} (h1 : frR s s') (h2 : frR s' s'') : frR s s'' := ⟨fun a x1 x2 x3 x4 => (h2.1 a x1 x2 x3 x4).trans (h1.1 a x1 x2 x3 x4), fun k x => (h2.2.1 k x).trans (h1.2.1 k x), fun j x => ⟨(h2.2.2.1 j x).1.trans (h1.2.2.1 j x).1, (h2.2.2.1 j x).2.trans (h1.2.2.1 j x).2⟩, fun j x => (h2.2.2.2 j x).trans (h1.2.2.2 j x)⟩
theorem frR_15 {s : Nat → Int → Int} {v : Int} : frR s (uf s 54 15 v) := ⟨fun a y1 _ _ _ => up_ne y1, fun k y => ud_ne y, fun j _ => ⟨rfl, rfl⟩, fun j _ => rfl⟩
def frU (s s' : Nat → Int → Int) : Prop := (∀ a, a ≠ 54 → a ≠ 56 → a ≠ 57 → a ≠ 59 → a ≠ 62 → s' a = s a) ∧ (∀ k, ¬ (2 ≤ k ∧ k ≤ 6) → k ≠ 14 → k ≠ 15 → k ≠ 17 → s' 54 k = s 54 k) ∧ (∀ j, j < 4200 → s' 56 j = s 56 j ∧ s' 57 j = s 57 j) ∧ ∀ j, j ≠ 14 → s' 59 j = s 59 j
theorem frU_rf {s : Nat → Int → Int} : frU s s := ⟨fun _ _ _ _ _ _ => rfl, fun _ _ _ _ _ => rfl, fun _ _ => ⟨rfl, rfl⟩, fun _ _ => rfl⟩
theorem frU_tr {s s' s'' : Nat → Int → Int} (h1 : frU s s') (h2 : frU s' s'') : frU s s'' := ⟨fun a x1 x2 x3 x4 x5 => (h2.1 a x1 x2 x3 x4 x5).trans (h1.1 a x1 x2 x3 x4 x5), fun k x1 x2 x3 x4 => (h2.2.1 k x1 x2 x3 x4).trans (h1.2.1 k x1 x2 x3 x4), fun j x => ⟨(h2.2.2.1 j x).1.trans (h1.2.2.1 j x).1, (h2.2.2.1 j x).2.trans (h1.2.2.1 j x).2⟩, fun j x => (h2.2.2.2 j x).trans (h1.2.2.2 j x)⟩
theorem frU_R {s s' : Nat → Int → Int} (h1 : frR s s') : frU s s' := ⟨fun a x1 x2 x3 x4 _ => h1.1 a x1 x2 x3 x4, fun k _ _ x3 _ => h1.2.1 k x3, h1.2.2.1, h1.2.2.2⟩
theorem frU_54 {s : Nat → Int → Int} {k v : Int} (hk : (2 ≤ k ∧ k ≤ 6) ∨ k = 14 ∨ k = 15 ∨ k = 17) : frU s (uf s 54 k v) := ⟨fun a x1 _ _ _ _ => up_ne x1, fun j x1 x2 x3 x4 => ud_ne (by omega), fun j _ => ⟨rfl, rfl⟩, fun j _ => rfl⟩
theorem frU_62 {s : Nat → Int → Int} {k v : Int} : frU s (uf s 62 k v) := ⟨fun a _ _ _ _ x5 => up_ne x5, fun j _ _ _ _ => rfl, fun j _ => ⟨rfl, rfl⟩, fun j _ => rfl⟩
theorem frU_n {s s' : Nat → Int → Int} (h1 : fr54 s s') : frU s s' := ⟨fun a x1 _ _ _ _ => h1.1 a x1, fun k x1 _ _ _ => h1.2 k (by omega) (by omega) (by omega) (by omega) (by omega), fun j _ => ⟨by rw [h1.1 56 (by decide)], by rw [h1.1 57 (by decide)]⟩, fun j _ => by rw [h1.1 59 (by decide)]⟩
theorem rTx_U {T : Int → Int} {L : Nat} {s s' : Nat → Int → Int} (hf : frU s s') (hx : rTx T L s) : rTx T L s' := by
  unfold rTx at *
  rw [hf.1 55 (by decide) (by decide) (by decide) (by decide) (by decide), hf.2.1 1 (by decide) (by decide) (by decide) (by decide)]
  exact hx
theorem rTok_e {T : Int → Int} {L e : Nat} {s s' : Nat → Int → Int} (hf : ∀ k, 2 ≤ k → k ≤ 6 → s' 54 k = s 54 k) (hx : rTok T L s e) : rTok T L s' e := by
  unfold rTok at *
  rw [hf 2 (by decide) (by decide), hf 3 (by decide) (by decide), hf 4 (by decide) (by decide), hf 5 (by decide) (by decide), hf 6 (by decide) (by decide)]
  exact hx
theorem TK_str {c t w : Int} (h : TK c t w) : str t = str c ∧ (0 < str c → t = c) := by
  unfold TK at h
  rcases h with ⟨h1, h2⟩ | ⟨h1, h2⟩ | ⟨h1, h2⟩ | ⟨h1, h2⟩ | ⟨h1, h2⟩
  · rw [h1, h2]; exact ⟨rfl, fun _ => rfl⟩
  · rw [h1, h2]; exact ⟨by decide, fun z => absurd z (by decide)⟩
  · rw [h1, h2]; exact ⟨by decide, fun z => absurd z (by decide)⟩
  · rw [h2]; exact ⟨rfl, fun _ => rfl⟩
  · have hz : str c = 0 := by
      unfold isL at h2
      unfold str
      rw [if_neg (by omega), if_neg (by omega), if_neg (by omega)]
    rw [h1, hz]
    exact ⟨by decide, fun z => absurd z (by decide)⟩
theorem TK_sg {c t w x : Int} (h : TK c t w) (hx : isS x) : t = x ↔ c = x := by
  unfold TK isL at h
  unfold isS at h hx
  omega
section RE2
variable {h : az_H} {s s0 : Nat → Int → Int} {r : Nat → Int → Option Nat} {G : az_G} {d : Nat} {Q : Option az_V → az_H → Prop} {T : Int → Int} {L e : Nat} {o : List (Int × Int)} {p : List Int}
theorem sX11_strength {hh : az_H} {c : Int} (hq : Q (some (vi (str c))) hh) : cz G mX11_strength d 0 0 [vi c] hh Q := by
  refine vX11_strength ?_
  unfold str at hq
  by_cases k1 : c = 42
  · rw [if_pos (Or.inl k1)] at hq; rw [if_pos k1]; exact hq
  rw [if_neg k1]
  by_cases k2 : c = 47
  · rw [if_pos (Or.inr (Or.inl k2))] at hq; rw [if_pos k2]; exact hq
  rw [if_neg k2]
  by_cases k3 : c = 38
  · rw [if_pos (Or.inr (Or.inr k3))] at hq; rw [if_pos k3]; exact hq
  rw [if_neg k3]
  rw [if_neg (by omega)] at hq
  by_cases k4 : c = 43
  · rw [if_pos (Or.inl k4)] at hq; rw [if_pos k4]; exact hq
  rw [if_neg k4]
  by_cases k5 : c = 45
  · rw [if_pos (Or.inr (Or.inl k5))] at hq; rw [if_pos k5]; exact hq
  rw [if_neg k5]
  by_cases k6 : c = 124
  · rw [if_pos (Or.inr (Or.inr k6))] at hq; rw [if_pos k6]; exact hq
  rw [if_neg k6]
  rw [if_neg (by omega)] at hq
  by_cases k7 : c = 60
  · rw [if_pos (Or.inl k7)] at hq; rw [if_pos k7]; exact hq
  rw [if_neg k7]
  by_cases k8 : c = 61
  · rw [if_pos (Or.inr k8)] at hq; rw [if_pos k8]; exact hq
  rw [if_neg k8]
  rw [if_neg (by omega)] at hq
  exact hq
theorem sX11_stepOf {hh : az_H} {c : Int} (hq : Q (some (vi (stO c))) hh) : cz G mX11_stepOf d 0 0 [vi c] hh Q := by
  refine vX11_stepOf ?_
  unfold stO at hq
  by_cases k38 : c = 38
  · rw [if_pos k38] at hq ⊢; exact hq
  rw [if_neg k38] at hq ⊢
  by_cases k42 : c = 42
  · rw [if_pos k42] at hq ⊢; exact hq
  rw [if_neg k42] at hq ⊢
  by_cases k43 : c = 43
  · rw [if_pos k43] at hq ⊢; exact hq
  rw [if_neg k43] at hq ⊢
  by_cases k45 : c = 45
  · rw [if_pos k45] at hq ⊢; exact hq
  rw [if_neg k45] at hq ⊢
  by_cases k47 : c = 47
  · rw [if_pos k47] at hq ⊢; exact hq
  rw [if_neg k47] at hq ⊢
  by_cases k60 : c = 60
  · rw [if_pos k60] at hq ⊢; exact hq
  rw [if_neg k60] at hq ⊢
  by_cases k124 : c = 124
  · rw [if_pos k124] at hq ⊢; exact hq
  rw [if_neg k124] at hq ⊢
  exact hq
theorem rStep {a b : Int} (hx : RX s o p) (hl : o.length < 299) (hq : ∀ s', frR s s' → (∀ k, s' 54 k = s 54 k) → RX s' (o ++ [(a, b)]) p → Q none (PS h s' r)) : cz G mX11_step d 0 0 [vo 54, vi a, vi b] (PS h s r) Q := by
  obtain ⟨x1, x2, x3, x4⟩ := hx
  refine vX11_step ?_
  rw [ro_54_10, ld_59, x1]
  refine ⟨by decide, by decide, ?_⟩
  rw [show w32 (4200 + (o.length : Int)) = 4200 + (o.length : Int) by rw [w32_id] <;> omega, ro_54_7, st_56]
  refine ⟨by omega, by omega, ?_⟩
  rw [ro_54_8, st_57]
  refine ⟨by omega, by omega, ?_⟩
  rw [ro_54_10, ld_59, st_59, show uf (uf s 56 (4200 + (o.length : Int)) a) 57 (4200 + (o.length : Int)) b 59 14 = s 59 14 from rfl, x1, show w32 ((o.length : Int) + 1) = ((o.length + 1 : Nat) : Int) by rw [w32_id] <;> omega]
  refine ⟨by decide, by decide, by decide, by decide, ?_⟩
  refine hq _ ⟨fun x y1 y2 y3 y4 => ?_, fun k _ => rfl, fun j hj => ?_, fun j hj => ud_ne hj⟩ (fun _ => rfl) ⟨?_, ?_, x3, x4⟩
  · rw [uf, up_ne y4, uf, up_ne y3, uf, up_ne y2]
  · show ud (s 56) (4200 + (o.length : Int)) a j = _ ∧ ud (s 57) (4200 + (o.length : Int)) b j = _
    rw [ud_ne (by omega), ud_ne (by omega)]
    exact ⟨rfl, rfl⟩
  · rw [List.length_append, List.length_singleton]; rfl
  · rw [sgR_app]
    refine ⟨sgR_fr 0 o x2 (fun j _ j1 => ?_), ?_⟩
    · show ud (s 56) (4200 + (o.length : Int)) a (4200 + (j : Int)) = _ ∧ ud (s 57) (4200 + (o.length : Int)) b (4200 + (j : Int)) = _
      rw [ud_ne (by omega), ud_ne (by omega)]
      exact ⟨rfl, rfl⟩
    · rw [Nat.zero_add]
      exact ⟨ud_at, ud_at, trivial⟩
theorem rTop (hx : RX s o p) (hl : p.length < 300) (hq : Q (some (vi (tp p))) (PS h s r)) : cz G mX11_top d 0 0 [vo 54] (PS h s r) Q := by
  obtain ⟨x1, x2, x3, x4⟩ := hx
  refine vX11_top ?_
  rw [ri_54_15, x4]
  cases p with
  | nil => rw [if_pos (show ((([] : List Int).length : Nat) : Int) = 0 from rfl)]; exact hq
  | cons x p =>
    rw [List.length_cons] at hl ⊢
    rw [if_neg (by omega), ro_54_16, ri_54_15, x4, List.length_cons, show w32 (((p.length + 1 : Nat) : Int) - 1) = (p.length : Int) by rw [w32_id] <;> omega, ld_62, x3.1]
    exact ⟨by omega, by omega, hq⟩
theorem rRed {l : Int} : ∀ (p : List Int) (s : Nat → Int → Int) (o : List (Int × Int)), RX s o p → o.length + p.length ≤ 250 → (∀ s', frR s s' → RX s' (rdW l o p) (rdP l p) → Q none (PS h s' r)) → pX11_reduce_0 G d 54 l (PS h s r) Q
  | [], s, o, hx, hl, hq => by
    refine vX11_reduce_0 ?_
    rw [rc_54]
    refine rTop hx (by decide) ?_
    rw [atI_q]
    refine sX11_strength ?_
    rw [atI_q, show str (tp []) = 0 from by decide]
    by_cases c : (0 : Int) < l
    · rw [if_pos c]; exact hq s frR_rf hx
    · rw [if_neg c, rc_54]
      refine rTop hx (by decide) ?_
      rw [atI_q]
      refine sX11_strength ?_
      rw [atI_q, show str (tp []) = 0 from by decide, if_pos (by decide)]
      exact hq s frR_rf hx
  | x :: p, s, o, hx, hl, hq => by
    rw [List.length_cons] at hl
    refine vX11_reduce_0 ?_
    rw [rc_54]
    refine rTop hx (by rw [List.length_cons]; omega) ?_
    rw [atI_q]
    refine sX11_strength ?_
    rw [atI_q]
    have e1 : str (tp (x :: p)) = str x := rfl
    have etp : tp (x :: p) = x := rfl
    rw [e1]
    unfold rdW rdP at hq
    by_cases c : str x < l
    · rw [if_neg (by omega), if_neg (by omega)] at hq
      rw [if_pos c]
      exact hq s frR_rf hx
    rw [if_neg c, rc_54]
    refine rTop hx (by rw [List.length_cons]; omega) ?_
    rw [atI_q]
    refine sX11_strength ?_
    rw [atI_q, e1]
    by_cases c2 : str x ≤ 0
    · rw [if_neg (by omega), if_neg (by omega)] at hq
      rw [if_pos c2]
      exact hq s frR_rf hx
    rw [if_neg c2, rc_54]
    refine rTop hx (by rw [List.length_cons]; omega) ?_
    rw [atI_q, etp]
    refine sX11_stepOf ?_
    rw [atI_q, rc_54]
    refine rStep hx (by omega) (fun s1 f1 k1 x1 => ?_)
    rw [if_pos ⟨by omega, by omega⟩, if_pos ⟨by omega, by omega⟩] at hq
    rw [atV_q, ri_54_15, x1.2.2.2, List.length_cons, wi_54_15, show w32 (((p.length + 1 : Nat) : Int) - 1) = (p.length : Int) by rw [w32_id] <;> omega]
    refine rRed p _ (o ++ [(stO x, 0)]) ⟨x1.1, x1.2.1, x1.2.2.1.2, rfl⟩ (by rw [List.length_append, List.length_singleton]; omega) (fun s2 f2 x2 => hq s2 ?_ x2)
    exact frR_tr f1 (frR_tr frR_15 f2)
theorem rCmp : ∀ (p : List Int) (s : Nat → Int → Int) (o : List (Int × Int)), RX s o p → o.length + p.length ≤ 250 → (∀ s', frR s s' → RX s' (cmO o p) (cmP p) → Q none (PS h s' r)) → pX11_complete_0 G d 54 (PS h s r) Q
  | [], s, o, hx, hl, hq => by
    refine vX11_complete_0 ?_
    rw [rc_54]
    refine rTop hx (by decide) ?_
    rw [atI_q, show tp [] = 0 from rfl, if_neg (by decide), rc_54]
    refine rTop hx (by decide) ?_
    rw [atI_q, show tp [] = 0 from rfl, if_neg (by decide)]
    exact hq s frR_rf hx
  | x :: p, s, o, hx, hl, hq => by
    rw [List.length_cons] at hl
    have etp : tp (x :: p) = x := rfl
    unfold cmO cmP at hq
    have one : ∀ (a : Int), (x = 1 ∧ a = 10 ∨ x = 2 ∧ a = 9) → (∀ s', frR s s' → RX s' (cmO (o ++ [(a, 0)]) p) (cmP p) → Q none (PS h s' r)) → pX11_complete_16 G d 54 (PS h s r) Q := by
      intro a ha hq1
      refine vX11_complete_16 ?_
      rw [rc_54]
      refine rTop hx (by rw [List.length_cons]; omega) ?_
      rw [atI_q, etp]
      have fin : ∀ s1, frR s s1 → RX s1 (o ++ [(a, 0)]) (x :: p) → rdI (PS h s1 r) 54 11 15 (fun f7 => wrF (PS h s1 r) 54 11 15 (.int) (vi (w32 (f7 - 1))) (fun h8 => pX11_complete_0 G d 54 h8 Q)) := by
        intro s1 f1 x1
        rw [ri_54_15, x1.2.2.2, List.length_cons, wi_54_15, show w32 (((p.length + 1 : Nat) : Int) - 1) = (p.length : Int) by rw [w32_id] <;> omega]
        refine rCmp p _ (o ++ [(a, 0)]) ⟨x1.1, x1.2.1, x1.2.2.1.2, rfl⟩ (by rw [List.length_append, List.length_singleton]; omega) (fun s2 f2 x2 => hq1 s2 ?_ x2)
        exact frR_tr f1 (frR_tr frR_15 f2)
      rcases ha with ⟨k1, k2⟩ | ⟨k1, k2⟩
      · subst k2
        rw [if_pos k1, rc_54]
        refine rStep hx (by omega) (fun s1 f1 _ x1 => ?_)
        rw [atV_q]
        exact fin s1 f1 x1
      · subst k2
        rw [if_neg (by omega), rc_54]
        refine rStep hx (by omega) (fun s1 f1 _ x1 => ?_)
        rw [atV_q]
        exact fin s1 f1 x1
    refine vX11_complete_0 ?_
    rw [rc_54]
    refine rTop hx (by rw [List.length_cons]; omega) ?_
    rw [atI_q, etp]
    by_cases k1 : x = 1
    · rw [if_pos k1, if_pos k1] at hq
      rw [if_pos k1]
      exact one 10 (Or.inl ⟨k1, rfl⟩) hq
    rw [if_neg k1, if_neg k1] at hq
    rw [if_neg k1, rc_54]
    refine rTop hx (by rw [List.length_cons]; omega) ?_
    rw [atI_q, etp]
    by_cases k2 : x = 2
    · rw [if_pos k2, if_pos k2] at hq
      rw [if_pos k2]
      exact one 9 (Or.inr ⟨k2, rfl⟩) hq
    rw [if_neg k2, if_neg k2] at hq
    rw [if_neg k2]
    exact hq s frR_rf hx
/-- where a word names an operand -/
theorem rOperand {ru : Bool} (hx : RX s o p) (hl : o.length < 299) (ht : rTok T L s e) (h1 : s 54 2 = 1)
    (hs : ∀ a, pOp (lxC T L) (lxN T L) ru e = some a → ∀ s', frR s s' → RX s' (o ++ [a]) p → Q (some (vi 1)) (PS h s' r)) (hn : pOp (lxC T L) (lxN T L) ru e = none → Q (some (vi 0)) (PS h s r)) : cz G mX11_isOperand (d + 2) 0 0 [vo 54, vi (if ru = true then 1 else 0)] (PS h s r) Q := by
  have hk := ht.2.2.2
  rw [h1] at hk
  unfold pOp at hs hn
  generalize lxC T L e = c at hs hn hk
  generalize hw : s 54 5 = w at hk
  have hk' : (isL w ∧ c = w) ∨ (w = 1852138852 ∧ c = 2) ∨ (w = 26982 ∧ c = 3) ∨ (w = 7364985 ∧ c = 4) ∨ (27952 ≤ w ∧ w ≤ 27955 ∧ c = w - 27947) ∨ (c = 9 ∧ ¬ isL w ∧ w ≠ 1852138852 ∧ w ≠ 26982 ∧ w ≠ 7364985 ∧ ¬ (27952 ≤ w ∧ w ≤ 27955)) := by
    unfold TK at hk
    unfold isS at hk
    omega
  clear hk
  unfold isL at hk'
  rw [if_neg (show ¬ c = 1 by omega)] at hs hn
  have l1 : ∀ x : Int, 65 ≤ x → (x ≤ 90 ∨ 97 ≤ x ∧ x ≤ 122) → (c = x ↔ w = x) := fun x x0 x1 => by omega
  have l2 := l1 104 (by decide) (by decide)
  have l3 := l1 80 (by decide) (by decide)
  have l4 := l1 81 (by decide) (by decide)
  have l5 := l1 112 (by decide) (by decide)
  have l6 := l1 113 (by decide) (by decide)
  have l7 := l1 110 (by decide) (by decide)
  have l8 := l1 118 (by decide) (by decide)
  have l9 := l1 119 (by decide) (by decide)
  have lc : (97 ≤ c ∧ c ≤ 102) ↔ (97 ≤ w ∧ w ≤ 102) := by omega
  have lcw : 97 ≤ c ∧ c ≤ 102 → c = w := by omega
  have lm : (5 ≤ c ∧ c ≤ 8) ↔ (27952 ≤ w ∧ w ≤ 27955) := by omega
  have lmw : (5 ≤ c ∧ c ≤ 8) → c = w - 27947 := by omega
  clear l1 hk'
  have stp1 : ∀ (a b : Int) (K : Option az_V → az_H → Prop), (∀ s', frR s s' → RX s' (o ++ [(a, b)]) p → K none (PS h s' r)) → cz G mX11_step (d + 1) 0 0 [vo 54, vi a, vi b] (PS h s r) K := fun a b K hK => rStep hx hl (fun s' f1 _ x1 => hK s' f1 x1)
  have w137 : ∀ (a b : Int), a = 3 ∨ a = 4 ∨ a = 5 ∨ a = 6 → b = 0 → (∀ s', frR s s' → RX s' (o ++ [(a, b)]) p → Q (some (vi 1)) (PS h s' r)) → pX11_isOperand_137 G (d + 1) 54 a (PS h s r) Q := by
    intro a b ha hb hq
    subst hb
    refine vX11_isOperand_137 ?_
    rw [if_neg (by omega), if_neg (by omega), if_neg (by omega), rc_54]
    refine stp1 a 0 _ (fun s' f1 x1 => ?_)
    rw [atV_q, if_neg (by omega)]
    exact hq s' f1 x1
  have rest : ¬ (97 ≤ c ∧ c ≤ 102) → (ru = true ∨ ¬ (c = 112 ∨ c = 113)) → pX11_isOperand_30 G (d + 1) 54 (if ru = true then 1 else 0) (PS h s r) Q := by
    intro n5 n6
    refine vX11_isOperand_30 ?_
    rw [ri_54_5, hw]
    by_cases k2 : w = 104
    · rw [if_pos k2]
      rw [if_pos (l2.mpr k2)] at hs
      exact w137 6 0 (by omega) rfl (hs _ rfl)
    rw [if_neg k2, ri_54_5, hw]
    rw [if_neg (fun z => k2 (l2.mp z))] at hs hn
    by_cases k3 : w = 80
    · rw [if_pos k3]
      rw [if_pos (l3.mpr k3)] at hs
      refine vX11_isOperand_137 ?_
      rw [if_neg (by decide), if_pos rfl, ri_54_5, hw, if_pos k3, rc_54]
      refine stp1 7 0 _ (fun s' f1 x1 => ?_)
      rw [atV_q, if_neg (by decide)]
      exact hs _ rfl s' f1 x1
    rw [if_neg k3, ri_54_5, hw]
    rw [if_neg (fun z => k3 (l3.mp z))] at hs hn
    by_cases k4 : w = 81
    · rw [if_pos k4]
      rw [if_pos (l4.mpr k4)] at hs
      refine vX11_isOperand_137 ?_
      rw [if_neg (by decide), if_pos rfl, ri_54_5, hw, if_neg k3, rc_54]
      refine stp1 7 1 _ (fun s' f1 x1 => ?_)
      rw [atV_q, if_neg (by decide)]
      exact hs _ rfl s' f1 x1
    rw [if_neg k4]
    rw [if_neg (fun z => k4 (l4.mp z)), if_neg n5] at hs hn
    cases ru with
    | true =>
      rw [if_pos rfl] at hs hn
      rw [if_neg (show ¬ (if true = true then (1 : Int) else 0) = 0 by decide), ri_54_5, hw]
      refine sX11_in (fun y1 y2 => ?_) (fun y => ?_)
      · rw [atI_q, if_neg (by decide)]
        have hm := lm.mpr ⟨y1, y2⟩
        rw [if_pos hm] at hs
        refine vX11_isOperand_137 ?_
        rw [if_neg (by decide), if_neg (by decide), if_pos rfl, ri_54_5, hw, rc_54, show w32 (w - 27952) = c - 5 by rw [w32_id (by omega) (by omega), lmw hm]; omega]
        refine stp1 8 (c - 5) _ (fun s' f1 x1 => ?_)
        rw [atV_q, if_neg (by decide)]
        exact hs _ rfl s' f1 x1
      · rw [atI_q, if_pos rfl]
        rw [if_neg (fun z => y (lm.mp z))] at hn
        refine vX11_isOperand_137 ?_
        rw [if_pos (by decide), if_pos (by decide)]
        exact hn rfl
    | false =>
      rw [if_neg (by decide)] at hs hn
      have n6' : ¬ (c = 112 ∨ c = 113) := by
        rcases n6 with z | z
        · cases z
        · exact z
      rw [if_neg (by omega), if_neg (by omega)] at hs hn
      rw [if_pos (show (if false = true then (1 : Int) else 0) = 0 from rfl), ri_54_5, hw]
      by_cases k7 : w = 110
      · rw [if_pos k7]
        rw [if_pos (l7.mpr k7)] at hs
        exact w137 3 0 (by omega) rfl (hs _ rfl)
      rw [if_neg k7, ri_54_5, hw]
      rw [if_neg (fun z => k7 (l7.mp z))] at hs hn
      by_cases k8 : w = 118
      · rw [if_pos k8]
        rw [if_pos (l8.mpr k8)] at hs
        exact w137 4 0 (by omega) rfl (hs _ rfl)
      rw [if_neg k8, ri_54_5, hw]
      rw [if_neg (fun z => k8 (l8.mp z))] at hs hn
      by_cases k9 : w = 119
      · rw [if_pos k9]
        rw [if_pos (l9.mpr k9)] at hs
        exact w137 5 0 (by omega) rfl (hs _ rfl)
      rw [if_neg k9]
      rw [if_neg (fun z => k9 (l9.mp z))] at hn
      refine vX11_isOperand_137 ?_
      rw [if_pos (by decide), if_pos (by decide)]
      exact hn rfl
  refine vX11_isOperand ?_
  rw [ri_54_5, hw]
  refine vX11_cellOf ?_
  refine sX11_in (fun y1 y2 => ?_) (fun y => ?_)
  · have hc := lc.mpr ⟨y1, y2⟩
    have hcw := lcw hc
    rw [atI_q, if_neg (by decide), atI_q, w32_id (by omega) (by omega), if_neg (by omega), if_pos (by omega), rc_54]
    rw [if_neg (by omega), if_neg (by omega), if_neg (by omega), if_pos hc, hcw] at hs
    refine stp1 2 (w - 97) _ (fun s' f1 x1 => ?_)
    rw [atV_q]
    exact hs _ rfl s' f1 x1
  · have n5 : ¬ (97 ≤ c ∧ c ≤ 102) := fun z => y (lc.mp z)
    rw [atI_q, if_pos rfl]
    have own : ∀ v : Int, (v = 6 ∧ w = 112 ∨ v = 7 ∧ w = 113) → (if (if ru = true then (1 : Int) else 0) = 0 then rcv (PS h s r) 54 11 (cz G mX11_step (d + 1) 0 0 [vo 54, vi 2, vi v] (PS h s r) (fun w h5 => atV w (Q (some (vi 1)) h5))) else pX11_isOperand_30 G (d + 1) 54 (if ru = true then 1 else 0) (PS h s r) Q) := by
      intro v hv
      cases hru : ru with
      | true =>
        rw [if_neg (by decide)]
        have := rest n5 (Or.inl hru)
        rw [hru] at this
        exact this
      | false =>
        rw [if_pos (show (if false = true then (1 : Int) else 0) = 0 from rfl), rc_54]
        rw [hru, if_neg (by omega), if_neg (by omega), if_neg (by omega), if_neg n5, if_neg (by decide)] at hs
        refine stp1 2 v _ (fun s' f1 x1 => ?_)
        rw [atV_q]
        rcases hv with ⟨v1, v2⟩ | ⟨v1, v2⟩
        · rw [if_pos (l5.mpr v2)] at hs
          subst v1
          exact hs _ rfl s' f1 x1
        · rw [if_neg (by omega), if_pos (l6.mpr v2)] at hs
          subst v1
          exact hs _ rfl s' f1 x1
    by_cases k5 : w = 112
    · rw [if_pos k5, atI_q, if_neg (by decide), if_neg (by decide)]
      exact own 6 (Or.inl ⟨rfl, k5⟩)
    rw [if_neg k5]
    by_cases k6 : w = 113
    · rw [if_pos k6, atI_q, if_neg (by decide), if_neg (by decide)]
      exact own 7 (Or.inr ⟨rfl, k6⟩)
    rw [if_neg k6, atI_q, if_pos (by decide)]
    exact rest n5 (Or.inr (by omega))
end RE2
