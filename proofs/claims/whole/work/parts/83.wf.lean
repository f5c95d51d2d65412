/-! TEXTS: what was read is code as it should be -/
def argK (p : Int × Int) : Prop := (p.1 = 2 → 0 ≤ p.2 ∧ p.2 ≤ 7) ∧ (p.1 = 7 → 0 ≤ p.2 ∧ p.2 ≤ 1) ∧ (p.1 = 8 → 0 ≤ p.2 ∧ p.2 ≤ 3)
def EW : Nat → Nat → C2 → Prop
  | a, b, [] => a = b
  | a, b, p :: t => (1 ≤ p.1 ∧ p.1 ≤ 8 ∧ a ≤ 30 ∧ argK p ∧ EW (a + 1) b t) ∨ (9 ≤ p.1 ∧ p.1 ≤ 10 ∧ 1 ≤ a ∧ EW a b t) ∨ (11 ≤ p.1 ∧ p.1 ≤ 18 ∧ 2 ≤ a ∧ EW (a - 1) b t)
theorem EW_app {m b : Nat} {y : C2} : ∀ (x : C2) (a : Nat), EW a m x → EW m b y → EW a b (x ++ y)
  | [], a, hx, hy => by
    have : a = m := hx
    subst this
    exact hy
  | p :: x, a, hx, hy => by
    rcases hx with ⟨h1, h2, h3, h4, h5⟩ | ⟨h1, h2, h3, h4⟩ | ⟨h1, h2, h3, h4⟩
    · exact Or.inl ⟨h1, h2, h3, h4, EW_app x _ h5 hy⟩
    · exact Or.inr (Or.inl ⟨h1, h2, h3, EW_app x _ h4 hy⟩)
    · exact Or.inr (Or.inr ⟨h1, h2, h3, EW_app x _ h4 hy⟩)
theorem EW_z0 {a : Nat} (ha : 1 ≤ a) : ∀ ps : List Int, (∀ x ∈ ps, x = 9 ∨ x = 10) → EW a a (z0 ps)
  | [], _ => rfl
  | p :: ps, h => by
    have h1 := h p List.mem_cons_self
    exact Or.inr (Or.inl ⟨by show 9 ≤ p; omega, by show p ≤ 10; omega, ha, EW_z0 ha ps (fun x hx => h x (List.mem_cons_of_mem _ hx))⟩)
theorem EW_op {a : Nat} {o : Int} (h1 : 11 ≤ o) (h2 : o ≤ 18) : EW (a + 2) (a + 1) [(o, 0)] := Or.inr (Or.inr ⟨h1, h2, by omega, by show a + 2 - 1 = a + 1; omega⟩)
def WSq (q : Nat → PR) (b : Nat) : Prop := ∀ e a, (q e).1 = true → a + b ≤ 30 → EW a (a + 1) (q e).2.2
section WE
variable {C : Nat → Int} {X : Nat → Nat} {V : Nat → Int} {ru : Bool}
theorem pOp_arg {e : Nat} {o : Int × Int} (h : pOp C V ru e = some o) : 1 ≤ o.1 ∧ o.1 ≤ 8 ∧ argK o := by
  have hw := pOp_w h
  refine ⟨hw.1, hw.2, ?_⟩
  unfold pOp at h
  unfold argK
  repeat' split at h
  all_goals first | (cases h; done) | (have h1 := congrArg Prod.fst (Option.some.inj h); have h2 := congrArg Prod.snd (Option.some.inj h); dsimp only at h1 h2; omega)
theorem w_fac {k b : Nat} {pp : Nat → PR} (hp : 0 < k → WSq pp b) : WSq (pFac C X V ru k pp) b := by
  intro e a hok hb
  have hm := pPre_mem (C := C) (X := X) 8 e [] (fun x hx => by cases hx)
  unfold pFac at hok ⊢
  generalize pPre C X 8 e [] = q at hm hok ⊢
  by_cases c : (pAtm C X V ru k pp q.1).1 = true
  · rw [if_pos c]
    refine EW_app _ _ (m := a + 1) ?_ (EW_z0 (by omega) q.2 hm)
    unfold pAtm at c ⊢
    by_cases c40 : C q.1 = 40
    · rw [if_pos c40] at c ⊢
      unfold pPar at c ⊢
      by_cases ck : k = 0
      · rw [if_pos ck] at c; cases c
      rw [if_neg ck] at c ⊢
      by_cases cp : (pp (X q.1)).1 = true
      · rw [if_pos cp] at c ⊢
        by_cases c41 : C (pp (X q.1)).2.1 = 41
        · rw [if_pos c41]
          exact hp (by omega) _ a cp hb
        · rw [if_neg c41] at c; cases c
      · rw [if_neg cp] at c; cases c
    · rw [if_neg c40] at c ⊢
      cases ho : pOp C V ru q.1 with
      | none => rw [ho] at c; cases c
      | some o =>
        have h1 := pOp_arg ho
        exact Or.inl ⟨h1.1, h1.2.1, by omega, h1.2.2, rfl⟩
  · rw [if_neg c] at hok; cases hok
theorem w_bin {l : Int} {b : Nat} {q : Nat → PR} (hq : WSq q b) : WSq (pBin C X l q) (b + 1) := by
  intro e a hok hb
  have lp : ∀ (f e : Nat) (cd : C2), EW a (a + 1) cd → (pLp C X l q f e cd).1 = true → EW a (a + 1) (pLp C X l q f e cd).2.2 := by
    intro f
    induction f with
    | zero => intro e cd h _; exact h
    | succ f ih =>
      intro e cd h
      unfold pLp
      by_cases c : opl l (C e) = 0
      · rw [if_pos c]; exact fun _ => h
      rw [if_neg c]
      by_cases cq : (q (X e)).1 = true
      · rw [if_pos cq]
        refine ih _ _ (EW_app _ _ (EW_app _ _ h (hq _ (a + 1) cq (by omega))) ?_)
        have h1 := opl_n c
        have h2 := stO_rg (C e)
        exact EW_op (by omega) (by omega)
      · rw [if_neg cq]; exact fun z => by cases z
  unfold pBin at hok ⊢
  by_cases cq : (q e).1 = true
  · rw [if_pos cq] at hok ⊢
    exact lp 208 _ _ (hq e a cq (by omega)) hok
  · rw [if_neg cq] at hok; cases hok
theorem w_exp {b : Nat} {q : Nat → PR} (hq : WSq q b) : WSq (pExp C X q) (b + 1) := by
  intro e a hok hb
  unfold pExp at hok ⊢
  by_cases cq : (q e).1 = true
  · rw [if_pos cq] at hok ⊢
    have h1 := hq e a cq (by omega)
    by_cases c1 : str (C (q e).2.1) = 1
    · rw [if_pos c1] at hok ⊢
      by_cases cr : (q (X (q e).2.1)).1 = true
      · rw [if_pos cr]
        have h2 := stO_rg (C (q e).2.1)
        exact EW_app _ _ (EW_app _ _ h1 (hq _ (a + 1) cr (by omega))) (EW_op h2.1 h2.2)
      · rw [if_neg cr] at hok; cases hok
    · rw [if_neg c1]; exact h1
  · rw [if_neg cq] at hok; cases hok
theorem w_E : ∀ k, WSq (pE C X V ru k) (3 + 3 * k)
  | 0 => w_exp (w_bin (w_bin (w_fac (fun z => absurd z (by decide)))))
  | k + 1 => by
    have := w_exp (C := C) (X := X) (w_bin (C := C) (X := X) (l := 2) (w_bin (C := C) (X := X) (l := 3) (w_fac (C := C) (X := X) (V := V) (ru := ru) (k := k + 1) (fun _ => w_E k))))
    rw [show 3 + 3 * k + 1 + 1 + 1 = 3 + 3 * (k + 1) by omega] at this
    exact this
end WE
def mt3 (O A Gf : Int → Int) : Nat → C3 → Prop
  | _, [] => True
  | n, p :: t => O n = p.1 ∧ A n = p.2.1 ∧ Gf n = p.2.2 ∧ mt3 O A Gf (n + 1) t
theorem mt3_app {O A Gf : Int → Int} : ∀ (n : Nat) (a b : C3), mt3 O A Gf n (a ++ b) → mt3 O A Gf n a ∧ mt3 O A Gf (n + a.length) b
  | n, [], b, h => ⟨trivial, h⟩
  | n, p :: a, b, h => by
    have ih := mt3_app (n + 1) a b h.2.2.2
    rw [List.length_cons, show n + (a.length + 1) = n + 1 + a.length by omega]
    exact ⟨⟨h.1, h.2.1, h.2.2.1, ih.1⟩, ih.2⟩
def dst (o : Int) (a : Nat) : Nat := if o ≤ 8 then a + 1 else if o ≤ 10 then a else if o ≤ 18 then a - 1 else 0
def dpc (O : Int → Int) : Nat → Nat
  | 0 => 0
  | j + 1 => dst (O j) (dpc O j)
abbrev sgOK (O A Gf OC AC : Int → Int) (N n len : Nat) : Prop := ∀ j : Nat, n ≤ j → j < n + len → wIns (N, O, A, Gf) (dpc O) j ∧ dpc O j ≤ 31 ∧ cIns OC AC (N, O, A, Gf) j
theorem cp_1 {O : Int → Int} {j : Nat} (h : O j ≤ 18) : cp O (j + 1) = cp O j + 1 := by
  show cp O j + (if O j = 20 ∨ O j = 23 then 2 else 1) = cp O j + 1
  rw [if_neg (by omega)]
theorem sgOK_c {O A Gf OC AC : Int → Int} {N n l1 l2 : Nat} (h1 : sgOK O A Gf OC AC N n l1) (h2 : sgOK O A Gf OC AC N (n + l1) l2) : sgOK O A Gf OC AC N n (l1 + l2) := fun j j0 j1 => by
  by_cases c : j < n + l1
  · exact h1 j j0 c
  · exact h2 j (by omega) (by omega)
theorem EL {O A Gf OC AC : Int → Int} {N : Nat} : ∀ (cd : C2) (a b n m : Nat), EW a b cd → mt3 O A Gf n (e3 cd) → sgR OC AC m (cd.map tau) → dpc O n = a → cp O n = m → a ≤ 31 → sgOK O A Gf OC AC N n cd.length ∧ dpc O (n + cd.length) = b ∧ cp O (n + cd.length) = m + cd.length
  | [], a, b, n, m, hw, _, _, hd, hc, _ => ⟨fun j j0 j1 => by rw [List.length_nil] at j1; omega, by rw [List.length_nil, Nat.add_zero, hd]; exact hw, by rw [List.length_nil, Nat.add_zero, Nat.add_zero, hc]⟩
  | p :: t, a, b, n, m, hw, hm, hs, hd, hc, ha => by
    obtain ⟨q1, q2, q3, q4⟩ := hm
    have q1' : O n = p.1 := q1
    have q2' : A n = p.2 := q2
    obtain ⟨r1, r2, r3⟩ := hs
    have r1' : OC m = tO p.1 p.2 := r1
    have r2' : AC m = tA p.1 p.2 := r2
    have step : ∀ a', dst (O n) (dpc O n) = a' → O n ≤ 18 → a' ≤ 31 → wIns (N, O, A, Gf) (dpc O) n → EW a' b t → sgOK O A Gf OC AC N n (p :: t).length ∧ dpc O (n + (p :: t).length) = b ∧ cp O (n + (p :: t).length) = m + (p :: t).length := by
      intro a' hda h18 ha' hwi hwt
      have ih := EL (N := N) t a' b (n + 1) (m + 1) hwt q4 r3 hda (by rw [cp_1 h18, hc]) ha'
      rw [List.length_cons, show n + (t.length + 1) = n + 1 + t.length by omega, show m + (t.length + 1) = m + 1 + t.length by omega]
      refine ⟨fun j j0 j1 => ?_, ih.2.1, ih.2.2⟩
      by_cases c : j = n
      · subst c
        refine ⟨hwi, by omega, ⟨fun _ => ?_, fun z => ?_, fun z => ?_, fun z => ?_, fun z => ?_⟩⟩
        · show OC (cp O j : Nat) = tO (O j) (A j) ∧ AC (cp O j : Nat) = tA (O j) (A j)
          rw [hc, q1', q2']
          exact ⟨r1', r2'⟩
        · have z' : O j = 20 := z
          omega
        · have z' : O j = 23 := z
          omega
        · have z' : O j = 21 := z
          omega
        · have z' : O j = 22 := z
          omega
      · exact ih.1 j (by omega) (by omega)
    rcases hw with ⟨h1, h2, h3, h4, h5⟩ | ⟨h1, h2, h3, h4⟩ | ⟨h1, h2, h3, h4⟩
    · have hd1 : dst (O n) (dpc O n) = a + 1 := by unfold dst; rw [if_pos (by omega), hd]
      refine step (a + 1) hd1 (by omega) (by omega) (Or.inl ⟨?_, ?_, ?_, ?_, ?_, ?_, ?_⟩) h5
      · show 1 ≤ O n; omega
      · show O n ≤ 8; omega
      · omega
      · show dst (O n) (dpc O n) = dpc O n + 1; rw [hd1, hd]
      · intro z; show 0 ≤ A n ∧ A n ≤ 7; rw [q2']; exact h4.1 (q1'.symm.trans z)
      · intro z; show 0 ≤ A n ∧ A n ≤ 1; rw [q2']; exact h4.2.1 (q1'.symm.trans z)
      · intro z; show 0 ≤ A n ∧ A n ≤ 3; rw [q2']; exact h4.2.2 (q1'.symm.trans z)
    · have hd1 : dst (O n) (dpc O n) = a := by unfold dst; rw [if_neg (by omega), if_pos (by omega), hd]
      refine step a hd1 (by omega) ha (Or.inr (Or.inl ⟨?_, ?_, ?_, ?_⟩)) h4
      · show 9 ≤ O n; omega
      · show O n ≤ 10; omega
      · omega
      · show dst (O n) (dpc O n) = dpc O n; rw [hd1, hd]
    · have hd1 : dst (O n) (dpc O n) = a - 1 := by unfold dst; rw [if_neg (by omega), if_neg (by omega), if_pos (by omega), hd]
      refine step (a - 1) hd1 (by omega) (by omega) (Or.inr (Or.inr (Or.inl ⟨?_, ?_, ?_, ?_⟩))) h4
      · show 11 ≤ O n; omega
      · show O n ≤ 18; omega
      · omega
      · show dst (O n) (dpc O n) + 1 = dpc O n; rw [hd1, hd]; omega
/-- statements that were read: code as it should be, from n on (the class's from m on) -/
def SWq (L : Nat) (q : Nat → Nat → Nat → Nat → Nat → SR) : Prop := ∀ e st lp n m, e ≤ L → st ≤ 12 → lp ≤ st → (q e st lp n m).1 = true → ∀ (O A Gf OC AC : Int → Int) (N : Nat), mt3 O A Gf n (q e st lp n m).2.2.2.2.1 → sgR OC AC m (q e st lp n m).2.2.2.2.2 → dpc O n = 0 → cp O n = m → n + (q e st lp n m).2.2.2.2.1.length ≤ N → sgOK O A Gf OC AC N n (q e st lp n m).2.2.2.2.1.length ∧ dpc O (n + (q e st lp n m).2.2.2.2.1.length) = 0 ∧ cp O (n + (q e st lp n m).2.2.2.2.1.length) = m + (q e st lp n m).2.2.2.2.2.length
section SW
variable {C : Nat → Int} {X : Nat → Nat} {V : Nat → Int}
theorem w_fin {O A Gf OC AC : Int → Int} {N n m : Nat} {c1 : C2} {a b g : Int} {t2 : C2} (hw : EW 0 1 c1) (hm : mt3 O A Gf n (e3 c1 ++ [(a, b, g)])) (hs : sgR OC AC m (c1.map tau ++ t2)) (hd : dpc O n = 0) (hc : cp O n = m) (ha : 20 ≤ a ∧ a ≤ 22) (hb : 0 ≤ b) (h20 : a = 20 → b ≤ 11 ∧ t2 = [(18, 2 * b), (19, 0)]) (h21 : a = 21 → b ≤ 7 ∧ t2 = [(if b < 6 then 21 else 22, if b < 6 then b else if b = 6 then 6 else 10)]) (h22 : a = 22 → t2 = [(23, 0)]) :
    sgOK O A Gf OC AC N n (c1.length + 1) ∧ dpc O (n + (c1.length + 1)) = 0 ∧ cp O (n + (c1.length + 1)) = m + (c1.length + t2.length) := by
  have hm2 := mt3_app n _ _ hm
  rw [e3_len] at hm2
  have hs2 := (sgR_app m _ _).mp hs
  rw [List.length_map] at hs2
  have E := EL (N := N) c1 0 1 n m hw hm2.1 hs2.1 hd hc (by decide)
  have o1 : O ((n + c1.length : Nat) : Int) = a := hm2.2.1
  have o2 : A ((n + c1.length : Nat) : Int) = b := hm2.2.2.1
  have dp1 : dst (O ((n + c1.length : Nat) : Int)) (dpc O (n + c1.length)) = 0 := by unfold dst; rw [if_neg (by omega), if_neg (by omega), if_neg (by omega)]
  have cc := E.2.2
  have cp1 : cp O (n + c1.length + 1) = m + c1.length + (if a = 20 then 2 else 1) := by
    show cp O (n + c1.length) + (if O ((n + c1.length : Nat) : Int) = 20 ∨ O ((n + c1.length : Nat) : Int) = 23 then 2 else 1) = _
    rw [cc, o1]
    by_cases c : a = 20
    · rw [if_pos (Or.inl c), if_pos c]
    · rw [if_neg (by omega), if_neg c]
  refine ⟨sgOK_c E.1 (fun j j0 j1 => ?_), dp1, ?_⟩
  · have : j = n + c1.length := by omega
    subst this
    refine ⟨Or.inr (Or.inr (Or.inr ⟨?_, ?_, E.2.1, dp1, ?_, ?_, ?_, ?_⟩)), by rw [E.2.1]; decide, ⟨fun z => ?_, fun z => ?_, fun z => ?_, fun z => ?_, fun z => ?_⟩⟩
    · show 20 ≤ O _; omega
    · show O _ ≤ 23; omega
    · show 0 ≤ A _; omega
    · intro z
      have z' : O ((n + c1.length : Nat) : Int) = 20 ∨ O ((n + c1.length : Nat) : Int) = 23 := z
      show A _ ≤ 11
      have := h20 (by omega)
      omega
    · intro z
      have z' : O ((n + c1.length : Nat) : Int) = 21 := z
      show A _ ≤ 7
      have := h21 (by omega)
      omega
    · intro z
      have z' : O ((n + c1.length : Nat) : Int) = 23 := z
      omega
    · have z' : O ((n + c1.length : Nat) : Int) < 20 := z
      omega
    · have z' : O ((n + c1.length : Nat) : Int) = 20 := z
      have h := (h20 (by omega)).2
      rw [h] at hs2
      obtain ⟨u1, u2, u3, u4, _⟩ := hs2.2
      show OC (cp O (n + c1.length) : Nat) = 18 ∧ AC (cp O (n + c1.length) : Nat) = 2 * A ((n + c1.length : Nat) : Int) ∧ OC ((cp O (n + c1.length) : Nat) + 1) = 19
      rw [cc, o2]
      exact ⟨u1, u2, u3⟩
    · have z' : O ((n + c1.length : Nat) : Int) = 23 := z
      omega
    · have z' : O ((n + c1.length : Nat) : Int) = 21 := z
      have h := (h21 (by omega)).2
      rw [h] at hs2
      obtain ⟨u1, u2, _⟩ := hs2.2
      show OC (cp O (n + c1.length) : Nat) = (if A ((n + c1.length : Nat) : Int) < 6 then 21 else 22) ∧ AC (cp O (n + c1.length) : Nat) = (if A ((n + c1.length : Nat) : Int) < 6 then A ((n + c1.length : Nat) : Int) else if A ((n + c1.length : Nat) : Int) = 6 then 6 else 10)
      rw [cc, o2]
      exact ⟨u1, u2⟩
    · have z' : O ((n + c1.length : Nat) : Int) = 22 := z
      have h := h22 (by omega)
      rw [h] at hs2
      show OC (cp O (n + c1.length) : Nat) = 23
      rw [cc]
      exact hs2.2.1
  · rw [← Nat.add_assoc, cp1]
    by_cases c : a = 20
    · rw [if_pos c, (h20 c).2]
      show m + c1.length + 2 = m + (c1.length + 2)
      omega
    · rw [if_neg c]
      by_cases c2 : a = 21
      · rw [(h21 c2).2]
        show m + c1.length + 1 = m + (c1.length + 1)
        omega
      · rw [h22 (by omega)]
        show m + c1.length + 1 = m + (c1.length + 1)
        omega
theorem w_E8 {e : Nat} (h : (pE C X V false 8 e).1 = true) : EW 0 1 (pE C X V false 8 e).2.2 := w_E 8 e 0 h (by decide)
theorem w_Ex {e : Nat} (h : (pEx C X V e).1 = true) : EW 0 1 (pEx C X V e).2.2 := by
  unfold pEx at h ⊢
  by_cases c : (pE C X V false 8 e).1 = true
  · rw [if_pos c] at h ⊢
    by_cases c59 : C (pE C X V false 8 e).2.1 = 59
    · rw [if_pos c59]; exact w_E8 c
    · rw [if_neg c59] at h; cases h
  · rw [if_neg c] at h; cases h
theorem w_if2 {L : Nat} {S : SR} {lp n m : Nat} {c1 : C2} {e st : Nat} {inner : Nat → Nat → Nat → Nat → Nat → SR} (hin : SWq L inner) (he : e ≤ L) (hSS : inner e (st + 1) (lp + 1) (n + c1.length + 1) (m + c1.length + 2) = S) (hst : st + 1 ≤ 12) (hlp : lp ≤ st) (hw : EW 0 1 c1) (hok : (pIf2 C X S lp n m c1).1 = true) (O A Gf OC AC : Int → Int) (N : Nat) (hm : mt3 O A Gf n (pIf2 C X S lp n m c1).2.2.2.2.1) (hs : sgR OC AC m (pIf2 C X S lp n m c1).2.2.2.2.2) (hd : dpc O n = 0) (hc : cp O n = m) (hN : n + (pIf2 C X S lp n m c1).2.2.2.2.1.length ≤ N) : sgOK O A Gf OC AC N n (pIf2 C X S lp n m c1).2.2.2.2.1.length ∧ dpc O (n + (pIf2 C X S lp n m c1).2.2.2.2.1.length) = 0 ∧ cp O (n + (pIf2 C X S lp n m c1).2.2.2.2.1.length) = m + (pIf2 C X S lp n m c1).2.2.2.2.2.length := by
  have h9 := hin e (st + 1) (lp + 1) (n + c1.length + 1) (m + c1.length + 2) he hst (by omega)
  rw [hSS] at h9
  unfold pIf2 at hok hm hs hN ⊢
  by_cases cS : S.1 = true
  rotate_left
  · rw [if_neg cS] at hok; cases hok
  rw [if_pos cS] at hok hm hs hN ⊢
  by_cases c125 : C S.2.1 = 125
  rotate_left
  · rw [if_neg c125] at hok; cases hok
  rw [if_pos c125] at hm hs hN ⊢
  replace hm : mt3 O A Gf n (e3 c1 ++ (23, (lp : Int), ((n + c1.length + 1 + S.2.2.2.2.1.length : Nat) : Int)) :: S.2.2.2.2.1) := hm
  replace hs : sgR OC AC m (c1.map tau ++ (18, 2 * (lp : Int)) :: (20, ((m + c1.length + 2 + S.2.2.2.2.2.length : Nat) : Int)) :: S.2.2.2.2.2) := hs
  replace hN : n + (e3 c1 ++ (23, (lp : Int), ((n + c1.length + 1 + S.2.2.2.2.1.length : Nat) : Int)) :: S.2.2.2.2.1).length ≤ N := hN
  show sgOK O A Gf OC AC N n (e3 c1 ++ (23, (lp : Int), ((n + c1.length + 1 + S.2.2.2.2.1.length : Nat) : Int)) :: S.2.2.2.2.1).length ∧ dpc O (n + (e3 c1 ++ (23, (lp : Int), ((n + c1.length + 1 + S.2.2.2.2.1.length : Nat) : Int)) :: S.2.2.2.2.1).length) = 0 ∧ cp O (n + (e3 c1 ++ (23, (lp : Int), ((n + c1.length + 1 + S.2.2.2.2.1.length : Nat) : Int)) :: S.2.2.2.2.1).length) = m + (c1.map tau ++ (18, 2 * (lp : Int)) :: (20, ((m + c1.length + 2 + S.2.2.2.2.2.length : Nat) : Int)) :: S.2.2.2.2.2).length
  have ln3 : (e3 c1 ++ (23, (lp : Int), ((n + c1.length + 1 + S.2.2.2.2.1.length : Nat) : Int)) :: S.2.2.2.2.1).length = c1.length + (1 + S.2.2.2.2.1.length) := by rw [List.length_append, e3_len, List.length_cons]; omega
  have ln2 : (c1.map tau ++ (18, 2 * (lp : Int)) :: (20, ((m + c1.length + 2 + S.2.2.2.2.2.length : Nat) : Int)) :: S.2.2.2.2.2).length = c1.length + 2 + S.2.2.2.2.2.length := by rw [List.length_append, List.length_map, List.length_cons, List.length_cons]; omega
  rw [ln3] at hN
  rw [ln3, ln2]
  have hm2 := mt3_app n _ _ hm
  rw [e3_len] at hm2
  have hs2 := (sgR_app m _ _).mp hs
  rw [List.length_map] at hs2
  have E := EL (N := N) c1 0 1 n m hw hm2.1 hs2.1 hd hc (by decide)
  obtain ⟨o1, o2, o3, o4⟩ := hm2.2
  replace o1 : O ((n + c1.length : Nat) : Int) = 23 := o1
  replace o2 : A ((n + c1.length : Nat) : Int) = lp := o2
  replace o3 : Gf ((n + c1.length : Nat) : Int) = ((n + c1.length + 1 + S.2.2.2.2.1.length : Nat) : Int) := o3
  obtain ⟨u1, u2, u3, u4, u5⟩ := hs2.2
  have dp1 : dst (O ((n + c1.length : Nat) : Int)) (dpc O (n + c1.length)) = 0 := by unfold dst; rw [if_neg (by omega), if_neg (by omega), if_neg (by omega)]
  have cc := E.2.2
  have cp1 : cp O (n + c1.length + 1) = m + c1.length + 2 := by
    show cp O (n + c1.length) + (if O ((n + c1.length : Nat) : Int) = 20 ∨ O ((n + c1.length : Nat) : Int) = 23 then 2 else 1) = _
    rw [cc, if_pos (Or.inr o1)]
  have I := h9 cS O A Gf OC AC N o4 u5 dp1 cp1 (by omega)
  refine ⟨sgOK_c E.1 (fun j j0 j1 => ?_), ?_, ?_⟩
  · by_cases cj : j = n + c1.length
    · subst cj
      refine ⟨Or.inr (Or.inr (Or.inr ⟨?_, ?_, E.2.1, dp1, ?_, ?_, ?_, ?_⟩)), by rw [E.2.1]; decide, ⟨fun z => ?_, fun z => ?_, fun _ => ?_, fun z => ?_, fun z => ?_⟩⟩
      · show 20 ≤ O _; omega
      · show O _ ≤ 23; omega
      · show 0 ≤ A _; omega
      · intro _
        show A _ ≤ 11
        omega
      · intro z
        have z' : O ((n + c1.length : Nat) : Int) = 21 := z
        omega
      · intro _
        show ((n + c1.length : Nat) : Int) < Gf ((n + c1.length : Nat) : Int) ∧ Gf ((n + c1.length : Nat) : Int) ≤ (N : Int) ∧ dpc O (Gf ((n + c1.length : Nat) : Int)).toNat = 0
        rw [o3, Int.toNat_natCast]
        exact ⟨by omega, by omega, I.2.1⟩
      · have z' : O ((n + c1.length : Nat) : Int) < 20 := z
        omega
      · have z' : O ((n + c1.length : Nat) : Int) = 20 := z
        omega
      · show OC (cp O (n + c1.length) : Nat) = 18 ∧ AC (cp O (n + c1.length) : Nat) = 2 * A ((n + c1.length : Nat) : Int) ∧ OC ((cp O (n + c1.length) : Nat) + 1) = 20 ∧ AC ((cp O (n + c1.length) : Nat) + 1) = cp O (Gf ((n + c1.length : Nat) : Int)).toNat
        rw [cc, o2, o3, Int.toNat_natCast, I.2.2]
        exact ⟨u1, u2, u3, u4⟩
      · have z' : O ((n + c1.length : Nat) : Int) = 21 := z
        omega
      · have z' : O ((n + c1.length : Nat) : Int) = 22 := z
        omega
    · exact I.1 j (by omega) (by omega)
  · rw [show n + (c1.length + (1 + S.2.2.2.2.1.length)) = n + c1.length + 1 + S.2.2.2.2.1.length by omega]
    exact I.2.1
  · rw [show n + (c1.length + (1 + S.2.2.2.2.1.length)) = n + c1.length + 1 + S.2.2.2.2.1.length by omega, I.2.2]
    omega
theorem cel_cel7 {c : Int} (h : 0 ≤ cel7 c) : cel7 c ≤ 7 ∧ cel c = (if cel7 c < 6 then cel7 c else if cel7 c = 6 then 6 else 10) := by
  unfold cel7 at h ⊢
  unfold cel
  by_cases k1 : c = 112
  · rw [if_pos k1, if_pos k1]; decide
  rw [if_neg k1] at h ⊢
  rw [if_neg k1]
  by_cases k2 : c = 113
  · rw [if_pos k2, if_pos k2]; decide
  rw [if_neg k2] at h ⊢
  rw [if_neg k2]
  by_cases k3 : 97 ≤ c ∧ c ≤ 102
  · rw [if_pos k3, if_pos (by omega)]
    exact ⟨by omega, rfl⟩
  · rw [if_neg k3] at h; omega
theorem w_St {L : Nat} (ha : adv C X L) {k : Nat} {inner : Nat → Nat → Nat → Nat → Nat → SR} (hin : 0 < k → SWq L inner) : SWq L (pSt C X V k inner) := by
  intro e st lp n m he hst hlp hok O A Gf OC AC N hm hs hd hc hN
  unfold pSt at hok hm hs hN ⊢
  by_cases c12 : 12 ≤ st
  · rw [if_pos c12] at hok; cases hok
  rw [if_neg c12] at hok hm hs hN ⊢
  by_cases cc : 0 ≤ cel7 (C e)
  · rw [if_pos cc] at hok hm hs hN ⊢
    unfold pSet at hok hm hs hN ⊢
    by_cases c61 : C (X e) = 61
    rotate_left
    · rw [if_neg c61] at hok; cases hok
    rw [if_pos c61] at hok hm hs hN ⊢
    by_cases cx : (pEx C X V (X (X e))).1 = true
    rotate_left
    · rw [if_neg cx] at hok; cases hok
    rw [if_pos cx] at hm hs hN ⊢
    have h7 := cel_cel7 cc
    have := w_fin (N := N) (w_Ex cx) hm hs hd hc (by decide) cc (fun z => absurd z (by decide)) (fun _ => ⟨h7.1, by rw [h7.2]⟩) (fun z => absurd z (by decide))
    show sgOK O A Gf OC AC N n (e3 (pEx C X V (X (X e))).2.2 ++ [_]).length ∧ dpc O (n + (e3 (pEx C X V (X (X e))).2.2 ++ [_]).length) = 0 ∧ cp O (n + (e3 (pEx C X V (X (X e))).2.2 ++ [_]).length) = m + ((pEx C X V (X (X e))).2.2.map tau ++ [_]).length
    rw [List.length_append, e3_len, List.length_append, List.length_map]
    exact this
  rw [if_neg cc] at hok hm hs hN ⊢
  by_cases c2 : C e = 2
  · rw [if_pos c2] at hok hm hs hN ⊢
    unfold pNeed at hok hm hs hN ⊢
    by_cases cx : (pEx C X V (X e)).1 = true
    rotate_left
    · rw [if_neg cx] at hok; cases hok
    rw [if_pos cx] at hm hs hN ⊢
    have := w_fin (N := N) (w_Ex cx) hm hs hd hc (by decide) (by omega) (fun _ => ⟨by omega, rfl⟩) (fun z => absurd z (by decide)) (fun z => absurd z (by decide))
    show sgOK O A Gf OC AC N n (e3 (pEx C X V (X e)).2.2 ++ [_]).length ∧ dpc O (n + (e3 (pEx C X V (X e)).2.2 ++ [_]).length) = 0 ∧ cp O (n + (e3 (pEx C X V (X e)).2.2 ++ [_]).length) = m + ((pEx C X V (X e)).2.2.map tau ++ [_, _]).length
    rw [List.length_append, e3_len, List.length_append, List.length_map]
    exact this
  rw [if_neg c2] at hok hm hs hN ⊢
  by_cases c4 : C e = 4
  · rw [if_pos c4] at hok hm hs hN ⊢
    unfold pPay at hok hm hs hN ⊢
    by_cases cx : (pEx C X V (X e)).1 = true
    rotate_left
    · rw [if_neg cx] at hok; cases hok
    rw [if_pos cx] at hm hs hN ⊢
    have := w_fin (N := N) (w_Ex cx) hm hs hd hc (by decide) (by omega) (fun z => absurd z (by decide)) (fun z => absurd z (by decide)) (fun _ => rfl)
    show sgOK O A Gf OC AC N n (e3 (pEx C X V (X e)).2.2 ++ [_]).length ∧ dpc O (n + (e3 (pEx C X V (X e)).2.2 ++ [_]).length) = 0 ∧ cp O (n + (e3 (pEx C X V (X e)).2.2 ++ [_]).length) = m + ((pEx C X V (X e)).2.2.map tau ++ [_]).length
    rw [List.length_append, e3_len, List.length_append, List.length_map]
    exact this
  rw [if_neg c4] at hok hm hs hN ⊢
  by_cases c3 : C e = 3 ∧ 0 < k
  · rw [if_pos c3] at hok hm hs hN ⊢
    unfold pIf at hok hm hs hN ⊢
    by_cases cR : (pE C X V false 8 (X e)).1 = true
    rotate_left
    · rw [if_neg cR] at hok; cases hok
    rw [if_pos cR] at hok hm hs hN ⊢
    by_cases c123 : C (pE C X V false 8 (X e)).2.1 = 123
    rotate_left
    · rw [if_neg c123] at hok; cases hok
    rw [if_pos c123] at hok hm hs hN ⊢
    have a1 := ha.2 e he (by rw [c3.1]; decide)
    have hRo := pE_ok (V := V) (ru := false) ha 8 (X e) a1.2
    have a2 := ha.2 _ hRo.2.1 (by rw [c123]; decide)
    exact w_if2 (hin c3.2) a2.2 rfl (by omega) hlp (w_E8 cR) hok O A Gf OC AC N hm hs hd hc hN
  · rw [if_neg c3] at hok; cases hok
theorem w_StL {k : Nat} {inner : Nat → Nat → Nat → Nat → Nat → SR} {L : Nat} (ha : adv C X L) (hio : okS L inner) (hin : 0 < k → SWq L inner) : ∀ (f e st lp n m : Nat) (a3 : C3) (a2 : C2), e ≤ L → st ≤ 12 → lp ≤ st → (pStL C X V k inner f e st lp n m a3 a2).1 = true → ∃ (c3 : C3) (c2 : C2), (pStL C X V k inner f e st lp n m a3 a2).2.2.2.2.1 = a3 ++ c3 ∧ (pStL C X V k inner f e st lp n m a3 a2).2.2.2.2.2 = a2 ++ c2 ∧ ∀ (O A Gf OC AC : Int → Int) (N : Nat), mt3 O A Gf n c3 → sgR OC AC m c2 → dpc O n = 0 → cp O n = m → n + c3.length ≤ N → sgOK O A Gf OC AC N n c3.length ∧ dpc O (n + c3.length) = 0 ∧ cp O (n + c3.length) = m + c2.length
  | 0, e, st, lp, n, m, a3, a2, _, _, _, hok => by cases hok
  | f + 1, e, st, lp, n, m, a3, a2, he, hst, hlp, hok => by
    unfold pStL at hok ⊢
    by_cases cE : C e = 0 ∨ C e = 125
    · rw [if_pos cE]
      exact ⟨[], [], (List.append_nil a3).symm, (List.append_nil a2).symm, fun O A Gf OC AC N _ _ hd hc _ => ⟨fun j j0 j1 => by rw [List.length_nil] at j1; omega, hd, hc⟩⟩
    rw [if_neg cE] at hok ⊢
    have h1 := pSt_ok (V := V) ha (k := k) hio e st lp n m he hst hlp
    have h2 := w_St (C := C) (X := X) (V := V) ha hin e st lp n m he hst hlp
    generalize pSt C X V k inner e st lp n m = S at h1 h2 hok ⊢
    by_cases cS : S.1 = true
    rotate_left
    · rw [if_neg cS] at hok; cases hok
    rw [if_pos cS] at hok ⊢
    have h3 := h1.2.2 cS
    obtain ⟨c3, c2, e1, e2, h4⟩ := w_StL ha hio hin f S.2.1 S.2.2.1 S.2.2.2.1 (n + S.2.2.2.2.1.length) (m + S.2.2.2.2.2.length) (a3 ++ S.2.2.2.2.1) (a2 ++ S.2.2.2.2.2) h1.2.1 h3.2.1 h3.2.2.1 hok
    refine ⟨S.2.2.2.2.1 ++ c3, S.2.2.2.2.2 ++ c2, by rw [e1, List.append_assoc], by rw [e2, List.append_assoc], fun O A Gf OC AC N hm hs hd hc hN => ?_⟩
    rw [List.length_append] at hN ⊢
    rw [List.length_append]
    have hm2 := mt3_app n _ _ hm
    have hs2 := (sgR_app m _ _).mp hs
    have I1 := h2 cS O A Gf OC AC N hm2.1 hs2.1 hd hc (by omega)
    have I2 := h4 O A Gf OC AC N hm2.2 hs2.2 I1.2.1 I1.2.2 (by omega)
    refine ⟨sgOK_c I1.1 I2.1, ?_, ?_⟩
    · rw [← Nat.add_assoc]; exact I2.2.1
    · rw [← Nat.add_assoc, I2.2.2]; omega
/-- what a method's text says -/
theorem w_SS {L : Nat} (ha : adv C X L) : ∀ k, SWq L (pSS C X V k)
  | 0 => by
    intro e st lp n m he hst hlp hok O A Gf OC AC N hm hs hd hc hN
    obtain ⟨c3, c2, e1, e2, h4⟩ := w_StL (C := C) (X := X) (V := V) (k := 0) (inner := fun e _ _ _ _ => flS e) ha (fun e st lp n m he _ _ => fl_ok (Nat.le_refl _) he) (fun z => absurd z (by decide)) 13 e st lp n m [] [] he hst hlp hok
    have e1' : (pSS C X V 0 e st lp n m).2.2.2.2.1 = c3 := e1
    have e2' : (pSS C X V 0 e st lp n m).2.2.2.2.2 = c2 := e2
    rw [e1'] at hm hN ⊢
    rw [e2'] at hs ⊢
    exact h4 O A Gf OC AC N hm hs hd hc hN
  | k + 1 => by
    intro e st lp n m he hst hlp hok O A Gf OC AC N hm hs hd hc hN
    obtain ⟨c3, c2, e1, e2, h4⟩ := w_StL (C := C) (X := X) (V := V) (k := k + 1) (inner := pSS C X V k) ha (pSS_ok ha k) (fun _ => w_SS ha k) 13 e st lp n m [] [] he hst hlp hok
    have e1' : (pSS C X V (k + 1) e st lp n m).2.2.2.2.1 = c3 := e1
    have e2' : (pSS C X V (k + 1) e st lp n m).2.2.2.2.2 = c2 := e2
    rw [e1'] at hm hN ⊢
    rw [e2'] at hs ⊢
    exact h4 O A Gf OC AC N hm hs hd hc hN
end SW
/-! the code itself -/
def fO (c : C3) : Int → Int := fun i => (c.getD i.toNat (0, 0, 0)).1
def fA (c : C3) : Int → Int := fun i => (c.getD i.toNat (0, 0, 0)).2.1
def fG (c : C3) : Int → Int := fun i => (c.getD i.toNat (0, 0, 0)).2.2
def cdO (c : C3) : Cd := (c.length, fO c, fA c, fG c)
theorem mt3_l : ∀ (a c : C3), mt3 (fO (a ++ c)) (fA (a ++ c)) (fG (a ++ c)) a.length c
  | a, [] => trivial
  | a, p :: c => by
    have h := mt3_l (a ++ [p]) c
    rw [List.append_assoc, List.length_append, List.length_singleton] at h
    have e : (a ++ p :: c).getD ((a.length : Int)).toNat (0, 0, 0) = p := by
      rw [Int.toNat_natCast, List.getD_eq_getElem?_getD, List.getElem?_append_right (Nat.le_refl _), Nat.sub_self]
      rfl
    exact ⟨by show ((a ++ p :: c).getD ((a.length : Int)).toNat (0, 0, 0)).1 = p.1; rw [e], by show ((a ++ p :: c).getD ((a.length : Int)).toNat (0, 0, 0)).2.1 = p.2.1; rw [e], by show ((a ++ p :: c).getD ((a.length : Int)).toNat (0, 0, 0)).2.2 = p.2.2; rw [e], h⟩
theorem mt3_0 (c : C3) : mt3 (fO c) (fA c) (fG c) 0 c := mt3_l [] c
theorem sgR_at {O A : Int → Int} : ∀ (c : C2) (n j : Nat), sgR O A n c → j < c.length → O ((n + j : Nat) : Int) = (c.getD j (0, 0)).1 ∧ A ((n + j : Nat) : Int) = (c.getD j (0, 0)).2
  | [], n, j, _, hj => by rw [List.length_nil] at hj; omega
  | p :: c, n, 0, h, _ => ⟨h.1, h.2.1⟩
  | p :: c, n, j + 1, h, hj => by
    have ih := sgR_at c (n + 1) j h.2.2 (by rw [List.length_cons] at hj; omega)
    rw [show n + (j + 1) = n + 1 + j by omega]
    exact ih
theorem glR_at {g : Int → Int} : ∀ (c : C3) (n j : Nat), glR g n c → j < c.length → (c.getD j (0, 0, 0)).1 = 23 → g ((n + j : Nat) : Int) = (c.getD j (0, 0, 0)).2.2
  | [], n, j, _, hj, _ => by rw [List.length_nil] at hj; omega
  | p :: c, n, 0, h, _, z => h.1 z
  | p :: c, n, j + 1, h, hj, z => by
    have ih := glR_at c (n + 1) j h.2 (by rw [List.length_cons] at hj; omega) z
    rw [show n + (j + 1) = n + 1 + j by omega]
    exact ih
theorem pr2_at (c : C3) (j : Nat) (hj : j < c.length) : (pr2 c).getD j (0, 0) = ((c.getD j (0, 0, 0)).1, (c.getD j (0, 0, 0)).2.1) := by
  unfold pr2
  rw [List.getD_eq_getElem?_getD, List.getElem?_map, List.getElem?_eq_getElem hj, List.getD_eq_getElem?_getD, List.getElem?_eq_getElem hj]
  rfl
