/-! TEXTS: expressions, read from above and read with a pile: the same words -/
abbrev PR : Type := Bool × Nat × List (Int × Int)
def str (c : Int) : Int := if c = 42 ∨ c = 47 ∨ c = 38 then 3 else if c = 43 ∨ c = 45 ∨ c = 124 then 2 else if c = 60 ∨ c = 61 then 1 else 0
def stO (c : Int) : Int := if c = 38 then 16 else if c = 42 then 14 else if c = 43 then 11 else if c = 45 then 12 else if c = 47 then 15 else if c = 60 then 17 else if c = 124 then 13 else 18
def opl (l c : Int) : Int := if str c = l then stO c else 0
def z0 (ps : List Int) : List (Int × Int) := ps.map (fun o => (o, 0))
section PP
variable (C : Nat → Int) (X : Nat → Nat) (V : Nat → Int) (ru : Bool)
def pOp (e : Nat) : Option (Int × Int) :=
  if C e = 1 then some (1, V e) else if C e = 104 then some (6, 0) else if C e = 80 then some (7, 0) else if C e = 81 then some (7, 1) else if 97 ≤ C e ∧ C e ≤ 102 then some (2, C e - 97) else
  if ru = true then (if 5 ≤ C e ∧ C e ≤ 8 then some (8, C e - 5) else none) else
  if C e = 112 then some (2, 6) else if C e = 113 then some (2, 7) else if C e = 110 then some (3, 0) else if C e = 118 then some (4, 0) else if C e = 119 then some (5, 0) else none
def pPre : Nat → Nat → List Int → Nat × List Int
  | 0, e, ps => (e, ps)
  | f + 1, e, ps => if C e = 33 then pPre f (X e) (9 :: ps) else if C e = 45 then pPre f (X e) (10 :: ps) else (e, ps)
def pPar (k : Nat) (pp : Nat → PR) (e : Nat) : PR := if k = 0 then (false, e, []) else if (pp (X e)).1 = true then (if C (pp (X e)).2.1 = 41 then (true, X (pp (X e)).2.1, (pp (X e)).2.2) else (false, (pp (X e)).2.1, [])) else (false, (pp (X e)).2.1, [])
def pAtm (k : Nat) (pp : Nat → PR) (e : Nat) : PR := if C e = 40 then pPar C X k pp e else match pOp C V ru e with
  | none => (false, e, [])
  | some o => (true, X e, [o])
def pFac (k : Nat) (pp : Nat → PR) (e : Nat) : PR := if (pAtm C X V ru k pp (pPre C X 8 e []).1).1 = true then (true, (pAtm C X V ru k pp (pPre C X 8 e []).1).2.1, (pAtm C X V ru k pp (pPre C X 8 e []).1).2.2 ++ z0 (pPre C X 8 e []).2) else (false, (pAtm C X V ru k pp (pPre C X 8 e []).1).2.1, [])
def pLp (l : Int) (q : Nat → PR) : Nat → Nat → List (Int × Int) → PR
  | 0, e, cd => (true, e, cd)
  | f + 1, e, cd => if opl l (C e) = 0 then (true, e, cd) else if (q (X e)).1 = true then pLp l q f (q (X e)).2.1 (cd ++ (q (X e)).2.2 ++ [(opl l (C e), 0)]) else (false, (q (X e)).2.1, [])
def pBin (l : Int) (q : Nat → PR) (e : Nat) : PR := if (q e).1 = true then pLp C X l q 208 (q e).2.1 (q e).2.2 else (false, (q e).2.1, [])
def pExp (q : Nat → PR) (e : Nat) : PR := if (q e).1 = true then (if str (C (q e).2.1) = 1 then (if (q (X (q e).2.1)).1 = true then (true, (q (X (q e).2.1)).2.1, (q e).2.2 ++ (q (X (q e).2.1)).2.2 ++ [(stO (C (q e).2.1), 0)]) else (false, (q (X (q e).2.1)).2.1, [])) else (true, (q e).2.1, (q e).2.2)) else (false, (q e).2.1, [])
def pE : Nat → Nat → PR
  | 0 => pExp C X (pBin C X 2 (pBin C X 3 (pFac C X V ru 0 (fun e => (false, e, [])))))
  | k + 1 => pExp C X (pBin C X 2 (pBin C X 3 (pFac C X V ru (k + 1) (pE k))))
end PP
/-- a token leads on -/
def adv (C : Nat → Int) (X : Nat → Nat) (L : Nat) : Prop := L ≤ 208 ∧ ∀ e, e ≤ L → C e ≠ 0 → e < X e ∧ X e ≤ L
def okP (L : Nat) (q : Nat → PR) : Prop := ∀ e, e ≤ L → e ≤ (q e).2.1 ∧ (q e).2.1 ≤ L ∧ ((q e).1 = true → e < (q e).2.1 ∧ e + (q e).2.2.length ≤ (q e).2.1)
theorem str_rg (c : Int) : 0 ≤ str c ∧ str c ≤ 3 := by
  unfold str
  repeat' split
  all_goals omega
theorem str_p {c : Int} (h : 0 < str c) : c ≠ 0 ∧ c ≠ 1 ∧ c ≠ 2 ∧ c ≠ 40 ∧ c ≠ 41 := by
  unfold str at h
  repeat' split at h
  all_goals omega
theorem stO_rg (c : Int) : 11 ≤ stO c ∧ stO c ≤ 18 := by
  unfold stO
  repeat' split
  all_goals omega
section PB
variable {C : Nat → Int} {X : Nat → Nat} {V : Nat → Int} {ru : Bool} {L : Nat}
theorem opl_n {l c : Int} (h : opl l c ≠ 0) : str c = l ∧ opl l c = stO c := by
  unfold opl at *
  by_cases k : str c = l
  · rw [if_pos k]; exact ⟨k, rfl⟩
  · rw [if_neg k] at h; exact absurd rfl h
theorem opl_z {l c : Int} (h : opl l c = 0) : str c ≠ l := by
  intro k
  unfold opl at h
  rw [if_pos k] at h
  have := stO_rg c
  omega
theorem pOp_ne {e : Nat} {o : Int × Int} (h : pOp C V ru e = some o) : C e ≠ 0 ∧ C e ≠ 33 ∧ C e ≠ 45 ∧ C e ≠ 40 ∧ C e ≠ 41 := by
  refine ⟨?_, ?_, ?_, ?_, ?_⟩ <;> intro z <;> unfold pOp at h <;> rw [z] at h <;> cases ru <;> simp at h
theorem pPre_ok (ha : adv C X L) : ∀ (f e : Nat) (ps : List Int), e ≤ L → e ≤ (pPre C X f e ps).1 ∧ (pPre C X f e ps).1 ≤ L ∧ e + (pPre C X f e ps).2.length ≤ (pPre C X f e ps).1 + ps.length ∧ (pPre C X f e ps).2.length ≤ ps.length + f ∧ ((pPre C X f e ps).2.length = ps.length + f ∨ C (pPre C X f e ps).1 ≠ 33 ∧ C (pPre C X f e ps).1 ≠ 45)
  | 0, e, ps, he => ⟨Nat.le_refl _, he, by show e + ps.length ≤ e + ps.length; omega, Nat.le_refl _, Or.inl rfl⟩
  | f + 1, e, ps, he => by
    unfold pPre
    by_cases c1 : C e = 33
    · rw [if_pos c1]
      have h1 := ha.2 e he (by rw [c1]; decide)
      have h2 := pPre_ok ha f (X e) (9 :: ps) h1.2
      rw [List.length_cons] at h2
      refine ⟨by omega, h2.2.1, by omega, by omega, ?_⟩
      rcases h2.2.2.2.2 with z | z
      · exact Or.inl (by omega)
      · exact Or.inr z
    rw [if_neg c1]
    by_cases c2 : C e = 45
    · rw [if_pos c2]
      have h1 := ha.2 e he (by rw [c2]; decide)
      have h2 := pPre_ok ha f (X e) (10 :: ps) h1.2
      rw [List.length_cons] at h2
      refine ⟨by omega, h2.2.1, by omega, by omega, ?_⟩
      rcases h2.2.2.2.2 with z | z
      · exact Or.inl (by omega)
      · exact Or.inr z
    rw [if_neg c2]
    exact ⟨Nat.le_refl _, he, Nat.le_refl _, by show ps.length ≤ ps.length + (f + 1); omega, Or.inr ⟨c1, c2⟩⟩
theorem pAtm_ok (ha : adv C X L) {k : Nat} {pp : Nat → PR} (hp : okP L pp) : okP L (pAtm C X V ru k pp) := by
  intro e he
  unfold pAtm
  by_cases c : C e = 40
  · rw [if_pos c]
    unfold pPar
    by_cases ck : k = 0
    · rw [if_pos ck]; exact ⟨Nat.le_refl _, he, fun z => by cases z⟩
    rw [if_neg ck]
    have h1 := ha.2 e he (by rw [c]; decide)
    have h2 := hp (X e) h1.2
    by_cases cp : (pp (X e)).1 = true
    · rw [if_pos cp]
      have h3 := h2.2.2 cp
      by_cases c41 : C (pp (X e)).2.1 = 41
      · rw [if_pos c41]
        have h4 := ha.2 _ h2.2.1 (by rw [c41]; decide)
        exact ⟨by show e ≤ X (pp (X e)).2.1; omega, h4.2, fun _ => ⟨by show e < X (pp (X e)).2.1; omega, by show e + (pp (X e)).2.2.length ≤ X (pp (X e)).2.1; omega⟩⟩
      · rw [if_neg c41]; exact ⟨by show e ≤ (pp (X e)).2.1; omega, h2.2.1, fun z => by cases z⟩
    · rw [if_neg cp]; exact ⟨by show e ≤ (pp (X e)).2.1; omega, h2.2.1, fun z => by cases z⟩
  · rw [if_neg c]
    cases ho : pOp C V ru e with
    | none => exact ⟨Nat.le_refl _, he, fun z => by cases z⟩
    | some o =>
      have h1 := ha.2 e he (pOp_ne ho).1
      exact ⟨by show e ≤ X e; omega, h1.2, fun _ => ⟨h1.1, by show e + [o].length ≤ X e; rw [List.length_singleton]; omega⟩⟩
theorem pFac_ok (ha : adv C X L) {k : Nat} {pp : Nat → PR} (hp : okP L pp) : okP L (pFac C X V ru k pp) := by
  intro e he
  have h1 := pPre_ok ha 8 e [] he
  have h2 := pAtm_ok (V := V) (ru := ru) (k := k) ha hp _ h1.2.1
  unfold pFac
  generalize hq : pPre C X 8 e [] = q at h1 h2 ⊢
  by_cases c : (pAtm C X V ru k pp q.1).1 = true
  · rw [if_pos c]
    have h3 := h2.2.2 c
    refine ⟨by show e ≤ (pAtm C X V ru k pp q.1).2.1; omega, h2.2.1, fun _ => ⟨by show e < (pAtm C X V ru k pp q.1).2.1; omega, ?_⟩⟩
    show e + ((pAtm C X V ru k pp q.1).2.2 ++ z0 q.2).length ≤ (pAtm C X V ru k pp q.1).2.1
    have h4 := h1.2.2.1
    unfold z0
    rw [List.length_append, List.length_map]
    rw [List.length_nil] at h4
    omega
  · rw [if_neg c]; exact ⟨by show e ≤ (pAtm C X V ru k pp q.1).2.1; omega, h2.2.1, fun z => by cases z⟩
theorem pLp_ok (ha : adv C X L) {l : Int} (hl : 0 < l) {q : Nat → PR} (hq : okP L q) : ∀ (f e : Nat) (cd : List (Int × Int)), e ≤ L → L < e + f → e ≤ (pLp C X l q f e cd).2.1 ∧ (pLp C X l q f e cd).2.1 ≤ L ∧ ((pLp C X l q f e cd).1 = true → e + (pLp C X l q f e cd).2.2.length ≤ (pLp C X l q f e cd).2.1 + cd.length ∧ str (C (pLp C X l q f e cd).2.1) ≠ l)
  | 0, e, cd, he, hf => by omega
  | f + 1, e, cd, he, hf => by
    unfold pLp
    by_cases c : opl l (C e) = 0
    · rw [if_pos c]
      exact ⟨Nat.le_refl _, he, fun _ => ⟨Nat.le_refl _, opl_z c⟩⟩
    rw [if_neg c]
    have hs := opl_n c
    have h1 := ha.2 e he (str_p (by omega)).1
    have h2 := hq (X e) h1.2
    by_cases cq : (q (X e)).1 = true
    · rw [if_pos cq]
      have h3 := h2.2.2 cq
      have h4 := pLp_ok ha hl hq f (q (X e)).2.1 (cd ++ (q (X e)).2.2 ++ [(opl l (C e), 0)]) h2.2.1 (by omega)
      refine ⟨by omega, h4.2.1, fun z => ⟨?_, (h4.2.2 z).2⟩⟩
      have h5 := (h4.2.2 z).1
      rw [List.length_append, List.length_append, List.length_singleton] at h5
      omega
    · rw [if_neg cq]; exact ⟨by show e ≤ (q (X e)).2.1; omega, h2.2.1, fun z => by cases z⟩
theorem pBin_ok (ha : adv C X L) {l : Int} (hl : 0 < l) {q : Nat → PR} (hq : okP L q) : okP L (pBin C X l q) ∧ ∀ e, e ≤ L → (pBin C X l q e).1 = true → str (C (pBin C X l q e).2.1) ≠ l := by
  have key : ∀ e, e ≤ L → (e ≤ (pBin C X l q e).2.1 ∧ (pBin C X l q e).2.1 ≤ L ∧ ((pBin C X l q e).1 = true → e < (pBin C X l q e).2.1 ∧ e + (pBin C X l q e).2.2.length ≤ (pBin C X l q e).2.1)) ∧ ((pBin C X l q e).1 = true → str (C (pBin C X l q e).2.1) ≠ l) := by
    intro e he
    have h2 := hq e he
    have hL := ha.1
    unfold pBin
    by_cases cq : (q e).1 = true
    · rw [if_pos cq]
      have h3 := h2.2.2 cq
      have h4 := pLp_ok ha hl hq 208 (q e).2.1 (q e).2.2 h2.2.1 (by omega)
      exact ⟨⟨by omega, h4.2.1, fun z => ⟨by omega, by have := (h4.2.2 z).1; omega⟩⟩, fun z => (h4.2.2 z).2⟩
    · rw [if_neg cq]; exact ⟨⟨h2.1, h2.2.1, fun z => by cases z⟩, fun z => by cases z⟩
  exact ⟨fun e he => (key e he).1, fun e he => (key e he).2⟩
theorem pExp_ok (ha : adv C X L) {q : Nat → PR} (hq : okP L q) : okP L (pExp C X q) := by
  intro e he
  have h2 := hq e he
  unfold pExp
  by_cases cq : (q e).1 = true
  · rw [if_pos cq]
    have h3 := h2.2.2 cq
    by_cases c1 : str (C (q e).2.1) = 1
    · rw [if_pos c1]
      have h4 := ha.2 _ h2.2.1 (str_p (c := C (q e).2.1) (by omega)).1
      have h5 := hq _ h4.2
      by_cases cr : (q (X (q e).2.1)).1 = true
      · rw [if_pos cr]
        have h6 := h5.2.2 cr
        refine ⟨by show e ≤ (q (X (q e).2.1)).2.1; omega, h5.2.1, fun _ => ⟨by show e < (q (X (q e).2.1)).2.1; omega, ?_⟩⟩
        show e + ((q e).2.2 ++ (q (X (q e).2.1)).2.2 ++ [(stO (C (q e).2.1), 0)]).length ≤ (q (X (q e).2.1)).2.1
        rw [List.length_append, List.length_append, List.length_singleton]
        omega
      · rw [if_neg cr]; exact ⟨by show e ≤ (q (X (q e).2.1)).2.1; omega, h5.2.1, fun z => by cases z⟩
    · rw [if_neg c1]; exact ⟨h2.1, h2.2.1, fun _ => h3⟩
  · rw [if_neg cq]; exact ⟨h2.1, h2.2.1, fun z => by cases z⟩
theorem pE_ok (ha : adv C X L) : ∀ k, okP L (pE C X V ru k)
  | 0 => pExp_ok ha (pBin_ok ha (by decide) (pBin_ok ha (by decide) (pFac_ok ha (fun e he => ⟨Nat.le_refl _, he, fun z => by cases z⟩))).1).1
  | k + 1 => pExp_ok ha (pBin_ok ha (by decide) (pBin_ok ha (by decide) (pFac_ok ha (pE_ok ha k))).1).1
end PB
/-! the pile -/
def tp (p : List Int) : Int := p.headD 0
def rdW (l : Int) : List (Int × Int) → List Int → List (Int × Int)
  | o, [] => o
  | o, x :: p => if l ≤ str x ∧ 0 < str x then rdW l (o ++ [(stO x, 0)]) p else o
def rdP (l : Int) : List Int → List Int
  | [] => []
  | x :: p => if l ≤ str x ∧ 0 < str x then rdP l p else x :: p
def cmO : List (Int × Int) → List Int → List (Int × Int)
  | o, [] => o
  | o, x :: p => if x = 1 then cmO (o ++ [(10, 0)]) p else if x = 2 then cmO (o ++ [(9, 0)]) p else o
def cmP : List Int → List Int
  | [] => []
  | x :: p => if x = 1 then cmP p else if x = 2 then cmP p else x :: p
def np (p : List Int) : Prop := tp p ≠ 1 ∧ tp p ≠ 2
def lv (c : Int) : Int := if 1 < str c then str c else 2
abbrev AP : Type := Nat → Nat → Bool → Nat → List (Int × Int) → List Int → Prop
section DE
variable (C : Nat → Int) (X : Nat → Nat) (V : Nat → Int) (ru : Bool) (P : AP) (W : Nat → Prop) (Dn : Nat → List (Int × Int) → Prop)
def En (e br : Nat) (o : List (Int × Int)) (p : List Int) : Prop := (C e = 41 ∧ 0 < br → P (X e) 0 false (br - 1) (cmO o p.tail) (cmP p.tail)) ∧ (¬ (C e = 41 ∧ 0 < br) → (0 < br → W e) ∧ (br = 0 → Dn e o))
def Ff (e br : Nat) (o : List (Int × Int)) (p : List Int) : Prop := ((1 < str (C e) ∨ str (C e) = 1 ∧ str (tp p) ≠ 1) → P (X e) 0 true br o (C e :: p)) ∧ (¬ (1 < str (C e) ∨ str (C e) = 1 ∧ str (tp p) ≠ 1) → En C X P W Dn e br (rdW 1 o p) (rdP 1 p))
def Nf (e br : Nat) (o : List (Int × Int)) (p : List Int) : Prop := Ff C X P W Dn e br (rdW (lv (C e)) o p) (rdP (lv (C e)) p)
def Hc : Prop :=
  (∀ e ah br o p, C e = 33 ∨ C e = 45 → ah < 8 → P (X e) (ah + 1) true br o ((if C e = 45 then 1 else 2) :: p) → P e ah true br o p) ∧
  (∀ e br o p, C e = 33 ∨ C e = 45 → W e → P e 8 true br o p) ∧
  (∀ e ah br o p, C e = 40 → br < 8 → P (X e) 0 true (br + 1) o (40 :: p) → P e ah true br o p) ∧
  (∀ e ah o p, C e = 40 → W e → P e ah true 8 o p) ∧
  (∀ e ah br o p a, pOp C V ru e = some a → P (X e) 0 false br (cmO (o ++ [a]) p) (cmP p) → P e ah true br o p) ∧
  (∀ e ah br o p, C e ≠ 33 → C e ≠ 45 → C e ≠ 40 → pOp C V ru e = none → W e → P e ah true br o p) ∧
  (∀ e br o p, Nf C X P W Dn e br o p → P e 0 false br o p)
end DE
section DT
variable {C : Nat → Int} {X : Nat → Nat} {V : Nat → Int} {ru : Bool} {P : AP} {W : Nat → Prop} {Dn : Nat → List (Int × Int) → Prop} {L : Nat}
theorem rd_id {l : Int} {o : List (Int × Int)} {p : List Int} (h : str (tp p) < l ∨ str (tp p) = 0) : rdW l o p = o ∧ rdP l p = p := by
  cases p with
  | nil => exact ⟨rfl, rfl⟩
  | cons x p =>
    have h' : str x < l ∨ str x = 0 := h
    have hn : ¬ (l ≤ str x ∧ 0 < str x) := by omega
    exact ⟨by unfold rdW; rw [if_neg hn], by unfold rdP; rw [if_neg hn]⟩
theorem rd_fl {l : Int} {o : List (Int × Int)} {x : Int} {p : List Int} (h : l ≤ str x) (h0 : 0 < str x) : rdW l o (x :: p) = rdW l (o ++ [(stO x, 0)]) p ∧ rdP l (x :: p) = rdP l p := by
  refine ⟨?_, ?_⟩
  · show (if l ≤ str x ∧ 0 < str x then rdW l (o ++ [(stO x, 0)]) p else o) = _
    rw [if_pos ⟨h, h0⟩]
  · show (if l ≤ str x ∧ 0 < str x then rdP l p else x :: p) = _
    rw [if_pos ⟨h, h0⟩]
def mk1 (ps : List Int) : List Int := ps.map (fun o => if o = 10 then 1 else 2)
theorem cm_mk : ∀ (ps : List Int) (o : List (Int × Int)) (p : List Int), np p → (∀ x ∈ ps, x = 9 ∨ x = 10) → cmO o (mk1 ps ++ p) = o ++ z0 ps ∧ cmP (mk1 ps ++ p) = p
  | [], o, p, hp, _ => by
    cases p with
    | nil => exact ⟨(List.append_nil o).symm, rfl⟩
    | cons x p =>
      have h1 : x ≠ 1 := hp.1
      have h2 : x ≠ 2 := hp.2
      refine ⟨?_, ?_⟩
      · show (if x = 1 then _ else if x = 2 then _ else o) = o ++ []
        rw [if_neg h1, if_neg h2, List.append_nil]
      · show (if x = 1 then _ else if x = 2 then _ else x :: p) = x :: p
        rw [if_neg h1, if_neg h2]
  | y :: ps, o, p, hp, hy => by
    have ih := fun o' => cm_mk ps o' p hp (fun x hx => hy x (List.mem_cons_of_mem _ hx))
    rcases hy y List.mem_cons_self with e | e
    · subst e
      refine ⟨?_, ?_⟩
      · show cmO (o ++ [(9, 0)]) (mk1 ps ++ p) = o ++ ((9, 0) :: z0 ps)
        rw [(ih _).1, List.append_assoc]
        rfl
      · exact (ih o).2
    · subst e
      refine ⟨?_, ?_⟩
      · show cmO (o ++ [(10, 0)]) (mk1 ps ++ p) = o ++ ((10, 0) :: z0 ps)
        rw [(ih _).1, List.append_assoc]
        rfl
      · exact (ih o).2
theorem pPre_mem : ∀ (f e : Nat) (ps : List Int), (∀ x ∈ ps, x = 9 ∨ x = 10) → ∀ x ∈ (pPre C X f e ps).2, x = 9 ∨ x = 10
  | 0, _, _, h => h
  | f + 1, e, ps, h => by
    unfold pPre
    split
    · exact pPre_mem f _ _ (fun x hx => by
        rcases List.mem_cons.mp hx with z | z
        · exact Or.inl z
        · exact h x z)
    split
    · exact pPre_mem f _ _ (fun x hx => by
        rcases List.mem_cons.mp hx with z | z
        · exact Or.inr z
        · exact h x z)
    · exact h
theorem de_pre (H : Hc C X V ru P W Dn) {br : Nat} {o : List (Int × Int)} {p : List Int} : ∀ (f e : Nat) (ps : List Int), ps.length + f = 8 → P (pPre C X f e ps).1 (pPre C X f e ps).2.length true br o (mk1 (pPre C X f e ps).2 ++ p) → P e ps.length true br o (mk1 ps ++ p)
  | 0, _, _, _, h => h
  | f + 1, e, ps, hf, h => by
    unfold pPre at h
    by_cases c1 : C e = 33
    · rw [if_pos c1] at h
      have := de_pre H f (X e) (9 :: ps) (by rw [List.length_cons]; omega) h
      refine H.1 e ps.length br o _ (Or.inl c1) (by omega) ?_
      rw [if_neg (by omega)]
      exact this
    rw [if_neg c1] at h
    by_cases c2 : C e = 45
    · rw [if_pos c2] at h
      have := de_pre H f (X e) (10 :: ps) (by rw [List.length_cons]; omega) h
      refine H.1 e ps.length br o _ (Or.inr c2) (by omega) ?_
      rw [if_pos c2]
      exact this
    rw [if_neg c2] at h
    exact h
/-- an operand or a bracket, a product, a sum: read from above at e, with the pile p -/
def SPc (L : Nat) (C : Nat → Int) (X : Nat → Nat) (P : AP) (W : Nat → Prop) (Dn : Nat → List (Int × Int) → Prop) (l : Int) (k : Nat) (q : Nat → PR) : Prop := ∀ e br o p, e ≤ L → br + k = 8 → np p → str (tp p) < l → ((q e).1 = true → Nf C X P W Dn (q e).2.1 br (o ++ (q e).2.2) p → P e 0 true br o p) ∧ ((q e).1 = false → W (q e).2.1 → P e 0 true br o p)
def ESc (L : Nat) (C : Nat → Int) (X : Nat → Nat) (P : AP) (W : Nat → Prop) (Dn : Nat → List (Int × Int) → Prop) (k : Nat) (q : Nat → PR) : Prop := ∀ e br o p, e ≤ L → br + k = 8 → np p → str (tp p) = 0 → ((q e).1 = true → En C X P W Dn (q e).2.1 br (o ++ (q e).2.2) p → P e 0 true br o p) ∧ ((q e).1 = false → W (q e).2.1 → P e 0 true br o p)
theorem de_fac (ha : adv C X L) (H : Hc C X V ru P W Dn) {k : Nat} {pp : Nat → PR} (hp : ∀ k', k = k' + 1 → ESc L C X P W Dn k' pp) (hok : okP L pp) : SPc L C X P W Dn 4 k (pFac C X V ru k pp) := by
  intro e br o p he hbr hnp _
  have h1 := pPre_ok ha 8 e [] he
  have hm := pPre_mem (C := C) (X := X) 8 e [] (fun x hx => by cases hx)
  have pre := de_pre H (br := br) (o := o) (p := p) 8 e [] rfl
  have hok1 := pAtm_ok (V := V) (ru := ru) (k := k) ha hok _ h1.2.1
  unfold pFac
  generalize hq : pPre C X 8 e [] = q at h1 hm pre hok1 ⊢
  obtain ⟨e1, ps⟩ := q
  dsimp only at h1 hm pre hok1 ⊢
  have cm := fun o' => cm_mk ps o' p hnp hm
  have F : ((pAtm C X V ru k pp e1).1 = true → Nf C X P W Dn (pAtm C X V ru k pp e1).2.1 br (o ++ ((pAtm C X V ru k pp e1).2.2 ++ z0 ps)) p → P e1 ps.length true br o (mk1 ps ++ p)) ∧ ((pAtm C X V ru k pp e1).1 = false → W (pAtm C X V ru k pp e1).2.1 → P e1 ps.length true br o (mk1 ps ++ p)) := by
    unfold pAtm
    by_cases c : C e1 = 40
    · rw [if_pos c]
      unfold pPar
      by_cases ck : k = 0
      · rw [if_pos ck]
        refine ⟨fun z => (by cases z), fun _ hW => ?_⟩
        have : br = 8 := by omega
        subst this
        exact H.2.2.2.1 e1 _ o _ c hW
      rw [if_neg ck]
      obtain ⟨k', rfl⟩ : ∃ k', k = k' + 1 := ⟨k - 1, by omega⟩
      have h2 := ha.2 e1 h1.2.1 (by rw [c]; decide)
      have hpp := hp k' rfl (X e1) (br + 1) o (40 :: (mk1 ps ++ p)) h2.2 (by omega) ⟨by show (40 : Int) ≠ 1; decide, by show (40 : Int) ≠ 2; decide⟩ (by show str 40 = 0; decide)
      have go := H.2.2.1 e1 ps.length br o (mk1 ps ++ p) c (by omega)
      by_cases cp : (pp (X e1)).1 = true
      · rw [if_pos cp]
        by_cases c41 : C (pp (X e1)).2.1 = 41
        · rw [if_pos c41]
          refine ⟨fun _ hN => go (hpp.1 cp ⟨fun _ => ?_, fun z => absurd ⟨c41, by omega⟩ z⟩), fun z => (by cases z)⟩
          show P (X (pp (X e1)).2.1) 0 false (br + 1 - 1) (cmO (o ++ (pp (X e1)).2.2) (mk1 ps ++ p)) (cmP (mk1 ps ++ p))
          rw [(cm _).1, (cm o).2, show br + 1 - 1 = br by omega, List.append_assoc]
          exact H.2.2.2.2.2.2 _ _ _ _ hN
        · rw [if_neg c41]
          exact ⟨fun z => (by cases z), fun _ hW => go (hpp.1 cp ⟨fun z => absurd z.1 c41, fun _ => ⟨fun _ => hW, fun z => by omega⟩⟩)⟩
      · rw [if_neg cp]
        exact ⟨fun z => (by cases z), fun _ hW => go (hpp.2 (by simpa using cp) hW)⟩
    · rw [if_neg c]
      cases ho : pOp C V ru e1 with
      | none =>
        refine ⟨fun z => (by cases z), fun _ hW => ?_⟩
        by_cases c1 : C e1 = 33 ∨ C e1 = 45
        · have : ps.length = 8 := by
            rcases h1.2.2.2.2 with z | z
            · rw [z]; rfl
            · omega
          rw [this]
          exact H.2.1 e1 br o _ c1 hW
        · exact H.2.2.2.2.2.1 e1 _ br o _ (by omega) (by omega) c ho hW
      | some a =>
        refine ⟨fun _ hN => ?_, fun z => (by cases z)⟩
        refine H.2.2.2.2.1 e1 _ br o _ a ho ?_
        rw [(cm _).1, (cm o).2, List.append_assoc]
        exact H.2.2.2.2.2.2 _ _ _ _ hN
  by_cases cA : (pAtm C X V ru k pp e1).1 = true
  · rw [if_pos cA]
    exact ⟨fun _ hN => pre (F.1 cA hN), fun z => (by cases z)⟩
  · rw [if_neg cA]
    exact ⟨fun z => (by cases z), fun _ hW => pre (F.2 (by simpa using cA) hW)⟩
theorem de_bin (ha : adv C X L) {l : Int} (hl : l = 2 ∨ l = 3) {k : Nat} {q : Nat → PR} (hok : okP L q) (hs : ∀ e, e ≤ L → (q e).1 = true → str (C (q e).2.1) ≤ l) (hq : SPc L C X P W Dn (l + 1) k q) : SPc L C X P W Dn l k (pBin C X l q) := by
  intro e br o p he hbr hnp htp
  have hL := ha.1
  have loop : ∀ (f e : Nat) (cd : List (Int × Int)), e ≤ L → L < e + f → str (C e) ≤ l → ((pLp C X l q f e cd).1 = true → Nf C X P W Dn (pLp C X l q f e cd).2.1 br (o ++ (pLp C X l q f e cd).2.2) p → Nf C X P W Dn e br (o ++ cd) p) ∧ ((pLp C X l q f e cd).1 = false → W (pLp C X l q f e cd).2.1 → Nf C X P W Dn e br (o ++ cd) p) := by
    intro f
    induction f with
    | zero => intro e cd he hf; omega
    | succ f ih =>
      intro e cd he hf hse
      unfold pLp
      by_cases c : opl l (C e) = 0
      · rw [if_pos c]
        exact ⟨fun _ hN => hN, fun z => (by cases z)⟩
      rw [if_neg c]
      obtain ⟨hsl, hop⟩ := opl_n c
      have h1 := ha.2 e he (str_p (c := C e) (by omega)).1
      have h2 := hok (X e) h1.2
      have lve : lv (C e) = l := by unfold lv; rw [if_pos (by omega), hsl]
      have rid := rd_id (l := l) (o := o ++ cd) (p := p) (Or.inl htp)
      have toN : P (X e) 0 true br (o ++ cd) (C e :: p) → Nf C X P W Dn e br (o ++ cd) p := by
        intro hP
        unfold Nf
        rw [lve, rid.1, rid.2]
        exact ⟨fun _ => hP, fun z => absurd (Or.inl (by omega)) z⟩
      have sp := str_p (c := C e) (by omega)
      have hqs := hq (X e) br (o ++ cd) (C e :: p) h1.2 hbr ⟨sp.2.1, sp.2.2.1⟩ (show str (C e) < l + 1 by omega)
      by_cases cq : (q (X e)).1 = true
      · rw [if_pos cq]
        have h3 := h2.2.2 cq
        have hs2 := hs (X e) h1.2 cq
        have IH := ih (q (X e)).2.1 (cd ++ (q (X e)).2.2 ++ [(opl l (C e), 0)]) h2.2.1 (by omega) hs2
        have lv2 : lv (C (q (X e)).2.1) ≤ str (C e) := by
          unfold lv
          split <;> omega
        have tr : Nf C X P W Dn (q (X e)).2.1 br (o ++ (cd ++ (q (X e)).2.2 ++ [(opl l (C e), 0)])) p → Nf C X P W Dn (q (X e)).2.1 br (o ++ cd ++ (q (X e)).2.2) (C e :: p) := by
          intro hN
          unfold Nf at hN ⊢
          rw [(rd_fl lv2 (by omega)).1, (rd_fl (o := o) lv2 (by omega)).2, ← hop]
          rw [show o ++ cd ++ (q (X e)).2.2 ++ [(opl l (C e), 0)] = o ++ (cd ++ (q (X e)).2.2 ++ [(opl l (C e), 0)]) by simp only [List.append_assoc]]
          exact hN
        exact ⟨fun z hN => toN (hqs.1 cq (tr (IH.1 z hN))), fun z hW => toN (hqs.1 cq (tr (IH.2 z hW)))⟩
      · rw [if_neg cq]
        exact ⟨fun z => (by cases z), fun _ hW => toN (hqs.2 (by simpa using cq) hW)⟩
  unfold pBin
  have h2 := hok e he
  have hqs := hq e br o p he hbr hnp (by omega)
  by_cases cq : (q e).1 = true
  · rw [if_pos cq]
    have h3 := h2.2.2 cq
    have lp := loop 208 (q e).2.1 (q e).2.2 h2.2.1 (by omega) (hs e he cq)
    exact ⟨fun z hN => hqs.1 cq (lp.1 z hN), fun z hW => hqs.1 cq (lp.2 z hW)⟩
  · rw [if_neg cq]
    exact ⟨fun z => (by cases z), fun _ hW => hqs.2 (by simpa using cq) hW⟩
theorem de_exp (ha : adv C X L) {k : Nat} {q : Nat → PR} (hok : okP L q) (hs : ∀ e, e ≤ L → (q e).1 = true → str (C (q e).2.1) ≤ 1) (hq : SPc L C X P W Dn 2 k q) : ESc L C X P W Dn k (pExp C X q) := by
  intro e br o p he hbr hnp htp
  have h2 := hok e he
  have hqs := hq e br o p he hbr hnp (by omega)
  unfold pExp
  by_cases cq : (q e).1 = true
  · rw [if_pos cq]
    have hs1 := hs e he cq
    have lv1 : lv (C (q e).2.1) = 2 := by unfold lv; rw [if_neg (by omega)]
    have toP : Ff C X P W Dn (q e).2.1 br (o ++ (q e).2.2) p → P e 0 true br o p := by
      intro hF
      refine hqs.1 cq ?_
      unfold Nf
      have rid := rd_id (l := 2) (o := o ++ (q e).2.2) (p := p) (Or.inr htp)
      rw [lv1, rid.1, rid.2]
      exact hF
    have rid1 := fun o' => rd_id (l := 1) (o := o') (p := p) (Or.inr htp)
    by_cases c1 : str (C (q e).2.1) = 1
    · rw [if_pos c1]
      have sp := str_p (c := C (q e).2.1) (by omega)
      have h4 := ha.2 _ h2.2.1 sp.1
      have hq2 := hq (X (q e).2.1) br (o ++ (q e).2.2) (C (q e).2.1 :: p) h4.2 hbr ⟨sp.2.1, sp.2.2.1⟩ (show str (C (q e).2.1) < 2 by omega)
      have toF : P (X (q e).2.1) 0 true br (o ++ (q e).2.2) (C (q e).2.1 :: p) → Ff C X P W Dn (q e).2.1 br (o ++ (q e).2.2) p := fun hP => ⟨fun _ => hP, fun z => absurd (Or.inr ⟨c1, by omega⟩) z⟩
      by_cases cr : (q (X (q e).2.1)).1 = true
      · rw [if_pos cr]
        refine ⟨fun _ hE => toP (toF (hq2.1 cr ?_)), fun z => (by cases z)⟩
        have hs2 := hs _ h4.2 cr
        have lv2 : lv (C (q (X (q e).2.1)).2.1) = 2 := by unfold lv; rw [if_neg (by omega)]
        have rid := rd_id (l := 2) (o := o ++ (q e).2.2 ++ (q (X (q e).2.1)).2.2) (p := C (q e).2.1 :: p) (Or.inl (show str (C (q e).2.1) < 2 by omega))
        unfold Nf
        rw [lv2, rid.1, rid.2]
        refine ⟨fun z => absurd z ?_, fun _ => ?_⟩
        · have : str (tp (C (q e).2.1 :: p)) = 1 := c1
          omega
        · rw [(rd_fl (show (1 : Int) ≤ str (C (q e).2.1) by omega) (by omega)).1, (rd_fl (o := o) (show (1 : Int) ≤ str (C (q e).2.1) by omega) (by omega)).2, (rid1 _).1, (rid1 o).2]
          rw [show o ++ (q e).2.2 ++ (q (X (q e).2.1)).2.2 ++ [(stO (C (q e).2.1), 0)] = o ++ ((q e).2.2 ++ (q (X (q e).2.1)).2.2 ++ [(stO (C (q e).2.1), 0)]) by simp only [List.append_assoc]]
          exact hE
      · rw [if_neg cr]
        exact ⟨fun z => (by cases z), fun _ hW => toP (toF (hq2.2 (by simpa using cr) hW))⟩
    · rw [if_neg c1]
      refine ⟨fun _ hE => toP ⟨fun z => absurd z (by omega), fun _ => ?_⟩, fun z => (by cases z)⟩
      rw [(rid1 _).1, (rid1 o).2]
      exact hE
  · rw [if_neg cq]
    exact ⟨fun z => (by cases z), fun _ hW => hqs.2 (by simpa using cq) hW⟩
theorem de_E (ha : adv C X L) (H : Hc C X V ru P W Dn) : ∀ k, ESc L C X P W Dn k (pE C X V ru k) := by
  have step : ∀ k pp, okP L pp → SPc L C X P W Dn 4 k (pFac C X V ru k pp) → ESc L C X P W Dn k (pExp C X (pBin C X 2 (pBin C X 3 (pFac C X V ru k pp)))) := by
    intro k pp hok hf
    have o1 := pFac_ok (V := V) (ru := ru) (k := k) ha hok
    have o2 := pBin_ok ha (l := 3) (by decide) o1
    have o3 := pBin_ok ha (l := 2) (by decide) o2.1
    have b3 : SPc L C X P W Dn 3 k (pBin C X 3 (pFac C X V ru k pp)) := de_bin ha (Or.inr rfl) o1 (fun e he z => (str_rg _).2) hf
    have b2 : SPc L C X P W Dn 2 k (pBin C X 2 (pBin C X 3 (pFac C X V ru k pp))) := de_bin ha (Or.inl rfl) o2.1 (fun e he z => by have h1 := o2.2 e he z; have h2 := str_rg (C (pBin C X 3 (pFac C X V ru k pp) e).2.1); omega) b3
    refine de_exp ha o3.1 (fun e he z => ?_) b2
    have h1 := o3.2 e he z
    have h2 := str_rg (C (pBin C X 2 (pBin C X 3 (pFac C X V ru k pp)) e).2.1)
    -- the sum ends where no product goes on
    have h3 : str (C (pBin C X 2 (pBin C X 3 (pFac C X V ru k pp)) e).2.1) ≠ 3 := by
      have key : ∀ (f e : Nat) (cd : List (Int × Int)), e ≤ L → str (C e) ≠ 3 → (pLp C X 2 (pBin C X 3 (pFac C X V ru k pp)) f e cd).1 = true → str (C (pLp C X 2 (pBin C X 3 (pFac C X V ru k pp)) f e cd).2.1) ≠ 3 := by
        intro f
        induction f with
        | zero => intro e cd _ hn _; exact hn
        | succ f ih =>
          intro e cd he hn
          unfold pLp
          split
          · exact fun _ => hn
          · rename_i c
            have hs := opl_n c
            have a1 := ha.2 e he (str_p (c := C e) (by omega)).1
            split
            · rename_i cq
              exact ih _ _ (o2.1 _ a1.2).2.1 (o2.2 _ a1.2 cq)
            · exact fun z => (by cases z)
      unfold pBin at z ⊢
      by_cases cq : (pBin C X 3 (pFac C X V ru k pp) e).1 = true
      · unfold pBin at cq
        rw [if_pos cq] at z ⊢
        exact key 208 _ _ (o2.1 e he).2.1 (o2.2 e he cq) z
      · unfold pBin at cq
        rw [if_neg cq] at z
        cases z
    omega
  intro k
  induction k with
  | zero => exact step 0 _ (fun e he => ⟨Nat.le_refl _, he, fun z => by cases z⟩) (de_fac ha H (fun k' hk => by omega) (fun e he => ⟨Nat.le_refl _, he, fun z => by cases z⟩))
  | succ k ih => exact step (k + 1) _ (pE_ok ha k) (de_fac ha H (fun k' hk => by rw [show k' = k by omega]; exact ih) (pE_ok ha k))
end DT
