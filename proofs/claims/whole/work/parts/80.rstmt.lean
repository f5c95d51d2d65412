/-! TEXTS: the reference reads a statement -/
def pr2 (c : C3) : C2 := c.map (fun p => (p.1, p.2.1))
def glR (g : Int → Int) : Nat → C3 → Prop
  | _, [] => True
  | n, p :: t => (p.1 = 23 → g n = p.2.2) ∧ glR g (n + 1) t
theorem glR_app {g : Int → Int} : ∀ (n : Nat) (a b : C3), glR g n (a ++ b) ↔ glR g n a ∧ glR g (n + a.length) b
  | n, [], b => ⟨fun h => ⟨trivial, h⟩, fun h => h.2⟩
  | n, p :: a, b => by
    have ih := glR_app (g := g) (n + 1) a b
    rw [List.length_cons, show n + (a.length + 1) = n + 1 + a.length by omega]
    exact ⟨fun h => ⟨⟨h.1, (ih.mp h.2).1⟩, (ih.mp h.2).2⟩, fun h => ⟨h.1.1, ih.mpr ⟨h.1.2, h.2⟩⟩⟩
theorem glR_e3 {g : Int → Int} : ∀ (c : C2) (n : Nat), (∀ p ∈ c, p.1 ≠ 23) → glR g n (e3 c)
  | [], _, _ => trivial
  | p :: c, n, h => ⟨fun z => absurd z (h p List.mem_cons_self), glR_e3 c (n + 1) (fun q hq => h q (List.mem_cons_of_mem _ hq))⟩
theorem pr2_app (a b : C3) : pr2 (a ++ b) = pr2 a ++ pr2 b := List.map_append
theorem pr2_e3 (c : C2) : pr2 (e3 c) = c := by
  unfold pr2 e3
  rw [List.map_map]
  exact List.map_id'' (fun p => rfl) c
theorem pr2_len (a : C3) : (pr2 a).length = a.length := List.length_map _
def frQ (s s' : Nat → Int → Int) : Prop := (∀ a, a ≠ 54 → a ≠ 56 → a ≠ 57 → a ≠ 58 → a ≠ 59 → a ≠ 62 → a ≠ 63 → s' a = s a) ∧ (∀ k, ¬ (2 ≤ k ∧ k ≤ 6) → k ≠ 14 → k ≠ 15 → k ≠ 17 → k ≠ 18 → k ≠ 19 → k ≠ 21 → s' 54 k = s 54 k) ∧ (∀ j, j < 4200 → s' 56 j = s 56 j ∧ s' 57 j = s 57 j ∧ s' 58 j = s 58 j) ∧ ∀ j, j ≠ 14 → s' 59 j = s 59 j
theorem frQ_rf {s : Nat → Int → Int} : frQ s s := ⟨fun _ _ _ _ _ _ _ _ => rfl, fun _ _ _ _ _ _ _ _ => rfl, fun _ _ => ⟨rfl, rfl, rfl⟩, fun _ _ => rfl⟩
theorem frQ_tr {s s' s'' : Nat → Int → Int} (h1 : frQ s s') (h2 : frQ s' s'') : frQ s s'' := ⟨fun a x1 x2 x3 x4 x5 x6 x7 => (h2.1 a x1 x2 x3 x4 x5 x6 x7).trans (h1.1 a x1 x2 x3 x4 x5 x6 x7), fun k x1 x2 x3 x4 x5 x6 x7 => (h2.2.1 k x1 x2 x3 x4 x5 x6 x7).trans (h1.2.1 k x1 x2 x3 x4 x5 x6 x7), fun j x => ⟨(h2.2.2.1 j x).1.trans (h1.2.2.1 j x).1, (h2.2.2.1 j x).2.1.trans (h1.2.2.1 j x).2.1, (h2.2.2.1 j x).2.2.trans (h1.2.2.1 j x).2.2⟩, fun j x => (h2.2.2.2 j x).trans (h1.2.2.2 j x)⟩
theorem frQ_U {s s' : Nat → Int → Int} (h1 : frU s s') : frQ s s' := ⟨fun a x1 x2 x3 _ x5 x6 _ => h1.1 a x1 x2 x3 x5 x6, fun k x1 x2 x3 x4 _ _ _ => h1.2.1 k x1 x2 x3 x4, fun j x => ⟨(h1.2.2.1 j x).1, (h1.2.2.1 j x).2, by rw [h1.1 58 (by decide) (by decide) (by decide) (by decide) (by decide)]⟩, h1.2.2.2⟩
theorem frQ_54 {s : Nat → Int → Int} {k v : Int} (hk : (2 ≤ k ∧ k ≤ 6) ∨ k = 14 ∨ k = 15 ∨ k = 17 ∨ k = 18 ∨ k = 19 ∨ k = 21) : frQ s (uf s 54 k v) := ⟨fun a x1 _ _ _ _ _ _ => up_ne x1, fun j x1 x2 x3 x4 x5 x6 x7 => ud_ne (by omega), fun j _ => ⟨rfl, rfl, rfl⟩, fun j _ => rfl⟩
theorem frQ_63 {s : Nat → Int → Int} {k v : Int} : frQ s (uf s 63 k v) := ⟨fun a _ _ _ _ _ _ x7 => up_ne x7, fun j _ _ _ _ _ _ _ => rfl, fun j _ => ⟨rfl, rfl, rfl⟩, fun j _ => rfl⟩
theorem rTx_Q {T : Int → Int} {L : Nat} {s s' : Nat → Int → Int} (hf : frQ s s') (hx : rTx T L s) : rTx T L s' := by
  unfold rTx at *
  rw [hf.1 55 (by decide) (by decide) (by decide) (by decide) (by decide) (by decide) (by decide), hf.2.1 1 (by decide) (by decide) (by decide) (by decide) (by decide) (by decide) (by decide)]
  exact hx
def opE (op : Nat) (s s' : Nat → Int → Int) : Prop := ∀ j : Int, 0 ≤ j → j < op → s' 63 j = s 63 j
theorem opE_of {op : Nat} {s s' : Nat → Int → Int} (h : s' 63 = s 63) : opE op s s' := fun j _ _ => by rw [h]
theorem opE_tr {op : Nat} {s s' s'' : Nat → Int → Int} (h1 : opE op s s') (h2 : opE op s' s'') : opE op s s'' := fun j j0 j1 => (h2 j j0 j1).trans (h1 j j0 j1)
def RM (T : Int → Int) (L : Nat) (s : Nat → Int → Int) (e st lp : Nat) (o : C3) (op : Nat) : Prop := rTok T L s e ∧ s 54 14 = 0 ∧ s 54 18 = st ∧ s 54 21 = lp ∧ s 54 19 = op ∧ s 59 14 = o.length ∧ sgR (shf (s 56)) (shf (s 57)) 0 (pr2 o) ∧ glR (shf (s 58)) 0 o
theorem TK_wd {c w : Int} (h : TK c 1 w) : (w = 1852138852 ↔ c = 2) ∧ (w = 7364985 ↔ c = 4) ∧ (w = 26982 ↔ c = 3) ∧ cel7 w = cel7 c := by
  have h' : (isL w ∧ c = w) ∨ (w = 1852138852 ∧ c = 2) ∨ (w = 26982 ∧ c = 3) ∨ (w = 7364985 ∧ c = 4) ∨ (27952 ≤ w ∧ w ≤ 27955 ∧ c = w - 27947) ∨ (c = 9 ∧ ¬ isL w ∧ w ≠ 1852138852 ∧ w ≠ 26982 ∧ w ≠ 7364985 ∧ ¬ (27952 ≤ w ∧ w ≤ 27955)) := by
    unfold TK isS at h
    omega
  clear h
  unfold isL at h'
  refine ⟨by omega, by omega, by omega, ?_⟩
  rcases h' with z | z
  · rw [z.2]
  · unfold cel7
    rw [if_neg (by omega), if_neg (by omega), if_neg (by omega), if_neg (by omega), if_neg (by omega), if_neg (by omega)]
theorem TK_nw {c t w : Int} (h : TK c t w) (ht : t ≠ 1) : cel7 c < 0 ∧ c ≠ 2 ∧ c ≠ 4 ∧ c ≠ 3 := by
  have h' : c = 0 ∨ c = 1 ∨ c = 9 ∨ isS c := by
    unfold TK at h
    rcases h with z | z | z | z | z
    · exact Or.inl z.2
    · exact Or.inr (Or.inl z.2)
    · exact Or.inr (Or.inr (Or.inl z.2))
    · exact Or.inr (Or.inr (Or.inr (by rw [z.2]; exact z.1)))
    · exact absurd z.1 ht
  unfold isS at h'
  refine ⟨?_, by omega, by omega, by omega⟩
  unfold cel7
  rw [if_neg (by omega), if_neg (by omega), if_neg (by omega)]
  decide
section RT
variable {h : az_H} {s : Nat → Int → Int} {r : Nat → Int → Option Nat} {G : az_G} {d : Nat} {Q : Option az_V → az_H → Prop} {T : Int → Int} {L e : Nat}
def stpS (s : Nat → Int → Int) (n : Nat) (a b : Int) : Nat → Int → Int := uf (uf (uf s 56 (4200 + (n : Int)) a) 57 (4200 + (n : Int)) b) 59 14 ((n + 1 : Nat) : Int)
theorem rStepB {n : Nat} {a b : Int} (hn : s 59 14 = n) (hl : n < 299) (hq : Q none (PS h (stpS s n a b) r)) : cz G mX11_step d 0 0 [vo 54, vi a, vi b] (PS h s r) Q := by
  refine vX11_step ?_
  rw [ro_54_10, ld_59, hn]
  refine ⟨by decide, by decide, ?_⟩
  rw [show w32 (4200 + (n : Int)) = 4200 + (n : Int) by rw [w32_id] <;> omega, ro_54_7, st_56]
  refine ⟨by omega, by omega, ?_⟩
  rw [ro_54_8, st_57]
  refine ⟨by omega, by omega, ?_⟩
  rw [ro_54_10, ld_59, st_59, show uf (uf s 56 (4200 + (n : Int)) a) 57 (4200 + (n : Int)) b 59 14 = s 59 14 from rfl, hn, show w32 ((n : Int) + 1) = ((n + 1 : Nat) : Int) by rw [w32_id] <;> omega]
  exact ⟨by decide, by decide, by decide, by decide, hq⟩
theorem frQ_st {n : Nat} {a b : Int} : frQ s (stpS s n a b) := by
  unfold stpS
  refine ⟨fun x _ y2 y3 _ y5 _ _ => ?_, fun k _ _ _ _ _ _ _ => rfl, fun j hj => ?_, fun j hj => ud_ne hj⟩
  · rw [uf, up_ne y5, uf, up_ne y3, uf, up_ne y2]
  · show ud (s 56) (4200 + (n : Int)) a j = _ ∧ ud (s 57) (4200 + (n : Int)) b j = _ ∧ s 58 j = s 58 j
    rw [ud_ne (by omega), ud_ne (by omega)]
    exact ⟨rfl, rfl, rfl⟩
theorem sgR_st {o : C2} {a b : Int} (hg : sgR (shf (s 56)) (shf (s 57)) 0 o) : sgR (shf (stpS s o.length a b 56)) (shf (stpS s o.length a b 57)) 0 (o ++ [(a, b)]) := by
  rw [sgR_app]
  refine ⟨sgR_fr 0 o hg (fun j _ j1 => ?_), ?_⟩
  · show ud (s 56) (4200 + (o.length : Int)) a (4200 + (j : Int)) = _ ∧ ud (s 57) (4200 + (o.length : Int)) b (4200 + (j : Int)) = _
    rw [ud_ne (by omega), ud_ne (by omega)]
    exact ⟨rfl, rfl⟩
  · rw [Nat.zero_add]
    exact ⟨ud_at, ud_at, trivial⟩
theorem rNeed {c : Int} (hx : rTx T L s) (he : e ≤ L) (t : rTok T L s e) (hc : isS c) (h14 : s 54 14 = 0) (h1 : lxC T L e = c → ∀ s', fr54 s s' → rTok T L s' (lxE T L e) → Q none (PS h s' r)) (h0 : lxC T L e ≠ c → Q none (PS h (uf s 54 14 1) r)) : cz G mX11_need (d + 4) 0 0 [vo 54, vi c] (PS h s r) Q := by
  have tc : s 54 2 = c ↔ lxC T L e = c := TK_sg t.2.2.2 hc
  refine vX11_need ?_
  rw [ri_54_14, h14, if_pos rfl, ri_54_2]
  by_cases k : lxC T L e = c
  · rw [if_pos (tc.mpr k), wb_54_14_0, uf_same h14, ri_54_14, h14, if_pos rfl, rc_54]
    refine sX11_next (d := d) hx t.2.1 (lxE_le he) (fun s' f1 t1 => ?_)
    rw [atV_q]
    exact h1 k s' f1 t1
  · rw [if_neg (fun z => k (tc.mp z)), wb_54_14_1, ri_54_14, show uf s 54 14 1 54 14 = 1 from rfl, if_neg (by decide)]
    exact h0 k
theorem rNeedW {c : Int} (h14 : s 54 14 = 1) (hq : Q none (PS h s r)) : cz G mX11_need (d + 1) 0 0 [vo 54, vi c] (PS h s r) Q := by
  refine vX11_need ?_
  rw [ri_54_14, h14, if_neg (by decide), wb_54_14_1, uf_same h14, ri_54_14, h14, if_neg (by decide)]
  exact hq
theorem sX11_cellOf {hh : az_H} {c : Int} (hq : Q (some (vi (cel7 c))) hh) : cz G mX11_cellOf (d + 1) 0 0 [vi c] hh Q := by
  refine vX11_cellOf ?_
  unfold cel7 at hq
  refine sX11_in (fun y1 y2 => ?_) (fun y => ?_)
  · rw [atI_q, if_neg (by decide), w32_id (by omega) (by omega)]
    rw [if_neg (by omega), if_neg (by omega), if_pos ⟨y1, y2⟩] at hq
    exact hq
  · rw [atI_q, if_pos rfl]
    by_cases k1 : c = 112
    · rw [if_pos k1] at hq ⊢; exact hq
    rw [if_neg k1] at hq ⊢
    by_cases k2 : c = 113
    · rw [if_pos k2] at hq ⊢; exact hq
    rw [if_neg k2] at hq ⊢
    rw [if_neg y] at hq
    exact hq
theorem r33w (hq : Q none (PS h (uf s 54 14 1) r)) : pX11_statement_33 G (d + 1) 54 1 (some 54) (PS h s r) Q := by
  refine vX11_statement_33 ?_
  rw [nnR_q, wb_54_14_1, ri_54_5]
  refine sX11_cellOf ?_
  rw [atI_q, ri_54_14, show uf s 54 14 1 54 14 = 1 from rfl, if_neg (by decide)]
  exact hq
/-- the tail of an expression: its word, its sign -/
theorem rTail {K : az_H → Prop} {a b : Int} {o : C2} {e2 : Nat} {ok : Bool} {c2 : C2} (hx : rTx T L s) (he2 : e2 ≤ L) (t : rTok T L s e2) (hlen : o.length + c2.length ≤ e2)
    (hok : ok = true → s 54 14 = 0 ∧ s 59 14 = (o ++ c2).length ∧ sgR (shf (s 56)) (shf (s 57)) 0 (o ++ c2)) (hbad : ok = false → s 54 14 = 1 ∧ ∃ n : Nat, s 59 14 = n ∧ n ≤ 210)
    (hq1 : ok = true → ∀ s1, s1 = stpS s (o ++ c2).length a b → s1 54 14 = 0 → rTok T L s1 e2 → K (PS h s1 r))
    (hq0 : ok = false → ∀ s1, frQ s s1 → s1 63 = s 63 → rTok T L s1 e2 → s1 54 14 = 1 → (∀ k, s1 54 k = s 54 k) → K (PS h s1 r)) : cz G mX11_step d 0 0 [vo 54, vi a, vi b] (PS h s r) (fun v h7 => atV v (K h7)) := by
  have hL := hx.2.1
  cases hk : ok with
  | true =>
    obtain ⟨w1, w2, w3⟩ := hok hk
    refine rStepB w2 (by rw [List.length_append]; omega) ?_
    rw [atV_q]
    exact hq1 hk _ rfl w1 (rTok_e (fun _ _ _ => rfl) t)
  | false =>
    obtain ⟨w1, n, w2, w3⟩ := hbad hk
    refine rStepB w2 (by omega) ?_
    rw [atV_q]
    refine hq0 hk _ frQ_st ?_ (rTok_e (fun _ _ _ => rfl) t) w1 (fun _ => rfl)
    unfold stpS
    rw [uf, up_ne (by decide), uf, up_ne (by decide), uf, up_ne (by decide)]
end RT
