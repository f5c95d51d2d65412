/-! TEXTS: the reference reads an expression, whole -/
def c40 : List Int → Nat
  | [] => 0
  | x :: p => (if x = 40 then 1 else 0) + c40 p
theorem c40_c {x : Int} {p : List Int} : c40 p ≤ c40 (x :: p) := Nat.le_add_left _ _
theorem c40_t {x : Int} {p : List Int} : c40 (x :: p) ≤ c40 p + 1 := by
  show (if x = 40 then 1 else 0) + c40 p ≤ c40 p + 1
  split <;> omega
theorem c40_rd {l : Int} : ∀ p : List Int, c40 (rdP l p) = c40 p
  | [] => rfl
  | x :: p => by
    unfold rdP
    by_cases c : l ≤ str x ∧ 0 < str x
    · rw [if_pos c, c40_rd p]
      show c40 p = (if x = 40 then 1 else 0) + c40 p
      rw [if_neg (str_p c.2).2.2.2.1]
      omega
    · rw [if_neg c]
theorem c40_cm : ∀ p : List Int, c40 (cmP p) = c40 p
  | [] => rfl
  | x :: p => by
    unfold cmP
    by_cases c1 : x = 1
    · rw [if_pos c1, c40_cm p]
      show c40 p = (if x = 40 then 1 else 0) + c40 p
      rw [if_neg (by omega)]
      omega
    rw [if_neg c1]
    by_cases c2 : x = 2
    · rw [if_pos c2, c40_cm p]
      show c40 p = (if x = 40 then 1 else 0) + c40 p
      rw [if_neg (by omega)]
      omega
    · rw [if_neg c2]
def wI (b : Bool) : Int := if b = true then 1 else 0
def RAP (G : az_G) (h : az_H) (r : Nat → Int → Option Nat) (T : Int → Int) (L : Nat) (ru : Bool) (D : Nat) (Q : Option az_V → az_H → Prop) (s0 : Nat → Int → Int) : AP := fun e ah wt br o p => o.length + p.length ≤ e → e ≤ L → br ≤ 8 → ah ≤ 8 → br ≤ c40 p → ∀ s, frU s0 s → rTok T L s e → RX s o p → s 54 17 = br → s 54 14 = 0 → pX11_expression_28 G D 54 (wI ru) ah (wI wt) 1 (PS h s r) Q
def RWr (h : az_H) (r : Nat → Int → Option Nat) (T : Int → Int) (L : Nat) (Q : Option az_V → az_H → Prop) (s0 : Nat → Int → Int) (e : Nat) : Prop := ∀ s, frU s0 s → rTok T L s e → s 54 14 = 1 → (∃ n : Nat, s 59 14 = n ∧ n ≤ 210) → Q none (PS h s r)
def RDn (h : az_H) (r : Nat → Int → Option Nat) (T : Int → Int) (L : Nat) (Q : Option az_V → az_H → Prop) (s0 : Nat → Int → Int) (e : Nat) (o : List (Int × Int)) : Prop := e ≤ L → o.length ≤ e → ∀ s, frU s0 s → rTok T L s e → s 59 14 = o.length → sgR (shf (s 56)) (shf (s 57)) 0 o → s 54 14 = 0 → Q none (PS h s r)
theorem rd_len {l : Int} : ∀ (p : List Int) (o : List (Int × Int)), (rdW l o p).length + (rdP l p).length = o.length + p.length
  | [], o => rfl
  | x :: p, o => by
    unfold rdW rdP
    by_cases c : l ≤ str x ∧ 0 < str x
    · rw [if_pos c, if_pos c, rd_len p, List.length_append, List.length_singleton, List.length_cons]; omega
    · rw [if_neg c, if_neg c]
theorem cm_len : ∀ (p : List Int) (o : List (Int × Int)), (cmO o p).length + (cmP p).length = o.length + p.length
  | [], o => rfl
  | x :: p, o => by
    unfold cmO cmP
    by_cases c1 : x = 1
    · rw [if_pos c1, if_pos c1, cm_len p, List.length_append, List.length_singleton, List.length_cons]; omega
    rw [if_neg c1, if_neg c1]
    by_cases c2 : x = 2
    · rw [if_pos c2, if_pos c2, cm_len p, List.length_append, List.length_singleton, List.length_cons]; omega
    · rw [if_neg c2, if_neg c2]
section RH
variable {h : az_H} {s s0 : Nat → Int → Int} {r : Nat → Int → Option Nat} {G : az_G} {d : Nat} {Q : Option az_V → az_H → Prop} {T : Int → Int} {L e : Nat} {o : List (Int × Int)} {p : List Int} {ru : Bool}
theorem RX_54 {s' : Nat → Int → Int} (hf : fr54 s s') (hx : RX s o p) : RX s' o p := by
  unfold RX at *
  rw [hf.1 56 (by decide), hf.1 57 (by decide), hf.1 59 (by decide), hf.1 62 (by decide), hf.2 15 (by decide) (by decide) (by decide) (by decide) (by decide)]
  exact hx
theorem r392 (hx0 : rTx T L s0) {ah br : Nat} {wt : Bool} (hP : RAP G h r T L ru (d + 3) Q s0 (lxE T L e) ah wt br o p) (hb : o.length + p.length ≤ lxE T L e) (he : e ≤ L) (hbr : br ≤ 8) (hah : ah ≤ 8) (hc : br ≤ c40 p) (f0 : frU s0 s) (t : rTok T L s e) (x : RX s o p) (h17 : s 54 17 = br) (h14 : s 54 14 = 0) : pX11_expression_392 G (d + 3) 54 (wI ru) ah (wI wt) 1 (PS h s r) Q := by
  refine vX11_expression_392 ?_
  rw [if_neg (by decide), ri_54_14, h14, if_pos rfl, rc_54]
  refine sX11_next (d := d) (rTx_U f0 hx0) t.2.1 (lxE_le he) (fun s' f1 t1 => ?_)
  rw [atV_q]
  refine hP hb (lxE_le he) hbr hah hc s' (frU_tr f0 (frU_n f1)) t1 (RX_54 f1 x) ?_ ?_
  · rw [f1.2 17 (by decide) (by decide) (by decide) (by decide) (by decide)]; exact h17
  · rw [f1.2 14 (by decide) (by decide) (by decide) (by decide) (by decide)]; exact h14
theorem r392w {ah wt : Int} (hq : Q none (PS h s r)) (h14 : s 54 14 = 1) : pX11_expression_392 G d 54 (wI ru) ah wt 1 (PS h s r) Q := by
  refine vX11_expression_392 ?_
  rw [if_neg (by decide), ri_54_14, h14, if_neg (by decide)]
  refine vX11_expression_28 ?_
  rw [if_pos rfl]
  exact hq
theorem r392e {ah wt : Int} (hq : Q none (PS h s r)) : pX11_expression_392 G d 54 (wI ru) ah wt 0 (PS h s r) Q := by
  refine vX11_expression_392 ?_
  rw [if_pos rfl]
  refine vX11_expression_28 ?_
  rw [if_pos rfl]
  exact hq
/-- onto the pile -/
theorem rPsh {m : Int} {s' : Nat → Int → Int} (hs : s' = uf (uf s 62 p.length m) 54 15 ((p.length + 1 : Nat) : Int)) (x : RX s o p) : frU s s' ∧ RX s' o (m :: p) ∧ ∀ k, k ≠ 15 → s' 54 k = s 54 k := by
  subst hs
  refine ⟨frU_tr frU_62 (frU_54 (by decide)), ⟨x.1, x.2.1, ⟨ud_at, ?_⟩, ?_⟩, fun k hk => ud_ne hk⟩
  · refine plR_fr p x.2.2.1 (fun k k0 k1 => ?_)
    show ud (s 62) p.length m k = _
    rw [ud_ne (by omega)]
  · rw [List.length_cons]; rfl
theorem r70 (hx0 : rTx T L s0) {a1 br : Nat} {w : Int} (hw : w = 0 ∨ w = 1) (hC : lxC T L e = 33 ∨ lxC T L e = 45) (hP : w = 0 → RAP G h r T L ru (d + 3) Q s0 (lxE T L e) a1 true br o ((if lxC T L e = 45 then 1 else 2) :: p)) (hW : w = 1 → RWr h r T L Q s0 e) (hb : o.length + p.length ≤ e) (he : e ≤ L) (hbr : br ≤ 8) (hah : w = 0 → a1 ≤ 8) (hc : br ≤ c40 p) (f0 : frU s0 s) (t : rTok T L s e) (x : RX s o p) (h17 : s 54 17 = br) (h14 : s 54 14 = 0) : pX11_expression_70 G (d + 3) 54 (wI ru) a1 1 1 w (some 54) (PS h s r) Q := by
  have hk := t.2.2.2
  have hL := hx0.2.1
  have t45 : s 54 2 = 45 ↔ lxC T L e = 45 := TK_sg hk (by decide)
  have hadv := lxE_adv hx0.2.2.2 he (by omega)
  have s14 : ∀ K : az_H → Prop, K (PS h (uf s 54 14 w) r) → wrF (PS h s r) 54 11 14 (.boolean) (vi w) K := by
    intro K hK
    rcases hw with z | z
    · subst z; rw [wb_54_14_0]; exact hK
    · subst z; rw [wb_54_14_1]; exact hK
  refine vX11_expression_70 ?_
  rw [nnR_q]
  refine s14 _ ?_
  have x' : RX (uf s 54 14 w) o p := x
  rw [ro_54_16, ri_54_15, x'.2.2.2, ri_54_2, show uf s 54 14 w 54 2 = s 54 2 from rfl]
  have fin : ∀ m : Int, m = (if lxC T L e = 45 then 1 else 2) → stI (PS h (uf s 54 14 w) r) 62 .int (p.length : Int) m (fun h9 => rdI h9 54 11 15 (fun f10 => wrF h9 54 11 15 (.int) (vi (w32 (f10 + 1))) (fun h11 => pX11_expression_392 G (d + 3) 54 (wI ru) a1 1 1 h11 Q))) := by
    intro m hm
    rw [st_62]
    refine ⟨by omega, by omega, ?_⟩
    rw [ri_54_15, show uf (uf s 54 14 w) 62 (p.length : Int) m 54 15 = s 54 15 from rfl, x.2.2.2, wi_54_15, show w32 ((p.length : Int) + 1) = ((p.length + 1 : Nat) : Int) by rw [w32_id] <;> omega]
    generalize hs1 : uf (uf (uf s 54 14 w) 62 (p.length : Int) m) 54 15 ((p.length + 1 : Nat) : Int) = s1
    obtain ⟨q1, q2, q3⟩ := rPsh hs1.symm x'
    have t1 : rTok T L s1 e := rTok_e (fun k k0 k1 => (q3 k (by omega)).trans (ud_ne (by omega))) t
    have f1 : frU s0 s1 := frU_tr f0 (frU_tr (frU_54 (by decide)) q1)
    have g14 : s1 54 14 = w := (q3 14 (by decide)).trans (show ud (s 54) 14 w 14 = w from ud_at)
    rcases hw with z | z
    · subst z
      have := hP rfl
      rw [← hm] at this
      exact r392 (wt := true) hx0 this (by rw [List.length_cons]; omega) he hbr (hah rfl) (Nat.le_trans hc c40_c) f1 t1 q2 ((q3 17 (by decide)).trans h17) g14
    · subst z
      exact r392w (hW rfl s1 f1 t1 g14 ⟨o.length, q2.1, by omega⟩) g14
  by_cases c : lxC T L e = 45
  · rw [if_pos (t45.mpr c)]; exact fin 1 (by rw [if_pos c])
  · rw [if_neg (fun z => c (t45.mp z))]; exact fin 2 (by rw [if_neg c])
/-- behind an operand -/
theorem r_op (hx0 : rTx T L s0) {br : Nat} (hP : RAP G h r T L ru (d + 3) Q s0 (lxE T L e) 0 false br (cmO o p) (cmP p)) (hb : o.length + p.length ≤ lxE T L e) (he : e ≤ L) (hbr : br ≤ 8) (hc : br ≤ c40 p) (f0 : frU s0 s) (t : rTok T L s e) (x : RX s o p) (h17 : s 54 17 = br) (h14 : s 54 14 = 0) : rcv (PS h s r) 54 11 (cz G mX11_complete (d + 3) 0 0 [vo 54] (PS h s r) (fun v h10 => atV v (pX11_expression_392 G (d + 3) 54 (wI ru) 0 0 1 h10 Q))) := by
  have hL := hx0.2.1
  have hE := lxE_le (T := T) (L := L) he
  rw [rc_54]
  refine vX11_complete (d := d + 2) ?_
  refine rCmp p s o x (by omega) (fun s1 f1 x1 => ?_)
  rw [atV_q]
  refine r392 (wt := false) (ah := 0) hx0 hP (by rw [cm_len]; exact hb) he hbr (by omega) (by rw [c40_cm]; exact hc) (frU_tr f0 (frU_R f1)) (rTok_e (fun k k0 k1 => f1.2.1 k (by omega)) t) x1 ((f1.2.1 17 (by decide)).trans h17) ((f1.2.1 14 (by decide)).trans h14)
theorem r_clo (hx0 : rTx T L s0) (hW : RWr h r T L Q s0 e) (hb : o.length + p.length ≤ e) (he : e ≤ L) (f0 : frU s0 s) (t : rTok T L s e) (x : RX s o p) (h14 : s 54 14 = 1) : rcv (PS h s r) 54 11 (cz G mX11_complete (d + 3) 0 0 [vo 54] (PS h s r) (fun v h10 => atV v (pX11_expression_392 G (d + 3) 54 (wI ru) 0 0 1 h10 Q))) := by
  have hL := hx0.2.1
  rw [rc_54]
  refine vX11_complete (d := d + 2) ?_
  refine rCmp p s o x (by omega) (fun s1 f1 x1 => ?_)
  rw [atV_q]
  have hlen := cm_len p o
  have g14 : s1 54 14 = 1 := (f1.2.1 14 (by decide)).trans h14
  exact r392w (hW s1 (frU_tr f0 (frU_R f1)) (rTok_e (fun k k0 k1 => f1.2.1 k (by omega)) t) g14 ⟨_, x1.1, by omega⟩) g14
/-- the reference's loop keeps the rules of the pile -/
theorem rHc (hx0 : rTx T L s0) : Hc (lxC T L) (lxE T L) (lxN T L) ru (RAP G h r T L ru (d + 3) Q s0) (RWr h r T L Q s0) (RDn h r T L Q s0) := by
  have hL := hx0.2.1
  have hrg := hx0.2.2.2
  refine ⟨?_, ?_, ?_, ?_, ?_, ?_, ?_⟩
  · intro e ah br o p hC hah hP hb he hbr _ hc s f0 t x h17 h14
    have hk := t.2.2.2
    have t33 : s 54 2 = 33 ↔ lxC T L e = 33 := TK_sg hk (by decide)
    have t45 : s 54 2 = 45 ↔ lxC T L e = 45 := TK_sg hk (by decide)
    refine vX11_expression_28 ?_
    rw [if_neg (by decide), show wI true = 1 from rfl, if_neg (by decide), ri_54_2, show w32 ((ah : Int) + 1) = ((ah + 1 : Nat) : Int) by rw [w32_id] <;> omega]
    have go := r70 (G := G) (d := d) (Q := Q) (ru := ru) (s := s) (a1 := ah + 1) (w := 0) hx0 (Or.inl rfl) hC (fun _ => hP) (fun z => absurd z (by decide)) hb he hbr (fun _ => by omega) hc f0 t x h17 h14
    by_cases c : lxC T L e = 33
    · rw [if_pos (t33.mpr c), if_pos (by omega)]; exact go
    · rw [if_neg (fun z => c (t33.mp z)), ri_54_2, if_pos (t45.mpr (by omega)), if_pos (by omega)]; exact go
  · intro e br o p hC hW hb he hbr _ hc s f0 t x h17 h14
    have hk := t.2.2.2
    have t33 : s 54 2 = 33 ↔ lxC T L e = 33 := TK_sg hk (by decide)
    have t45 : s 54 2 = 45 ↔ lxC T L e = 45 := TK_sg hk (by decide)
    refine vX11_expression_28 ?_
    rw [if_neg (by decide), show wI true = 1 from rfl, if_neg (by decide), ri_54_2, show w32 (((8 : Nat) : Int) + 1) = ((8 + 1 : Nat) : Int) by decide]
    have go := r70 (G := G) (d := d) (Q := Q) (ru := ru) (s := s) (a1 := 8 + 1) (br := br) (w := 1) hx0 (Or.inr rfl) hC (fun z => absurd z (by decide)) (fun _ => hW) hb he hbr (fun z => absurd z (by decide)) hc f0 t x h17 h14
    by_cases c : lxC T L e = 33
    · rw [if_pos (t33.mpr c), if_neg (by omega)]; exact go
    · rw [if_neg (fun z => c (t33.mp z)), ri_54_2, if_pos (t45.mpr (by omega)), if_neg (by omega)]; exact go
  · intro e ah br o p hC hbr hP hb he _ _ hc s f0 t x h17 h14
    have hk := t.2.2.2
    have hadv := lxE_adv hrg he (by omega)
    have t33 : s 54 2 = 33 ↔ lxC T L e = 33 := TK_sg hk (by decide)
    have t45 : s 54 2 = 45 ↔ lxC T L e = 45 := TK_sg hk (by decide)
    have t40 : s 54 2 = 40 ↔ lxC T L e = 40 := TK_sg hk (by decide)
    refine vX11_expression_28 ?_
    rw [if_neg (by decide), show wI true = 1 from rfl, if_neg (by decide), ri_54_2, if_neg (by omega), ri_54_2, if_neg (by omega), ri_54_2, if_pos (t40.mpr hC), ri_54_17, h17, wi_54_17, ri_54_17, show w32 ((br : Int) + 1) = ((br + 1 : Nat) : Int) by rw [w32_id] <;> omega, show uf s 54 17 ((br + 1 : Nat) : Int) 54 17 = ((br + 1 : Nat) : Int) from rfl, if_pos (by omega), wb_54_14_0, ro_54_16, ri_54_15]
    have x' : RX (uf (uf s 54 17 ((br + 1 : Nat) : Int)) 54 14 0) o p := x
    rw [x'.2.2.2, st_62]
    refine ⟨by omega, by omega, ?_⟩
    rw [ri_54_15, show uf (uf (uf s 54 17 ((br + 1 : Nat) : Int)) 54 14 0) 62 (p.length : Int) 40 54 15 = s 54 15 from rfl, x.2.2.2, wi_54_15, show w32 ((p.length : Int) + 1) = ((p.length + 1 : Nat) : Int) by rw [w32_id] <;> omega]
    generalize hs1 : uf (uf (uf (uf s 54 17 ((br + 1 : Nat) : Int)) 54 14 0) 62 (p.length : Int) 40) 54 15 ((p.length + 1 : Nat) : Int) = s1
    obtain ⟨q1, q2, q3⟩ := rPsh hs1.symm x'
    exact r392 (wt := true) (ah := 0) hx0 hP (by rw [List.length_cons]; omega) he (by omega) (by omega) (show br + 1 ≤ (if (40 : Int) = 40 then 1 else 0) + c40 p by rw [if_pos rfl]; omega) (frU_tr f0 (frU_tr (frU_54 (by decide)) (frU_tr (frU_54 (by decide)) q1))) (rTok_e (fun k k0 k1 => (q3 k (by omega)).trans ((ud_ne (by omega)).trans (ud_ne (by omega)))) t) q2 ((q3 17 (by decide)).trans rfl) ((q3 14 (by decide)).trans rfl)
  · intro e ah o p hC hW hb he _ _ hc s f0 t x h17 h14
    have hk := t.2.2.2
    have t33 : s 54 2 = 33 ↔ lxC T L e = 33 := TK_sg hk (by decide)
    have t45 : s 54 2 = 45 ↔ lxC T L e = 45 := TK_sg hk (by decide)
    have t40 : s 54 2 = 40 ↔ lxC T L e = 40 := TK_sg hk (by decide)
    refine vX11_expression_28 ?_
    rw [if_neg (by decide), show wI true = 1 from rfl, if_neg (by decide), ri_54_2, if_neg (by omega), ri_54_2, if_neg (by omega), ri_54_2, if_pos (t40.mpr hC), ri_54_17, h17, wi_54_17, ri_54_17, show w32 (((8 : Nat) : Int) + 1) = 9 by decide, show uf s 54 17 9 54 17 = 9 from rfl, if_neg (by decide), wb_54_14_1, ro_54_16, ri_54_15]
    have x' : RX (uf (uf s 54 17 9) 54 14 1) o p := x
    rw [x'.2.2.2, st_62]
    refine ⟨by omega, by omega, ?_⟩
    rw [ri_54_15, show uf (uf (uf s 54 17 9) 54 14 1) 62 (p.length : Int) 40 54 15 = s 54 15 from rfl, x.2.2.2, wi_54_15, show w32 ((p.length : Int) + 1) = ((p.length + 1 : Nat) : Int) by rw [w32_id] <;> omega]
    generalize hs1 : uf (uf (uf (uf s 54 17 9) 54 14 1) 62 (p.length : Int) 40) 54 15 ((p.length + 1 : Nat) : Int) = s1
    obtain ⟨q1, q2, q3⟩ := rPsh hs1.symm x'
    have g14 : s1 54 14 = 1 := (q3 14 (by decide)).trans rfl
    exact r392w (hW s1 (frU_tr f0 (frU_tr (frU_54 (by decide)) (frU_tr (frU_54 (by decide)) q1))) (rTok_e (fun k k0 k1 => (q3 k (by omega)).trans ((ud_ne (by omega)).trans (ud_ne (by omega)))) t) g14 ⟨o.length, q2.1, by omega⟩) g14
  · intro e ah br o p a ha hP hb he hbr _ hc s f0 t x h17 h14
    have hk := t.2.2.2
    obtain ⟨n0, n33, n45, n40, n41⟩ := pOp_ne ha
    have hadv := lxE_adv hrg he n0
    have t33 : s 54 2 = 33 ↔ lxC T L e = 33 := TK_sg hk (by decide)
    have t45 : s 54 2 = 45 ↔ lxC T L e = 45 := TK_sg hk (by decide)
    have t40 : s 54 2 = 40 ↔ lxC T L e = 40 := TK_sg hk (by decide)
    have hlen : (o ++ [a]).length + p.length ≤ lxE T L e := by rw [List.length_append, List.length_singleton]; omega
    have t12 : s 54 2 = 1 ∨ s 54 2 = 2 ∧ lxC T L e = 1 := by
      have hc : lxC T L e = 1 ∨ (5 ≤ lxC T L e ∧ lxC T L e ≤ 8) ∨ (65 ≤ lxC T L e ∧ lxC T L e ≤ 122) := by
        unfold pOp at ha
        repeat' split at ha
        all_goals first | omega | cases ha
      unfold TK isS isL at hk
      clear ha hP
      rcases hk with ⟨h1, h2⟩ | ⟨h1, h2⟩ | ⟨h1, h2⟩ | ⟨h1, h2⟩ | ⟨h1, h2⟩
      · exact absurd h2 n0
      · exact Or.inr ⟨h1, h2⟩
      · omega
      · omega
      · exact Or.inl h1
    refine vX11_expression_28 ?_
    rw [if_neg (by decide), show wI true = 1 from rfl, if_neg (by decide), ri_54_2, if_neg (by omega), ri_54_2, if_neg (by omega), ri_54_2, if_neg (by omega), ri_54_2]
    rcases t12 with z | ⟨z, z2⟩
    · rw [if_neg (by omega), ri_54_2, if_pos z]
      refine vX11_expression_188 ?_
      rw [ri_54_2, if_neg (by omega), rc_54]
      refine rOperand (d := d + 1) (ru := ru) x (by omega) t z (fun a' ha' s1 f1 x1 => ?_) (fun hn => by rw [ha] at hn; cases hn)
      have : a' = a := Option.some.inj (ha'.symm.trans ha)
      subst this
      rw [atI_q, if_neg (by decide), wb_54_14_0, uf_same ((f1.2.1 14 (by decide)).trans h14)]
      exact r_op (d := d) hx0 hP hlen he hbr hc (frU_tr f0 (frU_R f1)) (rTok_e (fun k k0 k1 => f1.2.1 k (by omega)) t) x1 ((f1.2.1 17 (by decide)).trans h17) ((f1.2.1 14 (by decide)).trans h14)
    · rw [if_pos z]
      refine vX11_expression_188 ?_
      rw [ri_54_2, if_pos z, ri_54_6, t.2.2.1 z2, rc_54]
      have ea : a = (1, lxN T L e) := by
        unfold pOp at ha
        rw [if_pos z2] at ha
        exact (Option.some.inj ha).symm
      subst ea
      refine rStep x (by omega) (fun s1 f1 _ x1 => ?_)
      rw [atV_q]
      exact r_op (d := d) hx0 hP hlen he hbr hc (frU_tr f0 (frU_R f1)) (rTok_e (fun k k0 k1 => f1.2.1 k (by omega)) t) x1 ((f1.2.1 17 (by decide)).trans h17) ((f1.2.1 14 (by decide)).trans h14)
  · intro e ah br o p n33 n45 n40 hn hW hb he hbr _ hc s f0 t x h17 h14
    have hk := t.2.2.2
    have t33 : s 54 2 = 33 ↔ lxC T L e = 33 := TK_sg hk (by decide)
    have t45 : s 54 2 = 45 ↔ lxC T L e = 45 := TK_sg hk (by decide)
    have t40 : s 54 2 = 40 ↔ lxC T L e = 40 := TK_sg hk (by decide)
    have n2 : s 54 2 ≠ 2 := by
      intro z
      have : lxC T L e = 1 := by
        unfold TK isS at hk
        omega
      unfold pOp at hn
      rw [if_pos this] at hn
      cases hn
    refine vX11_expression_28 ?_
    rw [if_neg (by decide), show wI true = 1 from rfl, if_neg (by decide), ri_54_2, if_neg (by omega), ri_54_2, if_neg (by omega), ri_54_2, if_neg (by omega), ri_54_2, if_neg n2, ri_54_2]
    by_cases z : s 54 2 = 1
    · rw [if_pos z]
      refine vX11_expression_188 ?_
      rw [ri_54_2, if_neg n2, rc_54]
      refine rOperand (d := d + 1) (ru := ru) x (by omega) t z (fun a ha => by rw [hn] at ha; cases ha) (fun _ => ?_)
      rw [atI_q, if_pos rfl, wb_54_14_1]
      exact r_clo (d := d) hx0 hW hb he (frU_tr f0 (frU_54 (by decide))) (rTok_e (fun k k0 k1 => ud_ne (by omega)) t) (show RX (uf s 54 14 1) o p from x) rfl
    · rw [if_neg z, wb_54_14_1]
      exact r392w (hW (uf s 54 14 1) (frU_tr f0 (frU_54 (by decide))) (rTok_e (fun k k0 k1 => ud_ne (by omega)) t) rfl ⟨o.length, x.1, by omega⟩) rfl
  · intro e br o p hN hb he hbr _ hc s f0 t x h17 h14
    have hk := t.2.2.2
    have ks := TK_str hk
    have t41 : s 54 2 = 41 ↔ lxC T L e = 41 := TK_sg hk (by decide)
    have srg := str_rg (lxC T L e)
    -- behind the first reduction
    have aft1 : ∀ (s1 : Nat → Int → Int) (o1 : List (Int × Int)) (p1 : List Int), frR s s1 → RX s1 o1 p1 → o1.length + p1.length = o.length + p.length → br ≤ c40 p1 → Ff (lxC T L) (lxE T L) (RAP G h r T L ru (d + 3) Q s0) (RWr h r T L Q s0) (RDn h r T L Q s0) e br o1 p1 → (if 1 < str (lxC T L e) then pX11_expression_292 G (d + 3) 54 (wI ru) 0 1 (PS h s1 r) Q else (if str (lxC T L e) = 1 then rcv (PS h s1 r) 54 11 (cz G mX11_top (d + 3) 0 0 [vo 54] (PS h s1 r) (fun v h5 => atI v (fun r6 => cz G mX11_strength (d + 3) 0 0 [vi r6] h5 (fun v h7 => atI v (fun r8 => (if r8 = 1 then pX11_expression_320 G (d + 3) 54 (wI ru) 0 0 1 h7 Q else pX11_expression_292 G (d + 3) 54 (wI ru) 0 1 h7 Q)))))) else pX11_expression_320 G (d + 3) 54 (wI ru) 0 0 1 (PS h s1 r) Q)) := by
      intro s1 o1 p1 f1 x1 hlen hc1 hF
      have t1 : rTok T L s1 e := rTok_e (fun k k0 k1 => f1.2.1 k (by omega)) t
      have f01 : frU s0 s1 := frU_tr f0 (frU_R f1)
      have g17 : s1 54 17 = br := (f1.2.1 17 (by decide)).trans h17
      have g14 : s1 54 14 = 0 := (f1.2.1 14 (by decide)).trans h14
      have g2 : s1 54 2 = s 54 2 := f1.2.1 2 (by decide)
      have push : 0 < str (lxC T L e) → RAP G h r T L ru (d + 3) Q s0 (lxE T L e) 0 true br o1 (lxC T L e :: p1) → pX11_expression_292 G (d + 3) 54 (wI ru) 0 1 (PS h s1 r) Q := by
        intro hs hP
        have hadv := lxE_adv hrg he (str_p hs).1
        refine vX11_expression_292 ?_
        rw [ro_54_16, ri_54_15, x1.2.2.2, ri_54_2, g2, ks.2 hs, st_62]
        refine ⟨by omega, by omega, ?_⟩
        rw [ri_54_15, show uf s1 62 (p1.length : Int) (lxC T L e) 54 15 = s1 54 15 from rfl, x1.2.2.2, wi_54_15, show w32 ((p1.length : Int) + 1) = ((p1.length + 1 : Nat) : Int) by rw [w32_id] <;> omega]
        generalize hs2 : uf (uf s1 62 (p1.length : Int) (lxC T L e)) 54 15 ((p1.length + 1 : Nat) : Int) = s2
        obtain ⟨q1, q2, q3⟩ := rPsh hs2.symm x1
        exact r392 (wt := true) (ah := 0) hx0 hP (by rw [List.length_cons]; omega) he hbr (by omega) (Nat.le_trans hc1 c40_c) (frU_tr f01 q1) (rTok_e (fun k k0 k1 => q3 k (by omega)) t1) q2 ((q3 17 (by decide)).trans g17) ((q3 14 (by decide)).trans g14)
      have clo : En (lxC T L) (lxE T L) (RAP G h r T L ru (d + 3) Q s0) (RWr h r T L Q s0) (RDn h r T L Q s0) e br (rdW 1 o1 p1) (rdP 1 p1) → pX11_expression_320 G (d + 3) 54 (wI ru) 0 0 1 (PS h s1 r) Q := by
        intro hE
        have rlen := rd_len (l := 1) p1 o1
        have fin : ¬ (lxC T L e = 41 ∧ 0 < br) → pX11_expression_368 G (d + 3) 54 (wI ru) 0 0 (PS h s1 r) Q := by
          intro hn
          have hE2 := hE.2 hn
          refine vX11_expression_368 ?_
          rw [rc_54]
          refine vX11_reduce (d := d + 2) ?_
          refine rRed p1 s1 o1 x1 (by omega) (fun s2 f2 x2 => ?_)
          have t2 : rTok T L s2 e := rTok_e (fun k k0 k1 => f2.2.1 k (by omega)) t1
          rw [atV_q, ri_54_17, (f2.2.1 17 (by decide)).trans g17]
          by_cases hb0 : br = 0
          · rw [if_pos (by omega), wb_54_14_0, uf_same ((f2.2.1 14 (by decide)).trans g14)]
            exact r392e (hE2.2 hb0 he (by omega) s2 (frU_tr f01 (frU_R f2)) t2 x2.1 x2.2.1 ((f2.2.1 14 (by decide)).trans g14))
          · rw [if_neg (by omega), wb_54_14_1]
            exact r392e (hE2.1 (by omega) (uf s2 54 14 1) (frU_tr f01 (frU_tr (frU_R f2) (frU_54 (by decide)))) (rTok_e (fun k k0 k1 => ud_ne (by omega)) t2) rfl ⟨_, x2.1, by omega⟩)
        refine vX11_expression_320 ?_
        rw [ri_54_2, g2]
        by_cases c41 : lxC T L e = 41
        · rw [if_pos (t41.mpr c41), ri_54_17, g17]
          by_cases hb0 : br = 0
          · rw [if_pos (by omega)]
            exact fin (by omega)
          · rw [if_neg (by omega), rc_54]
            have hP := hE.1 ⟨c41, by omega⟩
            have hadv := lxE_adv hrg he (by omega)
            refine vX11_reduce (d := d + 2) ?_
            refine rRed p1 s1 o1 x1 (by omega) (fun s2 f2 x2 => ?_)
            rw [atV_q]
            generalize hgo : rdW 1 o1 p1 = o2 at x2 hP rlen
            generalize hgp : rdP 1 p1 = p2 at x2 hP rlen
            cases p2 with
            | nil =>
              have := c40_rd (l := 1) p1
              rw [hgp] at this
              have h0 : c40 [] = 0 := rfl
              omega
            | cons y p3 =>
              rw [List.length_cons] at rlen
              replace hP : RAP G h r T L ru (d + 3) Q s0 (lxE T L e) 0 false (br - 1) (cmO o2 p3) (cmP p3) := hP
              have hc3 : br - 1 ≤ c40 p3 := by
                have h1 := c40_rd (l := 1) p1
                rw [hgp] at h1
                have h2 := c40_t (x := y) (p := p3)
                omega
              rw [ri_54_15, x2.2.2.2, List.length_cons, wi_54_15, show w32 (((p3.length + 1 : Nat) : Int) - 1) = (p3.length : Int) by rw [w32_id] <;> omega, ri_54_17, show uf s2 54 15 (p3.length : Int) 54 17 = s2 54 17 from rfl, (f2.2.1 17 (by decide)).trans g17, wi_54_17, show w32 ((br : Int) - 1) = ((br - 1 : Nat) : Int) by rw [w32_id] <;> omega]
              have x3 : RX (uf (uf s2 54 15 (p3.length : Int)) 54 17 ((br - 1 : Nat) : Int)) o2 p3 := ⟨x2.1, x2.2.1, x2.2.2.1.2, rfl⟩
              exact r_op (d := d) hx0 hP (by omega) he (by omega) hc3 (frU_tr f01 (frU_tr (frU_R f2) (frU_tr (frU_54 (by decide)) (frU_54 (by decide))))) (rTok_e (fun k k0 k1 => (ud_ne (by omega)).trans ((ud_ne (by omega)).trans (f2.2.1 k (by omega)))) t1) x3 rfl ((f2.2.1 14 (by decide)).trans g14)
        · rw [if_neg (fun z => c41 (t41.mp z))]
          exact fin (by omega)
      by_cases c1 : 1 < str (lxC T L e)
      · rw [if_pos c1]; exact push (by omega) (hF.1 (Or.inl c1))
      rw [if_neg c1]
      by_cases c2 : str (lxC T L e) = 1
      · rw [if_pos c2, rc_54]
        refine rTop x1 (by omega) ?_
        rw [atI_q]
        refine sX11_strength ?_
        rw [atI_q]
        by_cases c3 : str (tp p1) = 1
        · rw [if_pos c3]; exact clo (hF.2 (by omega))
        · rw [if_neg c3]; exact push (by omega) (hF.1 (Or.inr ⟨c2, c3⟩))
      · rw [if_neg c2]; exact clo (hF.2 (by omega))
    refine vX11_expression_28 ?_
    rw [if_neg (by decide), show wI false = 0 from rfl, if_pos rfl, ri_54_2]
    refine sX11_strength ?_
    rw [atI_q, ks.1]
    unfold Nf lv at hN
    by_cases c1 : str (lxC T L e) ≤ 1
    · rw [if_neg (by omega)] at hN
      rw [if_pos c1, rc_54]
      refine vX11_reduce (d := d + 2) ?_
      refine rRed p s o x (by omega) (fun s1 f1 x1 => ?_)
      rw [atV_q]
      exact aft1 s1 _ _ f1 x1 (rd_len p o) (by rw [c40_rd]; exact hc) hN
    · rw [if_pos (by omega)] at hN
      rw [if_neg c1, rc_54]
      refine vX11_reduce (d := d + 2) ?_
      refine rRed p s o x (by omega) (fun s1 f1 x1 => ?_)
      rw [atV_q]
      exact aft1 s1 _ _ f1 x1 (rd_len p o) (by rw [c40_rd]; exact hc) hN
end RH
