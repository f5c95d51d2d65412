/-! THE CLASS'S MACHINE: the loop's steps -/
section CS
variable {h : az_H} {s : Nat → Int → Int} {r : Nat → Int → Option Nat} {G : az_G} {d e m : Nat} {Q : Option az_V → az_H → Prop} {w : Int} {cs : Int → Option Cd} {hk : Int → Option (Int × Int)} {z : Z3} {b bc : Nat} {lv x3 : Int} {ops args : List Int} {c : Cd} {j : Nat} {who k n v : Int} {st : List Int}
theorem c_ins (hC : cCodx h b lv ops args c) (hj : j < c.1) : cIns (lsF ops) (lsF args) c j ∧ cp c.2.1 c.1 ≤ 208 ∧ cp c.2.1 j < cp c.2.1 c.1 := by
  obtain ⟨stn, bo, ba, b9, bo9, ba9, hb, hbo, hba, hlo, hla, hsz, hins⟩ := hC
  exact ⟨hins j hj, hsz, cp_lt _ hj⟩
theorem c_nx1 (hC : cCodx h b lv ops args c) (hj : j < c.1) (hne : ¬ (c.2.1 j = 20 ∨ c.2.1 j = 23)) : w32 ((cp c.2.1 j : Int) + 1) = (cp c.2.1 (j + 1) : Nat) := by
  have h1 := (c_ins hC hj).2
  have h2 : cp c.2.1 (j + 1) = cp c.2.1 j + (if c.2.1 j = 20 ∨ c.2.1 j = 23 then 2 else 1) := rfl
  rw [if_neg hne] at h2
  rw [w32_id] <;> omega
theorem c_nx2 (hC : cCodx h b lv ops args c) (hj : j < c.1) (hne : c.2.1 j = 20 ∨ c.2.1 j = 23) : w32 ((cp c.2.1 j : Int) + 1) = (cp c.2.1 j + 1 : Nat) ∧ w32 (((cp c.2.1 j + 1 : Nat) : Int) + 1) = (cp c.2.1 (j + 1) : Nat) ∧ cp c.2.1 j + 1 < cp c.2.1 c.1 := by
  have h1 := (c_ins hC hj).2
  have h2 : cp c.2.1 (j + 1) = cp c.2.1 j + (if c.2.1 j = 20 ∨ c.2.1 j = 23 then 2 else 1) := rfl
  have h3 := cp_mono c.2.1 j c.1 hj
  rw [if_pos hne] at h2 h3
  refine ⟨?_, ?_, by omega⟩ <;> rw [w32_id] <;> omega
theorem c_ar (hC : cCodx h b lv ops args c) (hj : j < c.1) (hc : isCl h r bc who k n v) (hw : 0 ≤ who ∧ who < 4) (ho : 1 ≤ c.2.1 j ∧ c.2.1 j ≤ 18) (hst : cSt w s z) (hs : stk st (s 34)) (ht : s 27 5 = st.length) (hl : st.length ≤ 31)
    (hpre : (c.2.1 j = 9 ∨ c.2.1 j = 10 → 1 ≤ st.length) ∧ (11 ≤ c.2.1 j → 2 ≤ st.length)) (harg : (c.2.1 j = 2 → 0 ≤ c.2.2.1 j ∧ c.2.2.1 j ≤ 7) ∧ (c.2.1 j = 7 → 0 ≤ c.2.2.1 j ∧ c.2.2.1 j ≤ 1) ∧ (c.2.1 j = 8 → 0 ≤ c.2.2.1 j ∧ c.2.2.1 j ≤ 3))
    {x : Int} {st' : List Int} (hr : rv (c.2.1 j) (c.2.2.1 j) who n v z.1 st = (x, st')) (hl' : st'.length < 32)
    (hq1 : fts x → pX4_run_8 G (d + 1) 27 (some b) (some bc) x3 (cp c.2.1 (j + 1) : Nat) (PS h (uf (uf (uf s 27 5 st'.length) 34 st'.length x) 27 5 (st'.length + 1)) r) Q) (hq0 : ¬ fts x → Q (some (vi 0)) (PS h (uf s 27 5 st'.length) r)) :
    pX4_run_8 G (d + 1) 27 (some b) (some bc) x3 (cp c.2.1 j : Nat) (PS h s r) Q := by
  obtain ⟨hci, hsz, hlt⟩ := c_ins hC hj
  obtain ⟨hO, hA⟩ := hci.1 (by omega)
  have hto := tO_le (a := c.2.2.1 j) ho.1 ho.2
  have e1 := c_nx1 hC hj (by omega)
  refine run8_go hC hlt ?_
  rw [hO, hA]
  generalize hoo : tO (c.2.1 j) (c.2.2.1 j) = oo at hto ⊢
  rw [if_neg (by omega), if_neg (by omega), if_neg (by omega), if_neg (by omega), if_neg (by omega), if_neg (by omega), rc_27, ← hoo]
  refine sX4_reckon (N := z.1) (st := st) hst.1 hst.2.2.2.2 hs ht (by omega) hw hc ho hpre harg ?_
  rw [hr, atL_q, rc_27]
  refine sX4_push (st := st') rfl hl' (fun hx => ?_) (fun hx => ?_)
  · rw [atI_q, if_neg (by decide), e1]
    exact hq1 hx
  · rw [atI_q, if_pos rfl]
    exact hq0 hx
theorem c_meet (hC : cCodx h b lv ops args c) (hj : j < c.1) (hc : isCl h r bc who k n v) (hk6 : 0 ≤ k ∧ k < 6) (ho : c.2.1 j = 20 ∨ c.2.1 j = 23) (ha : 0 ≤ c.2.2.1 j ∧ c.2.2.1 j ≤ 11) (hst : cSt w s z) {x : Int} (hs : stk [x] (s 34)) (ht : s 27 5 = 1)
    (hq : ∀ g', cSt w (uf (up s 24 g') 22 5 (meetZ w (24 * k + (2 * c.2.2.1 j + if x = 0 then 1 else 0)) z).2.2) (meetZ w (24 * k + (2 * c.2.2.1 j + if x = 0 then 1 else 0)) z) → pX4_run_8 G (d + 1) 27 (some b) (some bc) x3 (cp c.2.1 j + 1 : Nat) (PS h (uf (up s 24 g') 22 5 (meetZ w (24 * k + (2 * c.2.2.1 j + if x = 0 then 1 else 0)) z).2.2) r) Q) :
    pX4_run_8 G (d + 1) 27 (some b) (some bc) x3 (cp c.2.1 j : Nat) (PS h s r) Q := by
  obtain ⟨hci, hsz, hlt⟩ := c_ins hC hj
  have hOA : lsF ops (cp c.2.1 j) = 18 ∧ lsF args (cp c.2.1 j) = 2 * c.2.2.1 j := by
    rcases ho with y | y
    · exact ⟨(hci.2.1 y).1, (hci.2.1 y).2.1⟩
    · exact ⟨(hci.2.2.1 y).1, (hci.2.2.1 y).2.1⟩
  obtain ⟨e1, e2, e3⟩ := c_nx2 hC hj ho
  refine run8_go hC hlt ?_
  rw [hOA.1, hOA.2, if_pos rfl, ro_27_0, nnR_q, rdI_q (hc s) rfl, rc_27]
  refine sX4_zero (st := []) hs ht (by decide) (fun cx => ?_) (fun cx => ?_)
  · rw [atI_q, if_neg (by decide), rc_22, w32_id (x := 2 * c.2.2.1 j + 1) (by omega) (by omega)]
    rw [if_pos cx] at hq
    refine sX9_meet (z := z) hst.2.1 hst.2.2.1 hst.2.2.2.1 hk6.1 hk6.2 (by omega) (by omega) (fun g' hg' => ?_)
    rw [atV_q, e1]
    refine hq g' ⟨?_, hg', rfl, hst.2.2.2.1, ?_⟩
    · rw [meetZ_1]; exact hst.1
    · rw [meetZ_1]; exact hst.2.2.2.2
  · rw [atI_q, if_pos rfl, rc_22]
    rw [if_neg cx] at hq
    refine sX9_meet (z := z) hst.2.1 hst.2.2.1 hst.2.2.2.1 hk6.1 hk6.2 (by omega) (by omega) (fun g' hg' => ?_)
    rw [atV_q, e1]
    rw [Int.add_zero] at hq
    refine hq g' ⟨?_, hg', rfl, hst.2.2.2.1, ?_⟩
    · rw [meetZ_1]; exact hst.1
    · rw [meetZ_1]; exact hst.2.2.2.2
theorem c_need (hC : cCodx h b lv ops args c) (hj : j < c.1) (ho : c.2.1 j = 20) {x : Int} (hs : stk [x] (s 34)) (ht : s 27 5 = 1) (hq0 : x = 0 → Q (some (vi 0)) (PS h (uf s 27 5 0) r)) (hq1 : x ≠ 0 → pX4_run_8 G d 27 (some b) (some bc) x3 (cp c.2.1 (j + 1) : Nat) (PS h (uf s 27 5 0) r) Q) :
    pX4_run_8 G d 27 (some b) (some bc) x3 (cp c.2.1 j + 1 : Nat) (PS h s r) Q := by
  obtain ⟨hci, hsz, hlt⟩ := c_ins hC hj
  obtain ⟨e1, e2, e3⟩ := c_nx2 hC hj (Or.inl ho)
  have hO2 : lsF ops ((cp c.2.1 j + 1 : Nat) : Int) = 19 := (hci.2.1 ho).2.2
  refine run8_go hC e3 ?_
  rw [hO2, if_neg (by decide), if_pos rfl, rc_27]
  refine sX4_pop (st := []) hs ht (by decide) ?_
  rw [atL_q]
  by_cases cx : x = 0
  · rw [if_pos cx]; exact hq0 cx
  · rw [if_neg cx, e2]; exact hq1 cx
theorem c_if (hC : cCodx h b lv ops args c) (hj : j < c.1) (ho : c.2.1 j = 23) (hg : (j : Int) < c.2.2.2 j ∧ c.2.2.2 j ≤ c.1) {x : Int} (hs : stk [x] (s 34)) (ht : s 27 5 = 1) (hq0 : x = 0 → pX4_run_8 G d 27 (some b) (some bc) x3 (cp c.2.1 (c.2.2.2 j).toNat : Nat) (PS h (uf s 27 5 0) r) Q) (hq1 : x ≠ 0 → pX4_run_8 G d 27 (some b) (some bc) x3 (cp c.2.1 (j + 1) : Nat) (PS h (uf s 27 5 0) r) Q) :
    pX4_run_8 G d 27 (some b) (some bc) x3 (cp c.2.1 j + 1 : Nat) (PS h s r) Q := by
  obtain ⟨hci, hsz, hlt⟩ := c_ins hC hj
  obtain ⟨e1, e2, e3⟩ := c_nx2 hC hj (Or.inr ho)
  have hO2 : lsF ops ((cp c.2.1 j + 1 : Nat) : Int) = 20 := (hci.2.2.1 ho).2.2.1
  have hA2 : lsF args ((cp c.2.1 j + 1 : Nat) : Int) = cp c.2.1 (c.2.2.2 j).toNat := (hci.2.2.1 ho).2.2.2
  have hgl : cp c.2.1 j + 2 ≤ cp c.2.1 (c.2.2.2 j).toNat := by
    have := cp_mono c.2.1 j (c.2.2.2 j).toNat (by omega)
    rw [if_pos (Or.inr ho)] at this
    exact this
  have hgs : cp c.2.1 (c.2.2.2 j).toNat ≤ cp c.2.1 c.1 := by
    by_cases cg : (c.2.2.2 j).toNat = c.1
    · rw [cg]; exact Nat.le_refl _
    · exact Nat.le_of_lt (cp_lt _ (by omega))
  refine run8_go hC e3 ?_
  rw [hO2, hA2, if_neg (by decide), if_neg (by decide), if_pos rfl, rc_27]
  refine sX4_pop (st := []) hs ht (by decide) ?_
  rw [atL_q]
  by_cases cx : x = 0
  · rw [if_pos cx]
    refine sJ9_max ?_
    rw [atI_q]
    have e4 : w32 (max ((cp c.2.1 j + 1 : Nat) : Int) (w32 ((cp c.2.1 (c.2.2.2 j).toNat : Int) - 1)) + 1) = (cp c.2.1 (c.2.2.2 j).toNat : Nat) := by
      rw [w32_id (x := (cp c.2.1 (c.2.2.2 j).toNat : Int) - 1) (by omega) (by omega), w32_id] <;> omega
    rw [e4]
    exact hq0 cx
  · rw [if_neg cx, e2]; exact hq1 cx
theorem c_set (hC : cCodx h b lv ops args c) (hj : j < c.1) (hc : isCl h r bc who k n v) (hw : 0 ≤ who ∧ who < 4) (ho : c.2.1 j = 21) (ha : 0 ≤ c.2.2.1 j ∧ c.2.2.1 j ≤ 7) {x : Int} (hs : stk [x] (s 34)) (ht : s 27 5 = 1)
    (hq : pX4_run_8 G d 27 (some b) (some bc) x3 (cp c.2.1 (j + 1) : Nat) (PS h (uf (uf s 27 5 0) 29 (cellI (c.2.2.1 j) who) x) r) Q) :
    pX4_run_8 G d 27 (some b) (some bc) x3 (cp c.2.1 j : Nat) (PS h s r) Q := by
  obtain ⟨hci, hsz, hlt⟩ := c_ins hC hj
  have hOA := hci.2.2.2.1 ho
  have hx := hs.2.1
  have e1 := c_nx1 hC hj (by omega)
  refine run8_go hC hlt ?_
  unfold cellI at hq
  by_cases c6 : c.2.2.1 j < 6
  · rw [if_pos c6] at hOA hq
    rw [if_pos c6] at hOA
    rw [hOA.1, hOA.2, if_neg (by decide), if_neg (by decide), if_neg (by decide), if_pos rfl, rc_27]
    refine sX4_pop (st := []) hs ht (by decide) ?_
    rw [atL_q, rc_27, w32_id (by omega) (by omega)]
    refine sX4_put (by omega) (by omega) ?_
    rw [atV_q, e1]
    exact hq
  · rw [if_neg c6] at hOA hq
    rw [if_neg c6] at hOA
    rw [hOA.1, hOA.2, if_neg (by decide), if_neg (by decide), if_neg (by decide), if_neg (by decide), if_pos rfl, nnR_q, rdI_q (hc s) rfl, rc_27]
    refine sX4_pop (st := []) hs ht (by decide) ?_
    rw [atL_q, rc_27, w32_id (x := x) (by omega) (by omega)]
    by_cases c7 : c.2.2.1 j = 6
    · rw [if_pos c7] at hq ⊢
      rw [w32_id (x := 6 + who) (by omega) (by omega)]
      refine sX4_put (by omega) (by omega) ?_
      rw [atV_q, e1]
      exact hq
    · rw [if_neg c7] at hq ⊢
      rw [w32_id (x := 10 + who) (by omega) (by omega)]
      refine sX4_put (by omega) (by omega) ?_
      rw [atV_q, e1]
      exact hq
theorem c_pay (hE : CEnv h r cs hk) (hm : m ≤ 2) (hp : ∀ m', m = m' + 1 → PFs G h r w cs hk e m') (hC : cCodx h b lv ops args c) (hj : j < c.1) (hc : isCl h r bc who k n v) (hw : 0 ≤ who ∧ who < 4) (ho : c.2.1 j = 22) (hst : cSt w s z) {x : Int} (hs : stk [x] (s 34)) (ht : s 27 5 = 1)
    (hq0 : x < 0 ∨ z.1 18 < x → Q (some (vi 0)) (PS h (uf s 27 5 0) r))
    (hq1 : 0 ≤ x → x ≤ z.1 18 → ∀ s', cSt w s' (hfZ w cs hk m who (payZ who x z)) → frM (34 - m) (uf s 27 5 0) s' → s' 27 5 = 0 → pX4_run_8 G (e + 3 * m + 2) 27 (some b) (some bc) (3 - (m : Int)) (cp c.2.1 (j + 1) : Nat) (PS h s' r) Q) :
    pX4_run_8 G (e + 3 * m + 2) 27 (some b) (some bc) (3 - (m : Int)) (cp c.2.1 j : Nat) (PS h s r) Q := by
  obtain ⟨hci, hsz, hlt⟩ := c_ins hC hj
  have hO := hci.2.2.2.2 ho
  have e1 := c_nx1 hC hj (by omega)
  refine run8_go hC hlt ?_
  rw [hO, if_neg (by decide), if_neg (by decide), if_neg (by decide), if_neg (by decide), if_neg (by decide), if_pos rfl, rc_27]
  refine sX4_pop (st := []) hs ht (by decide) ?_
  rw [atL_q, rc_27]
  refine cPay (s := uf s 27 5 0) hE hm hp (cSt_fr rfl rfl rfl hst) hc hw hs.2.1 rfl (fun y => ?_) (fun y0 y1 s' q1 q2 q3 => ?_)
  · rw [atI_q, if_pos rfl]
    exact hq0 y
  · rw [atI_q, if_neg (by decide), e1]
    exact hq1 y0 y1 s' q1 q2 q3
end CS
