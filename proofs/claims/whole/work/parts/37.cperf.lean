/-! THE CLASS'S MACHINE: run and perform -/
theorem rv_snd (o a who n v : Int) (N : Int → Int) (st : List Int) : (1 ≤ o → o ≤ 8 → (rv o a who n v N st).2 = st) ∧ (o = 9 ∨ o = 10 → (rv o a who n v N st).2 = st.tail) ∧ (11 ≤ o → (rv o a who n v N st).2 = st.tail.tail) := by
  unfold rv
  refine ⟨fun h0 h1 => ?_, fun h0 => ?_, fun h0 => ?_⟩
  · by_cases e : o = 1
    · simp only [e, ↓reduceIte]
    by_cases e : o = 2
    · simp only [e, ↓reduceIte, Int.reduceEq]
    by_cases e : o = 3
    · simp only [e, ↓reduceIte, Int.reduceEq]
    by_cases e : o = 4
    · simp only [e, ↓reduceIte, Int.reduceEq]
    by_cases e : o = 5
    · simp only [e, ↓reduceIte, Int.reduceEq]
    by_cases e : o = 6
    · simp only [e, ↓reduceIte, Int.reduceEq]
    by_cases e : o = 7
    · simp only [e, ↓reduceIte, Int.reduceEq]
    have e : o = 8 := by omega
    simp only [e, ↓reduceIte, Int.reduceEq]
  · rcases h0 with e | e <;> simp only [e, ↓reduceIte, Int.reduceEq]
  · have n2 : o ≠ 1 ∧ o ≠ 2 ∧ o ≠ 3 ∧ o ≠ 4 ∧ o ≠ 5 ∧ o ≠ 6 ∧ o ≠ 7 ∧ o ≠ 8 ∧ o ≠ 9 ∧ o ≠ 10 := by omega
    simp only [n2, ↓reduceIte]
theorem stk_tl {g : Int → Int} : ∀ {st : List Int}, stk st g → stk st.tail g
  | [], _ => trivial
  | _ :: _, hs => hs.2.2
theorem tO_le {o a : Int} (h0 : 1 ≤ o) (h1 : o ≤ 18) : 1 ≤ tO o a ∧ tO o a ≤ 17 := by
  unfold tO
  repeat' split
  all_goals omega
section CP
variable {h : az_H} {s : Nat → Int → Int} {r : Nat → Int → Option Nat} {G : az_G} {d e m : Nat} {Q : Option az_V → az_H → Prop} {w : Int} {cs : Int → Option Cd} {hk : Int → Option (Int × Int)} {z : Z3}
theorem sX1_op {b bo : Nat} {v0 v1 v2 v4 : az_V} {ops : List Int} {x : Int} (hb : h.1 b = cO 1 [v0, v1, v2, vo bo, v4]) (ho : h.1 bo = cA .int ops) (hn : ops.length ≤ 208) (h0 : 0 ≤ x) (h1 : x < ops.length) (hq : Q (some (vi (lsF ops x))) h) : cz G mX1_op d 0 0 [vo b, vi x] h Q := by
  refine vX1_op ?_
  rw [if_neg (by omega), rdO_q hb rfl]
  refine aln_i ho (by simp [arrT]) (by omega) ?_
  rw [if_neg (by omega), rdO_q hb rfl]
  exact ldI_i ho h0 h1 hq
theorem sX1_arg {b bo : Nat} {v0 v1 v2 v3 : az_V} {ops : List Int} {x : Int} (hb : h.1 b = cO 1 [v0, v1, v2, v3, vo bo]) (ho : h.1 bo = cA .int ops) (hn : ops.length ≤ 208) (h0 : 0 ≤ x) (h1 : x < ops.length) (hq : Q (some (vi (lsF ops x))) h) : cz G mX1_arg d 0 0 [vo b, vi x] h Q := by
  refine vX1_arg ?_
  rw [if_neg (by omega), rdO_q hb rfl]
  refine aln_i ho (by simp [arrT]) (by omega) ?_
  rw [if_neg (by omega), rdO_q hb rfl]
  exact ldI_i ho h0 h1 hq
theorem exec_s {hf : Z3 → Z3} {c : Cd} {k who n v : Int} {f j : Nat} {st : List Int} : exec hf w c k who n v (f + 1) j st z = if c.1 ≤ j then (some st, z) else
    if c.2.1 j < 20 then (match rk (c.2.1 j) (c.2.2.1 j) who n v z.1 st with
      | none => (none, z)
      | some st' => exec hf w c k who n v f (j + 1) st' z)
    else if c.2.1 j = 20 then (if st.headD 0 = 0 then (none, meetZ w (24 * k + (2 * c.2.2.1 j + 1)) z) else exec hf w c k who n v f (j + 1) [] (meetZ w (24 * k + 2 * c.2.2.1 j) z))
    else if c.2.1 j = 23 then (if st.headD 0 = 0 then exec hf w c k who n v f (c.2.2.2 j).toNat [] (meetZ w (24 * k + (2 * c.2.2.1 j + 1)) z) else exec hf w c k who n v f (j + 1) [] (meetZ w (24 * k + 2 * c.2.2.1 j) z))
    else if c.2.1 j = 21 then exec hf w c k who n v f (j + 1) [] (ud z.1 (cellI (c.2.2.1 j) who) (st.headD 0), z.2)
    else (if st.headD 0 < 0 then (none, z) else if z.1 18 < st.headD 0 then (none, z) else exec hf w c k who n v f (j + 1) [] (hf (payZ who (st.headD 0) z))) := rfl
theorem meetZ_1 {i : Int} : (meetZ w i z).1 = z.1 := by
  unfold meetZ
  split
  · rfl
  split <;> rfl
theorem run8_go {b : Nat} {lv x3 : Int} {x2 : Option Nat} {ops args : List Int} {c : Cd} {p : Nat} (hC : cCodx h b lv ops args c) (hp : p < cp c.2.1 c.1)
    (hF : (if (lsF ops p) = 18 then rdO (PS h s r) 27 4 0 (fun o7 => nnR x2 (fun a8 => rdI (PS h s r) a8 0 1 (fun f9 => rcv (PS h s r) 27 4 (cz G mX4_isZeroOnTop d 0 0 [vo 27] (PS h s r) (fun v h10 => atI v (fun r11 => (if r11 = 0 then rcv h10 o7 9 (cz G mX9_meet d 0 0 [vo o7, vi f9, vi (lsF args p)] h10 (fun v h12 => atV v (pX4_run_8 G d 27 (some b) (some a8) x3 (w32 ((p : Int) + 1)) h12 Q))) else rcv h10 o7 9 (cz G mX9_meet d 0 0 [vo o7, vi f9, vi (w32 ((lsF args p) + 1))] h10 (fun v h13 => atV v (pX4_run_8 G d 27 (some b) (some a8) x3 (w32 ((p : Int) + 1)) h13 Q)))))))))) else (if (lsF ops p) = 19 then rcv (PS h s r) 27 4 (cz G mX4_pop d 0 0 [vo 27] (PS h s r) (fun v h15 => atL v (fun r16 => (if r16 = 0 then Q (some (vi 0)) h15 else pX4_run_8 G d 27 (some b) x2 x3 (w32 ((p : Int) + 1)) h15 Q)))) else (if (lsF ops p) = 20 then rcv (PS h s r) 27 4 (cz G mX4_pop d 0 0 [vo 27] (PS h s r) (fun v h18 => atL v (fun r19 => (if r19 = 0 then cz G mJ9_max_7cf53 d 0 0 [vi (p : Int), vi (w32 ((lsF args p) - 1))] h18 (fun v h20 => atI v (fun r21 => pX4_run_8 G d 27 (some b) x2 x3 (w32 (r21 + 1)) h20 Q)) else pX4_run_8 G d 27 (some b) x2 x3 (w32 ((p : Int) + 1)) h18 Q)))) else (if (lsF ops p) = 21 then rcv (PS h s r) 27 4 (cz G mX4_pop d 0 0 [vo 27] (PS h s r) (fun v h23 => atL v (fun r24 => rcv h23 27 4 (cz G mX4_put d 0 0 [vo 27, vi (lsF args p), vi (w32 r24)] h23 (fun v h25 => atV v (pX4_run_8 G d 27 (some b) x2 x3 (w32 ((p : Int) + 1)) h25 Q)))))) else (if (lsF ops p) = 22 then nnR x2 (fun a27 => rdI (PS h s r) a27 0 0 (fun f28 => rcv (PS h s r) 27 4 (cz G mX4_pop d 0 0 [vo 27] (PS h s r) (fun v h29 => atL v (fun r30 => rcv h29 27 4 (cz G mX4_put d 0 0 [vo 27, vi (w32 ((lsF args p) + f28)), vi (w32 r30)] h29 (fun v h31 => atV v (pX4_run_8 G d 27 (some b) (some a27) x3 (w32 ((p : Int) + 1)) h31 Q)))))))) else (if (lsF ops p) = 23 then rcv (PS h s r) 27 4 (cz G mX4_pop d 0 0 [vo 27] (PS h s r) (fun v h33 => atL v (fun r34 => rcv h33 27 4 (cz G mX4_pay d 0 0 [vo 27, vr x2, vl r34, vi x3] h33 (fun v h35 => atI v (fun r36 => (if r36 = 0 then Q (some (vi 0)) h35 else pX4_run_8 G d 27 (some b) x2 x3 (w32 ((p : Int) + 1)) h35 Q))))))) else rcv (PS h s r) 27 4 (cz G mX4_reckon d 0 0 [vo 27, vi (lsF ops p), vi (lsF args p), vr x2] (PS h s r) (fun v h38 => atL v (fun r39 => rcv h38 27 4 (cz G mX4_push d 0 0 [vo 27, vl r39] h38 (fun v h40 => atI v (fun r41 => (if r41 = 0 then Q (some (vi 0)) h40 else pX4_run_8 G d 27 (some b) x2 x3 (w32 ((p : Int) + 1)) h40 Q)))))))))))))) : pX4_run_8 G d 27 (some b) x2 x3 p (PS h s r) Q := by
  obtain ⟨stn, bo, ba, b9, bo9, ba9, hb, hbo, hba, hlo, hla, hsz, hins⟩ := hC
  have hb' : (PS h s r).1 b = cO 1 [vi stn, vi lv, vi (cp c.2.1 c.1), vo bo, vo ba] := (PS_out b9).trans hb
  refine vX4_run_8 ?_
  rw [nnR_q, rdI_q hb' rfl, if_neg (by omega), rcv_q hb']
  refine sX1_op hb' ((PS_out bo9).trans hbo) (by omega) (by omega) (by omega) ?_
  rw [atI_q, rcv_q hb']
  refine sX1_arg hb' ((PS_out ba9).trans hba) (by omega) (by omega) (by omega) ?_
  rw [atI_q]
  exact hF
theorem run8_end {b : Nat} {lv x3 : Int} {x2 : Option Nat} {ops args : List Int} {c : Cd} (hC : cCodx h b lv ops args c) (hq : Q (some (vi 1)) (PS h s r)) : pX4_run_8 G d 27 (some b) x2 x3 (cp c.2.1 c.1 : Nat) (PS h s r) Q := by
  obtain ⟨stn, bo, ba, b9, bo9, ba9, hb, hbo, hba, hlo, hla, hsz, hins⟩ := hC
  refine vX4_run_8 ?_
  rw [nnR_q, rdI_q ((PS_out b9).trans hb) rfl, if_pos (Int.le_refl _)]
  exact hq
end CP
