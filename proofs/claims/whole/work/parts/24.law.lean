/-! THE LAW over any invariant that the twenty-two calls keep -/
/-- what the law itself needs of a heap -/
def LH (xs : List Int) (h : az_H) : Prop := h.1 0 = cA .float xs ∧ (∃ fs, h.1 16 = cO 10 fs) ∧ ∃ fs, h.1 54 = cO 11 fs
/-- a call of the class, then the same of the reference: one answer, and the invariant -/
def stp (xs : List Int) (I : az_H → Prop) (G : az_G) (D mc ms : Nat) (Mc Mr : az_M) (as : List az_V) : Prop := ∀ h, I h → cz G Mc D mc ms (vo 16 :: as) h (fun v h1 => LH xs h1 ∧ atI v (fun r => cz G Mr D 0 0 (vo 54 :: as) h1 (fun v2 h2 => atI v2 (fun r2 => r = r2 ∧ I h2))))
abbrev rg (x : Int) : Prop := -2147483648 ≤ x ∧ x < 2147483648
def lawOK (xs : List Int) (I : az_H → Prop) (G : az_G) (D : Nat) : Prop := (∀ h, I h → LH xs h) ∧
  (∀ a b c e, rg a → rg b → rg c → rg e → stp xs I G D 0 0 mX10_feed mX11_feed [vi a, vi b, vi c, vi e]) ∧
  (∀ a, rg a → stp xs I G D 0 0 mX10_cut mX11_cut [vi a]) ∧
  (∀ a, rg a → stp xs I G D 3 421 mX10_method mX11_method [vi a]) ∧
  (stp xs I G D 3 421 mX10_rule mX11_rule []) ∧
  (∀ a b c e, rg a → rg b → rg c → rg e → stp xs I G D 1 4 mX10_actor mX11_actor [vi a, vi b, vi c, vi e]) ∧
  (∀ a b c e, rg a → rg b → rg c → rg e → stp xs I G D 1 4 mX10_call mX11_call [vi a, vi b, vi c, vi e]) ∧
  (stp xs I G D 0 0 mX10_start mX11_start []) ∧
  (∀ a, rg a → stp xs I G D 0 0 mX10_state mX11_state [vi a]) ∧
  (∀ a, rg a → stp xs I G D 0 0 mX10_holds mX11_holds [vi a]) ∧
  (∀ a b c e, rg a → rg b → rg c → rg e → stp xs I G D 1 4 mX10_choice mX11_choice [vi a, vi b, vi c, vi e]) ∧
  (stp xs I G D 0 0 mX10_fresh mX11_fresh []) ∧
  (∀ a b, rg a → rg b → stp xs I G D 0 0 mX10_every mX11_every [vi a, vi b]) ∧
  (stp xs I G D 0 0 mX10_states mX11_states []) ∧
  (∀ a b c, rg a → rg b → rg c → stp xs I G D 0 0 mX10_draw mX11_draw [vi a, vi b, vi c]) ∧
  (∀ a b c, rg a → rg b → rg c → stp xs I G D 0 0 mX10_row mX11_row [vl (lOr (lShl a 32) (lAnd b 4294967295)), vi c]) ∧
  (∀ a b, rg a → rg b → stp xs I G D 0 0 mX10_least mX11_least [vi a, vi b]) ∧
  (∀ a b, rg a → rg b → stp xs I G D 0 0 mX10_at mX11_at_ [vi a, vi b]) ∧
  (∀ a b, rg a → rg b → stp xs I G D 0 0 mX10_breaks mX11_breaks [vi a, vi b]) ∧
  (∀ a b, rg a → rg b → stp xs I G D 0 0 mX10_profit mX11_profit [vi a, vi b]) ∧
  (∀ a b, rg a → rg b → stp xs I G D 0 0 mX10_met mX11_met [vi a, vi b]) ∧
  (∀ a b, rg a → rg b → stp xs I G D 0 0 mX10_kept mX11_kept [vi a, vi b]) ∧
  (∀ a, rg a → stp xs I G D 0 0 mX10_told mX11_told [vi a])
/-- the loop's head at the script's end -/
theorem vL_law_18' {G : az_G} {d mc ms : Nat} {x1 x2 : Nat} {x3 : Int} {h : az_H} {Q : Option az_V → az_H → Prop} (hF : scL h (fun n1 => if w32 (n1 - 5) < x3 then Q (some (vi 1)) h else False)) : pL_law_18 G d (mc + 3 * 0) (ms + 421 * 0) x1 x2 x3 h Q := by
  unfold pL_law_18
  refine rz_iload_n dL_law_18 rfl (show _ = some (some (vi x3)) from rfl) ?_
  refine rz_aload_n dL_law_19 rfl (show _ = some (some (vo 0)) from rfl) ?_
  replace hF := scL_e hF
  obtain ⟨xs, n1, hg, hn, hF⟩ := hF
  refine rz_slen dL_law_20 hg hn ?_
  refine rz_iconst dL_law_21 rfl (by decide) ?_
  refine rz_isub dL_law_22 ?_
  refine rz_icmp_gt (tgt := 858) dL_law_23 (by decide) (fun c => ?_) (fun c => ?_)
  · replace hF := ite_t hF c
    refine rz_iconst dL_law_858 rfl (by decide) ?_
    exact rz_iret dL_law_859 (Or.inr rfl) hF
  · exact absurd (ite_f hF c) id
set_option maxHeartbeats 8000000 in
theorem law_loop {xs : List Int} {I : az_H → Prop} {G : az_G} {D : Nat} (hok : lawOK xs I G D) (hL : xs.length ≤ 2560) (hr : ∀ x ∈ xs, rg x) : ∀ (r : Nat) (mc ms : Nat) (x3 : Int) (h : az_H), I h → 0 ≤ x3 → x3 ≤ 2565 → (xs.length : Int) ≤ x3 + 5 * r → pL_law_18 G D (mc + 3 * r) (ms + 421 * r) 16 54 x3 h (fun v _ => v = some (vi 1)) := by
  obtain ⟨hLH, s_feed, s_cut, s_method, s_rule, s_actor, s_call, s_start, s_state, s_holds, s_choice, s_fresh, s_every, s_states, s_draw, s_row, s_least, s_at, s_breaks, s_profit, s_met, s_kept, s_told⟩ := hok
  have hgr : ∀ i : Int, rg (xs.getD i.toNat 0) := by
    intro i
    by_cases hi : i.toNat < xs.length
    · exact hr _ (gd_mem hi)
    · rw [List.getD_eq_getElem?_getD, List.getElem?_eq_none (by omega)]
      exact ⟨by decide, by decide⟩
  intro r
  induction r with
  | zero =>
    intro mc ms x3 h hI h0 h1 h2
    refine vL_law_18' (mc := mc) (ms := ms) ?_
    refine scL_i (hLH h hI).1 ?_
    rw [if_pos (by rw [w32_id (by omega) (by omega)]; omega)]
  | succ r ih =>
    intro mc ms x3 h hI h0 h1 h2
    obtain ⟨hg, ⟨f10, h10⟩, ⟨f11, h11⟩⟩ := hLH h hI
    have e1 : mc + 3 * (r + 1) = mc + 3 * r + 3 := by omega
    have e2 : ms + 421 * (r + 1) = ms + 421 * r + 421 := by omega
    rw [e1, e2]
    refine vL_law_18 ?_
    refine scL_i hg ?_
    have w0 : w32 ((xs.length : Int) - 5) = xs.length - 5 := w32_id (by omega) (by omega)
    have w1 : w32 (x3 + 1) = x3 + 1 := w32_id (by omega) (by omega)
    have w2 : w32 (x3 + 2) = x3 + 2 := w32_id (by omega) (by omega)
    have w3 : w32 (x3 + 3) = x3 + 3 := w32_id (by omega) (by omega)
    have w4 : w32 (x3 + 4) = x3 + 4 := w32_id (by omega) (by omega)
    have w5 : w32 (x3 + 5) = x3 + 5 := w32_id (by omega) (by omega)
    rw [w0]
    by_cases hx : (xs.length : Int) - 5 < x3
    · rw [if_pos hx]
    rw [if_neg hx]
    simp only [w1, w2, w3, w4, w5]
    refine ldI_i hg h0 (by omega) ?_
    by_cases c0 : bAnd (xs.getD x3.toNat 0) 31 = 0
    · rw [if_pos c0]
      refine ldI_i hg (by omega) (by omega) ?_
      refine ldI_i hg (by omega) (by omega) ?_
      refine ldI_i hg (by omega) (by omega) ?_
      refine ldI_i hg (by omega) (by omega) ?_
      refine rcv_i h10 ?_
      refine cz_mono ?_ (s_feed _ _ _ _ (hgr _) (hgr _) (hgr _) (hgr _) h hI)
      rintro v h1 ⟨⟨hg1, -, ⟨fr, h11⟩⟩, hv⟩
      obtain ⟨r1, rfl, hv⟩ := atI_e hv
      refine atI_i ?_
      refine ldI_i hg1 (by omega) (by omega) ?_
      refine ldI_i hg1 (by omega) (by omega) ?_
      refine ldI_i hg1 (by omega) (by omega) ?_
      refine ldI_i hg1 (by omega) (by omega) ?_
      refine rcv_i h11 ?_
      refine cz_mono ?_ hv
      intro v h2 hv2
      obtain ⟨r2, rfl, e, hI2⟩ := atI_e hv2
      refine atI_i ?_
      rw [if_pos e]
      exact ih mc ms (x3 + 5) h2 hI2 (by omega) (by omega) (by omega)
    rw [if_neg c0]
    by_cases c1 : bAnd (xs.getD x3.toNat 0) 31 = 1
    · rw [if_pos c1]
      refine ldI_i hg (by omega) (by omega) ?_
      refine rcv_i h10 ?_
      refine cz_mono ?_ (s_cut _ (hgr _) h hI)
      rintro v h1 ⟨⟨hg1, -, ⟨fr, h11⟩⟩, hv⟩
      obtain ⟨r1, rfl, hv⟩ := atI_e hv
      refine atI_i ?_
      refine ldI_i hg1 (by omega) (by omega) ?_
      refine rcv_i h11 ?_
      refine cz_mono ?_ hv
      intro v h2 hv2
      obtain ⟨r2, rfl, e, hI2⟩ := atI_e hv2
      refine atI_i ?_
      rw [if_pos e]
      exact ih mc ms (x3 + 5) h2 hI2 (by omega) (by omega) (by omega)
    rw [if_neg c1]
    by_cases c2 : bAnd (xs.getD x3.toNat 0) 31 = 2
    · rw [if_pos c2]
      refine ldI_i hg (by omega) (by omega) ?_
      refine rcv_i h10 ?_
      refine cz_mono ?_ (s_method _ (hgr _) h hI)
      rintro v h1 ⟨⟨hg1, -, ⟨fr, h11⟩⟩, hv⟩
      obtain ⟨r1, rfl, hv⟩ := atI_e hv
      refine atI_i ?_
      refine ldI_i hg1 (by omega) (by omega) ?_
      refine rcv_i h11 ?_
      refine cz_mono ?_ hv
      intro v h2 hv2
      obtain ⟨r2, rfl, e, hI2⟩ := atI_e hv2
      refine atI_i ?_
      rw [if_pos e]
      exact ih mc ms (x3 + 5) h2 hI2 (by omega) (by omega) (by omega)
    rw [if_neg c2]
    by_cases c3 : bAnd (xs.getD x3.toNat 0) 31 = 3
    · rw [if_pos c3]
      refine rcv_i h10 ?_
      refine cz_mono ?_ (s_rule  h hI)
      rintro v h1 ⟨⟨hg1, -, ⟨fr, h11⟩⟩, hv⟩
      obtain ⟨r1, rfl, hv⟩ := atI_e hv
      refine atI_i ?_
      refine rcv_i h11 ?_
      refine cz_mono ?_ hv
      intro v h2 hv2
      obtain ⟨r2, rfl, e, hI2⟩ := atI_e hv2
      refine atI_i ?_
      rw [if_pos e]
      exact ih mc ms (x3 + 5) h2 hI2 (by omega) (by omega) (by omega)
    rw [if_neg c3]
    by_cases c4 : bAnd (xs.getD x3.toNat 0) 31 = 4
    · rw [if_pos c4]
      refine ldI_i hg (by omega) (by omega) ?_
      refine ldI_i hg (by omega) (by omega) ?_
      refine ldI_i hg (by omega) (by omega) ?_
      refine ldI_i hg (by omega) (by omega) ?_
      refine rcv_i h10 ?_
      refine cz_mono ?_ (s_actor _ _ _ _ (hgr _) (hgr _) (hgr _) (hgr _) h hI)
      rintro v h1 ⟨⟨hg1, -, ⟨fr, h11⟩⟩, hv⟩
      obtain ⟨r1, rfl, hv⟩ := atI_e hv
      refine atI_i ?_
      refine ldI_i hg1 (by omega) (by omega) ?_
      refine ldI_i hg1 (by omega) (by omega) ?_
      refine ldI_i hg1 (by omega) (by omega) ?_
      refine ldI_i hg1 (by omega) (by omega) ?_
      refine rcv_i h11 ?_
      refine cz_mono ?_ hv
      intro v h2 hv2
      obtain ⟨r2, rfl, e, hI2⟩ := atI_e hv2
      refine atI_i ?_
      rw [if_pos e]
      exact ih mc ms (x3 + 5) h2 hI2 (by omega) (by omega) (by omega)
    rw [if_neg c4]
    by_cases c5 : bAnd (xs.getD x3.toNat 0) 31 = 5
    · rw [if_pos c5]
      refine ldI_i hg (by omega) (by omega) ?_
      refine ldI_i hg (by omega) (by omega) ?_
      refine ldI_i hg (by omega) (by omega) ?_
      refine ldI_i hg (by omega) (by omega) ?_
      refine rcv_i h10 ?_
      refine cz_mono ?_ (s_call _ _ _ _ (hgr _) (hgr _) (hgr _) (hgr _) h hI)
      rintro v h1 ⟨⟨hg1, -, ⟨fr, h11⟩⟩, hv⟩
      obtain ⟨r1, rfl, hv⟩ := atI_e hv
      refine atI_i ?_
      refine ldI_i hg1 (by omega) (by omega) ?_
      refine ldI_i hg1 (by omega) (by omega) ?_
      refine ldI_i hg1 (by omega) (by omega) ?_
      refine ldI_i hg1 (by omega) (by omega) ?_
      refine rcv_i h11 ?_
      refine cz_mono ?_ hv
      intro v h2 hv2
      obtain ⟨r2, rfl, e, hI2⟩ := atI_e hv2
      refine atI_i ?_
      rw [if_pos e]
      exact ih mc ms (x3 + 5) h2 hI2 (by omega) (by omega) (by omega)
    rw [if_neg c5]
    by_cases c6 : bAnd (xs.getD x3.toNat 0) 31 = 6
    · rw [if_pos c6]
      refine rcv_i h10 ?_
      refine cz_mono ?_ (s_start  h hI)
      rintro v h1 ⟨⟨hg1, -, ⟨fr, h11⟩⟩, hv⟩
      obtain ⟨r1, rfl, hv⟩ := atI_e hv
      refine atI_i ?_
      refine rcv_i h11 ?_
      refine cz_mono ?_ hv
      intro v h2 hv2
      obtain ⟨r2, rfl, e, hI2⟩ := atI_e hv2
      refine atI_i ?_
      rw [if_pos e]
      exact ih mc ms (x3 + 5) h2 hI2 (by omega) (by omega) (by omega)
    rw [if_neg c6]
    by_cases c7 : bAnd (xs.getD x3.toNat 0) 31 = 7
    · rw [if_pos c7]
      refine ldI_i hg (by omega) (by omega) ?_
      refine rcv_i h10 ?_
      refine cz_mono ?_ (s_state _ (hgr _) h hI)
      rintro v h1 ⟨⟨hg1, -, ⟨fr, h11⟩⟩, hv⟩
      obtain ⟨r1, rfl, hv⟩ := atI_e hv
      refine atI_i ?_
      refine ldI_i hg1 (by omega) (by omega) ?_
      refine rcv_i h11 ?_
      refine cz_mono ?_ hv
      intro v h2 hv2
      obtain ⟨r2, rfl, e, hI2⟩ := atI_e hv2
      refine atI_i ?_
      rw [if_pos e]
      exact ih mc ms (x3 + 5) h2 hI2 (by omega) (by omega) (by omega)
    rw [if_neg c7]
    by_cases c8 : bAnd (xs.getD x3.toNat 0) 31 = 8
    · rw [if_pos c8]
      refine ldI_i hg (by omega) (by omega) ?_
      refine rcv_i h10 ?_
      refine cz_mono ?_ (s_holds _ (hgr _) h hI)
      rintro v h1 ⟨⟨hg1, -, ⟨fr, h11⟩⟩, hv⟩
      obtain ⟨r1, rfl, hv⟩ := atI_e hv
      refine atI_i ?_
      refine ldI_i hg1 (by omega) (by omega) ?_
      refine rcv_i h11 ?_
      refine cz_mono ?_ hv
      intro v h2 hv2
      obtain ⟨r2, rfl, e, hI2⟩ := atI_e hv2
      refine atI_i ?_
      rw [if_pos e]
      exact ih mc ms (x3 + 5) h2 hI2 (by omega) (by omega) (by omega)
    rw [if_neg c8]
    by_cases c9 : bAnd (xs.getD x3.toNat 0) 31 = 9
    · rw [if_pos c9]
      refine ldI_i hg (by omega) (by omega) ?_
      refine ldI_i hg (by omega) (by omega) ?_
      refine ldI_i hg (by omega) (by omega) ?_
      refine ldI_i hg (by omega) (by omega) ?_
      refine rcv_i h10 ?_
      refine cz_mono ?_ (s_choice _ _ _ _ (hgr _) (hgr _) (hgr _) (hgr _) h hI)
      rintro v h1 ⟨⟨hg1, -, ⟨fr, h11⟩⟩, hv⟩
      obtain ⟨r1, rfl, hv⟩ := atI_e hv
      refine atI_i ?_
      refine ldI_i hg1 (by omega) (by omega) ?_
      refine ldI_i hg1 (by omega) (by omega) ?_
      refine ldI_i hg1 (by omega) (by omega) ?_
      refine ldI_i hg1 (by omega) (by omega) ?_
      refine rcv_i h11 ?_
      refine cz_mono ?_ hv
      intro v h2 hv2
      obtain ⟨r2, rfl, e, hI2⟩ := atI_e hv2
      refine atI_i ?_
      rw [if_pos e]
      exact ih mc ms (x3 + 5) h2 hI2 (by omega) (by omega) (by omega)
    rw [if_neg c9]
    by_cases c10 : bAnd (xs.getD x3.toNat 0) 31 = 10
    · rw [if_pos c10]
      refine rcv_i h10 ?_
      refine cz_mono ?_ (s_fresh  h hI)
      rintro v h1 ⟨⟨hg1, -, ⟨fr, h11⟩⟩, hv⟩
      obtain ⟨r1, rfl, hv⟩ := atI_e hv
      refine atI_i ?_
      refine rcv_i h11 ?_
      refine cz_mono ?_ hv
      intro v h2 hv2
      obtain ⟨r2, rfl, e, hI2⟩ := atI_e hv2
      refine atI_i ?_
      rw [if_pos e]
      exact ih mc ms (x3 + 5) h2 hI2 (by omega) (by omega) (by omega)
    rw [if_neg c10]
    by_cases c11 : bAnd (xs.getD x3.toNat 0) 31 = 11
    · rw [if_pos c11]
      refine ldI_i hg (by omega) (by omega) ?_
      refine ldI_i hg (by omega) (by omega) ?_
      refine rcv_i h10 ?_
      refine cz_mono ?_ (s_every _ _ (hgr _) (hgr _) h hI)
      rintro v h1 ⟨⟨hg1, -, ⟨fr, h11⟩⟩, hv⟩
      obtain ⟨r1, rfl, hv⟩ := atI_e hv
      refine atI_i ?_
      refine ldI_i hg1 (by omega) (by omega) ?_
      refine ldI_i hg1 (by omega) (by omega) ?_
      refine rcv_i h11 ?_
      refine cz_mono ?_ hv
      intro v h2 hv2
      obtain ⟨r2, rfl, e, hI2⟩ := atI_e hv2
      refine atI_i ?_
      rw [if_pos e]
      exact ih mc ms (x3 + 5) h2 hI2 (by omega) (by omega) (by omega)
    rw [if_neg c11]
    by_cases c12 : bAnd (xs.getD x3.toNat 0) 31 = 12
    · rw [if_pos c12]
      refine rcv_i h10 ?_
      refine cz_mono ?_ (s_states  h hI)
      rintro v h1 ⟨⟨hg1, -, ⟨fr, h11⟩⟩, hv⟩
      obtain ⟨r1, rfl, hv⟩ := atI_e hv
      refine atI_i ?_
      refine rcv_i h11 ?_
      refine cz_mono ?_ hv
      intro v h2 hv2
      obtain ⟨r2, rfl, e, hI2⟩ := atI_e hv2
      refine atI_i ?_
      rw [if_pos e]
      exact ih mc ms (x3 + 5) h2 hI2 (by omega) (by omega) (by omega)
    rw [if_neg c12]
    by_cases c13 : bAnd (xs.getD x3.toNat 0) 31 = 13
    · rw [if_pos c13]
      refine ldI_i hg (by omega) (by omega) ?_
      refine ldI_i hg (by omega) (by omega) ?_
      refine ldI_i hg (by omega) (by omega) ?_
      refine rcv_i h10 ?_
      refine cz_mono ?_ (s_draw _ _ _ (hgr _) (hgr _) (hgr _) h hI)
      rintro v h1 ⟨⟨hg1, -, ⟨fr, h11⟩⟩, hv⟩
      obtain ⟨r1, rfl, hv⟩ := atI_e hv
      refine atI_i ?_
      refine ldI_i hg1 (by omega) (by omega) ?_
      refine ldI_i hg1 (by omega) (by omega) ?_
      refine ldI_i hg1 (by omega) (by omega) ?_
      refine rcv_i h11 ?_
      refine cz_mono ?_ hv
      intro v h2 hv2
      obtain ⟨r2, rfl, e, hI2⟩ := atI_e hv2
      refine atI_i ?_
      rw [if_pos e]
      exact ih mc ms (x3 + 5) h2 hI2 (by omega) (by omega) (by omega)
    rw [if_neg c13]
    by_cases c14 : bAnd (xs.getD x3.toNat 0) 31 = 14
    · rw [if_pos c14]
      refine ldI_i hg (by omega) (by omega) ?_
      refine ldI_i hg (by omega) (by omega) ?_
      refine ldI_i hg (by omega) (by omega) ?_
      refine rcv_i h10 ?_
      refine cz_mono ?_ (s_row _ _ _ (hgr _) (hgr _) (hgr _) h hI)
      rintro v h1 ⟨⟨hg1, -, ⟨fr, h11⟩⟩, hv⟩
      obtain ⟨r1, rfl, hv⟩ := atI_e hv
      refine atI_i ?_
      refine ldI_i hg1 (by omega) (by omega) ?_
      refine ldI_i hg1 (by omega) (by omega) ?_
      refine ldI_i hg1 (by omega) (by omega) ?_
      refine rcv_i h11 ?_
      refine cz_mono ?_ hv
      intro v h2 hv2
      obtain ⟨r2, rfl, e, hI2⟩ := atI_e hv2
      refine atI_i ?_
      rw [if_pos e]
      exact ih mc ms (x3 + 5) h2 hI2 (by omega) (by omega) (by omega)
    rw [if_neg c14]
    by_cases c15 : bAnd (xs.getD x3.toNat 0) 31 = 15
    · rw [if_pos c15]
      refine ldI_i hg (by omega) (by omega) ?_
      refine ldI_i hg (by omega) (by omega) ?_
      refine rcv_i h10 ?_
      refine cz_mono ?_ (s_least _ _ (hgr _) (hgr _) h hI)
      rintro v h1 ⟨⟨hg1, -, ⟨fr, h11⟩⟩, hv⟩
      obtain ⟨r1, rfl, hv⟩ := atI_e hv
      refine atI_i ?_
      refine ldI_i hg1 (by omega) (by omega) ?_
      refine ldI_i hg1 (by omega) (by omega) ?_
      refine rcv_i h11 ?_
      refine cz_mono ?_ hv
      intro v h2 hv2
      obtain ⟨r2, rfl, e, hI2⟩ := atI_e hv2
      refine atI_i ?_
      rw [if_pos e]
      exact ih mc ms (x3 + 5) h2 hI2 (by omega) (by omega) (by omega)
    rw [if_neg c15]
    by_cases c16 : bAnd (xs.getD x3.toNat 0) 31 = 16
    · rw [if_pos c16]
      refine ldI_i hg (by omega) (by omega) ?_
      refine ldI_i hg (by omega) (by omega) ?_
      refine rcv_i h10 ?_
      refine cz_mono ?_ (s_at _ _ (hgr _) (hgr _) h hI)
      rintro v h1 ⟨⟨hg1, -, ⟨fr, h11⟩⟩, hv⟩
      obtain ⟨r1, rfl, hv⟩ := atI_e hv
      refine atI_i ?_
      refine ldI_i hg1 (by omega) (by omega) ?_
      refine ldI_i hg1 (by omega) (by omega) ?_
      refine rcv_i h11 ?_
      refine cz_mono ?_ hv
      intro v h2 hv2
      obtain ⟨r2, rfl, e, hI2⟩ := atI_e hv2
      refine atI_i ?_
      rw [if_pos e]
      exact ih mc ms (x3 + 5) h2 hI2 (by omega) (by omega) (by omega)
    rw [if_neg c16]
    by_cases c17 : bAnd (xs.getD x3.toNat 0) 31 = 17
    · rw [if_pos c17]
      refine ldI_i hg (by omega) (by omega) ?_
      refine ldI_i hg (by omega) (by omega) ?_
      refine rcv_i h10 ?_
      refine cz_mono ?_ (s_breaks _ _ (hgr _) (hgr _) h hI)
      rintro v h1 ⟨⟨hg1, -, ⟨fr, h11⟩⟩, hv⟩
      obtain ⟨r1, rfl, hv⟩ := atI_e hv
      refine atI_i ?_
      refine ldI_i hg1 (by omega) (by omega) ?_
      refine ldI_i hg1 (by omega) (by omega) ?_
      refine rcv_i h11 ?_
      refine cz_mono ?_ hv
      intro v h2 hv2
      obtain ⟨r2, rfl, e, hI2⟩ := atI_e hv2
      refine atI_i ?_
      rw [if_pos e]
      exact ih mc ms (x3 + 5) h2 hI2 (by omega) (by omega) (by omega)
    rw [if_neg c17]
    by_cases c18 : bAnd (xs.getD x3.toNat 0) 31 = 18
    · rw [if_pos c18]
      refine ldI_i hg (by omega) (by omega) ?_
      refine ldI_i hg (by omega) (by omega) ?_
      refine rcv_i h10 ?_
      refine cz_mono ?_ (s_profit _ _ (hgr _) (hgr _) h hI)
      rintro v h1 ⟨⟨hg1, -, ⟨fr, h11⟩⟩, hv⟩
      obtain ⟨r1, rfl, hv⟩ := atI_e hv
      refine atI_i ?_
      refine ldI_i hg1 (by omega) (by omega) ?_
      refine ldI_i hg1 (by omega) (by omega) ?_
      refine rcv_i h11 ?_
      refine cz_mono ?_ hv
      intro v h2 hv2
      obtain ⟨r2, rfl, e, hI2⟩ := atI_e hv2
      refine atI_i ?_
      rw [if_pos e]
      exact ih mc ms (x3 + 5) h2 hI2 (by omega) (by omega) (by omega)
    rw [if_neg c18]
    by_cases c19 : bAnd (xs.getD x3.toNat 0) 31 = 19
    · rw [if_pos c19]
      refine ldI_i hg (by omega) (by omega) ?_
      refine ldI_i hg (by omega) (by omega) ?_
      refine rcv_i h10 ?_
      refine cz_mono ?_ (s_met _ _ (hgr _) (hgr _) h hI)
      rintro v h1 ⟨⟨hg1, -, ⟨fr, h11⟩⟩, hv⟩
      obtain ⟨r1, rfl, hv⟩ := atI_e hv
      refine atI_i ?_
      refine ldI_i hg1 (by omega) (by omega) ?_
      refine ldI_i hg1 (by omega) (by omega) ?_
      refine rcv_i h11 ?_
      refine cz_mono ?_ hv
      intro v h2 hv2
      obtain ⟨r2, rfl, e, hI2⟩ := atI_e hv2
      refine atI_i ?_
      rw [if_pos e]
      exact ih mc ms (x3 + 5) h2 hI2 (by omega) (by omega) (by omega)
    rw [if_neg c19]
    by_cases c20 : bAnd (xs.getD x3.toNat 0) 31 = 20
    · rw [if_pos c20]
      refine ldI_i hg (by omega) (by omega) ?_
      refine ldI_i hg (by omega) (by omega) ?_
      refine rcv_i h10 ?_
      refine cz_mono ?_ (s_kept _ _ (hgr _) (hgr _) h hI)
      rintro v h1 ⟨⟨hg1, -, ⟨fr, h11⟩⟩, hv⟩
      obtain ⟨r1, rfl, hv⟩ := atI_e hv
      refine atI_i ?_
      refine ldI_i hg1 (by omega) (by omega) ?_
      refine ldI_i hg1 (by omega) (by omega) ?_
      refine rcv_i h11 ?_
      refine cz_mono ?_ hv
      intro v h2 hv2
      obtain ⟨r2, rfl, e, hI2⟩ := atI_e hv2
      refine atI_i ?_
      rw [if_pos e]
      exact ih mc ms (x3 + 5) h2 hI2 (by omega) (by omega) (by omega)
    rw [if_neg c20]
    by_cases c21 : bAnd (xs.getD x3.toNat 0) 31 = 21
    · rw [if_pos c21]
      refine ldI_i hg (by omega) (by omega) ?_
      refine rcv_i h10 ?_
      refine cz_mono ?_ (s_told _ (hgr _) h hI)
      rintro v h1 ⟨⟨hg1, -, ⟨fr, h11⟩⟩, hv⟩
      obtain ⟨r1, rfl, hv⟩ := atI_e hv
      refine atI_i ?_
      refine ldI_i hg1 (by omega) (by omega) ?_
      refine rcv_i h11 ?_
      refine cz_mono ?_ hv
      intro v h2 hv2
      obtain ⟨r2, rfl, e, hI2⟩ := atI_e hv2
      refine atI_i ?_
      rw [if_pos e]
      exact ih mc ms (x3 + 5) h2 hI2 (by omega) (by omega) (by omega)
    rw [if_neg c21]
    exact ih mc ms (x3 + 5) h hI (by omega) (by omega) (by omega)
