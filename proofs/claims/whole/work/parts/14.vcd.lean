theorem vX10_call {G : az_G} {d : Nat} {x0 : Nat} {x1 : Int} {x2 : Int} {x3 : Int} {x4 : Int} {h : az_H} {Q : Option az_V → az_H → Prop} (hF : cz G mX10_isCall d 0 0 [vi x1, vi x2, vi x3, vi x4] h (fun v h1 => atI v (fun r2 => (if r2 = 0 then Q (some (vi ((-1)))) h1 else rdO h1 x0 10 3 (fun o3 => rdO h1 x0 10 9 (fun o4 => rcv h1 o3 4 (cz G mX4_load d 0 0 [vo o3, vo o4, vi 0] h1 (fun v h5 => atV v (rdO h5 x0 10 3 (fun o6 => nwO h5 (cO 0 [vi 0, vi 0, vi 0, vi 0]) (fun No7 Nh8 => cz G mX0_init d 0 0 [vo No7, vi x1, vi x2, vi x3, vi x4] Nh8 (fun v h9 => atV v (rcv h9 o6 4 (cz G mX4_attempt d 0 0 [vo o6, vo No7] h9 (fun v h10 => atI v (fun r11 => rdO h10 x0 10 3 (fun o12 => rdO h10 x0 10 9 (fun o13 => rcv h10 o12 4 (cz G mX4_save d 0 0 [vo o12, vo o13, vi 0] h10 (fun v h14 => atV v (rdI h14 x0 10 11 (fun f15 => wrF h14 x0 10 11 (.int) (vi (w32 (f15 + 1))) (fun h16 => (if r11 = 0 then Q (some (vi 0)) h16 else Q (some (vi 1)) h16)))))))))))))))))))))))) : cz G mX10_call (d + 1) 1 4 [vo x0, vi x1, vi x2, vi x3, vi x4] h Q := by
  refine cz_of (ls := [some (vo x0), some (vi x1), some (vi x2), some (vi x3), some (vi x4), none]) (by decide +kernel) (Nat.le_of_ble_eq_true rfl) rfl ?_
  refine rz_iload_n dX10_call_0 rfl (show _ = some (some (vi x1)) from rfl) ?_
  refine rz_iload_n dX10_call_1 rfl (show _ = some (some (vi x2)) from rfl) ?_
  refine rz_iload_n dX10_call_2 rfl (show _ = some (some (vi x3)) from rfl) ?_
  refine rz_iload dX10_call_3 (show _ = some (some (vi x4)) from rfl) ?_
  refine rz_callS (mc' := 0) (ms' := 0) (mc := 1) (ms := 4) (st := []) dX10_call_5 cS_X10_131 rfl rfl (Nat.le_of_ble_eq_true rfl) hF (fun v h1 hG => ?_)
  clear hF
  revert hG
  intro hF
  replace hF := atI_e hF
  obtain ⟨r2, rfl, hF⟩ := hF
  refine rz_if_ne (tgt := 13) dX10_call_8 (by decide) (fun c => ?_) (fun c => ?_)
  · replace hF := ite_f hF c
    refine rz_aload_n dX10_call_13 rfl (show _ = some (some (vo x0)) from rfl) ?_
    replace hF := rdO_e hF
    obtain ⟨fs, o3, hg, hv, hF⟩ := hF
    refine rz_getf dX10_call_14 fl_X10_37 hg hv ?_
    refine rz_aload_n dX10_call_17 rfl (show _ = some (some (vo x0)) from rfl) ?_
    replace hF := rdO_e hF
    obtain ⟨fs, o4, hg, hv, hF⟩ := hF
    refine rz_getf dX10_call_18 fl_X10_78 hg hv ?_
    refine rz_iconst dX10_call_21 rfl (by decide) ?_
    replace hF := rcv_e hF
    obtain ⟨fs, hg, hF⟩ := hF
    refine rz_callV (mc' := 0) (ms' := 0) (mc := 1) (ms := 4) (st := []) dX10_call_22 cV_X10_143 rfl hg ⟨_, _, rfl⟩ rfl (Nat.le_of_ble_eq_true rfl) hF (fun v h5 hG => ?_)
    clear hF
    revert hG
    intro hF
    replace hF := atV_e hF
    obtain ⟨rfl, hF⟩ := hF
    refine rz_aload_n dX10_call_25 rfl (show _ = some (some (vo x0)) from rfl) ?_
    replace hF := rdO_e hF
    obtain ⟨fs, o6, hg, hv, hF⟩ := hF
    refine rz_getf dX10_call_26 fl_X10_37 hg hv ?_
    refine ez_wide (mc := 0 + 1) (ms := 0 + 4) (Nat.le_of_ble_eq_true rfl) (Nat.le_of_ble_eq_true rfl) ?_
    refine rz_new (fs := [vi 0, vi 0, vi 0, vi 0]) dX10_call_29 nw_X10_135 ?_
    replace hF := nwO_e hF
    refine rz_dup dX10_call_32 (by rintro ⟨_, q⟩; cases q) ?_
    refine rz_iload_n dX10_call_33 rfl (show _ = some (some (vi x1)) from rfl) ?_
    refine rz_iload_n dX10_call_34 rfl (show _ = some (some (vi x2)) from rfl) ?_
    refine rz_iload_n dX10_call_35 rfl (show _ = some (some (vi x3)) from rfl) ?_
    refine rz_iload dX10_call_36 (show _ = some (some (vi x4)) from rfl) ?_
    refine rz_callI (mc' := 0) (ms' := 0) (mc := 0) (ms := 0) (st := [vo _, vo o6]) dX10_call_38 cI_X10_137 rfl rfl (Nat.le_of_ble_eq_true rfl) hF (fun v h9 hG => ?_)
    clear hF
    revert hG
    intro hF
    replace hF := atV_e hF
    obtain ⟨rfl, hF⟩ := hF
    replace hF := rcv_e hF
    obtain ⟨fs, hg, hF⟩ := hF
    refine rz_callV (mc' := 0) (ms' := 0) (mc := 0) (ms := 0) (st := []) dX10_call_41 cV_X10_147 rfl hg ⟨_, _, rfl⟩ rfl (Nat.le_of_ble_eq_true rfl) hF (fun v h10 hG => ?_)
    clear hF
    revert hG
    intro hF
    replace hF := atI_e hF
    obtain ⟨r11, rfl, hF⟩ := hF
    refine rz_istore (ls' := [some (vo x0), some (vi x1), some (vi x2), some (vi x3), some (vi x4), some (vi r11)]) dX10_call_44 (Nat.le_of_ble_eq_true rfl) rfl ?_
    refine rz_aload_n dX10_call_46 rfl (show _ = some (some (vo x0)) from rfl) ?_
    replace hF := rdO_e hF
    obtain ⟨fs, o12, hg, hv, hF⟩ := hF
    refine rz_getf dX10_call_47 fl_X10_37 hg hv ?_
    refine rz_aload_n dX10_call_50 rfl (show _ = some (some (vo x0)) from rfl) ?_
    replace hF := rdO_e hF
    obtain ⟨fs, o13, hg, hv, hF⟩ := hF
    refine rz_getf dX10_call_51 fl_X10_78 hg hv ?_
    refine rz_iconst dX10_call_54 rfl (by decide) ?_
    replace hF := rcv_e hF
    obtain ⟨fs, hg, hF⟩ := hF
    refine rz_callV (mc' := 0) (ms' := 0) (mc := 0) (ms := 0) (st := []) dX10_call_55 cV_X10_151 rfl hg ⟨_, _, rfl⟩ rfl (Nat.le_of_ble_eq_true rfl) hF (fun v h14 hG => ?_)
    clear hF
    revert hG
    intro hF
    replace hF := atV_e hF
    obtain ⟨rfl, hF⟩ := hF
    refine rz_aload_n dX10_call_58 rfl (show _ = some (some (vo x0)) from rfl) ?_
    refine rz_dup dX10_call_59 (by rintro ⟨_, q⟩; cases q) ?_
    replace hF := rdI_e hF
    obtain ⟨fs, f15, hg, hv, hF⟩ := hF
    refine rz_getf dX10_call_60 fl_X10_85 hg hv ?_
    refine rz_iconst dX10_call_63 rfl (by decide) ?_
    refine rz_iadd dX10_call_64 ?_
    replace hF := wrF_e hF
    obtain ⟨fs, hg, hv, hF⟩ := hF
    refine rz_putf dX10_call_65 fl_X10_85 (Or.inl rfl) hg hv ?_
    refine rz_iload dX10_call_68 (show _ = some (some (vi r11)) from rfl) ?_
    refine rz_if_eq (tgt := 77) dX10_call_70 (by decide) (fun c => ?_) (fun c => ?_)
    · replace hF := ite_t hF c
      refine rz_iconst dX10_call_77 rfl (by decide) ?_
      exact rz_iret dX10_call_78 trivial hF
    · replace hF := ite_f hF c
      refine rz_iconst dX10_call_73 rfl (by decide) ?_
      refine rz_goto (tgt := 78) dX10_call_74 (by decide) ?_
      exact rz_iret dX10_call_78 trivial hF
  · replace hF := ite_t hF c
    refine rz_iconst dX10_call_11 rfl (by decide) ?_
    exact rz_iret dX10_call_12 trivial hF
theorem vX10_start {G : az_G} {d : Nat} {x0 : Nat} {h : az_H} {Q : Option az_V → az_H → Prop} (hF : rdI h x0 10 11 (fun f1 => rcv h x0 10 (cz G mX10_showStart d 0 0 [vo x0] h (fun v h2 => atV v (Q (some (vi f1)) h2))))) : cz G mX10_start (d + 1) 0 0 [vo x0] h Q := by
  refine cz_of (ls := [some (vo x0), none]) (by decide +kernel) (Nat.le_of_ble_eq_true rfl) rfl ?_
  refine rz_aload_n dX10_start_0 rfl (show _ = some (some (vo x0)) from rfl) ?_
  replace hF := rdI_e hF
  obtain ⟨fs, f1, hg, hv, hF⟩ := hF
  refine rz_getf dX10_start_1 fl_X10_85 hg hv ?_
  refine rz_istore_n (ls' := [some (vo x0), some (vi f1)]) dX10_start_4 rfl (Nat.le_of_ble_eq_true rfl) rfl ?_
  refine rz_aload_n dX10_start_5 rfl (show _ = some (some (vo x0)) from rfl) ?_
  replace hF := rcv_e hF
  obtain ⟨fs, hg, hF⟩ := hF
  refine rz_callV (mc' := 0) (ms' := 0) (mc := 0) (ms := 0) (st := []) dX10_start_6 cV_X10_140 rfl hg ⟨_, _, rfl⟩ rfl (Nat.le_of_ble_eq_true rfl) hF (fun v h2 hG => ?_)
  clear hF
  revert hG
  intro hF
  replace hF := atV_e hF
  obtain ⟨rfl, hF⟩ := hF
  refine rz_iload_n dX10_start_9 rfl (show _ = some (some (vi f1)) from rfl) ?_
  exact rz_iret dX10_start_10 trivial hF
theorem vX10_state {G : az_G} {d : Nat} {x0 : Nat} {x1 : Int} {h : az_H} {Q : Option az_V → az_H → Prop} (hF : cz G mX10_isWithin d 0 0 [vi x1, vi 0, vi 18] h (fun v h1 => atI v (fun r2 => (if r2 = 0 then Q (some (vi ((-1)))) h1 else rdO h1 x0 10 9 (fun o3 => ldI h1 o3 (.int) x1 (fun e4 => Q (some (vi e4)) h1)))))) : cz G mX10_state (d + 1) 0 0 [vo x0, vi x1] h Q := by
  refine cz_of (ls := [some (vo x0), some (vi x1)]) (by decide +kernel) (Nat.le_of_ble_eq_true rfl) rfl ?_
  refine rz_iload_n dX10_state_0 rfl (show _ = some (some (vi x1)) from rfl) ?_
  refine rz_iconst dX10_state_1 rfl (by decide) ?_
  refine rz_bipush (v := 18) dX10_state_2 (by decide) (by decide) ?_
  refine rz_callS (mc' := 0) (ms' := 0) (mc := 0) (ms := 0) (st := []) dX10_state_4 cS_X10_105 rfl rfl (Nat.le_of_ble_eq_true rfl) hF (fun v h1 hG => ?_)
  clear hF
  revert hG
  intro hF
  replace hF := atI_e hF
  obtain ⟨r2, rfl, hF⟩ := hF
  refine rz_if_eq (tgt := 19) dX10_state_7 (by decide) (fun c => ?_) (fun c => ?_)
  · replace hF := ite_t hF c
    refine rz_iconst dX10_state_19 rfl (by decide) ?_
    exact rz_iret dX10_state_20 trivial hF
  · replace hF := ite_f hF c
    refine rz_aload_n dX10_state_10 rfl (show _ = some (some (vo x0)) from rfl) ?_
    replace hF := rdO_e hF
    obtain ⟨fs, o3, hg, hv, hF⟩ := hF
    refine rz_getf dX10_state_11 fl_X10_78 hg hv ?_
    refine rz_iload_n dX10_state_14 rfl (show _ = some (some (vi x1)) from rfl) ?_
    replace hF := ldI_e hF
    obtain ⟨xs, hg, h0, h1, hF⟩ := hF
    refine rz_iald dX10_state_15 hg h0 h1 ?_
    generalize xs.getD _ 0 = e4 at hF ⊢
    refine rz_goto (tgt := 20) dX10_state_16 (by decide) ?_
    exact rz_iret dX10_state_20 trivial hF
theorem vX10_isRule {G : az_G} {d : Nat} {x0 : Nat} {x1 : Int} {h : az_H} {Q : Option az_V → az_H → Prop} (hF : rdI h x0 10 10 (fun f1 => cz G mX10_isWithin d 0 0 [vi x1, vi 0, vi (w32 (f1 - 1))] h (fun v h2 => atI v (fun r3 => (az_fit (.boolean) (vi r3) ∧ Q (some (vi r3)) h2))))) : cz G mX10_isRule (d + 1) 0 0 [vo x0, vi x1] h Q := by
  refine cz_of (ls := [some (vo x0), some (vi x1)]) (by decide +kernel) (Nat.le_of_ble_eq_true rfl) rfl ?_
  refine rz_iload_n dX10_isRule_0 rfl (show _ = some (some (vi x1)) from rfl) ?_
  refine rz_iconst dX10_isRule_1 rfl (by decide) ?_
  refine rz_aload_n dX10_isRule_2 rfl (show _ = some (some (vo x0)) from rfl) ?_
  replace hF := rdI_e hF
  obtain ⟨fs, f1, hg, hv, hF⟩ := hF
  refine rz_getf dX10_isRule_3 fl_X10_81 hg hv ?_
  refine rz_iconst dX10_isRule_6 rfl (by decide) ?_
  refine rz_isub dX10_isRule_7 ?_
  refine rz_callS (mc' := 0) (ms' := 0) (mc := 0) (ms := 0) (st := []) dX10_isRule_8 cS_X10_105 rfl rfl (Nat.le_of_ble_eq_true rfl) hF (fun v h2 hG => ?_)
  clear hF
  revert hG
  intro hF
  replace hF := atI_e hF
  obtain ⟨r3, rfl, hF⟩ := hF
  exact rz_iret dX10_isRule_11 hF.1 hF.2
theorem vX10_holds {G : az_G} {d : Nat} {x0 : Nat} {x1 : Int} {h : az_H} {Q : Option az_V → az_H → Prop} (hF : rcv h x0 10 (cz G mX10_isRule d 0 0 [vo x0, vi x1] h (fun v h1 => atI v (fun r2 => (if r2 = 0 then Q (some (vi ((-1)))) h1 else rdO h1 x0 10 3 (fun o3 => rdO h1 x0 10 9 (fun o4 => rcv h1 o3 4 (cz G mX4_load d 0 0 [vo o3, vo o4, vi 0] h1 (fun v h5 => atV v (rdO h5 x0 10 3 (fun o6 => rdO h5 x0 10 7 (fun o7 => ldR h5 o7 (.object "InvariantSearch$Code") x1 (fun e8 => rcv h5 o6 4 (cz G mX4_keeps d 0 0 [vo o6, vr e8] h5 (fun v h9 => atI v (fun r10 => (if r10 = 0 then Q (some (vi 0)) h9 else Q (some (vi 1)) h9))))))))))))))))) : cz G mX10_holds (d + 1) 0 0 [vo x0, vi x1] h Q := by
  refine cz_of (ls := [some (vo x0), some (vi x1)]) (by decide +kernel) (Nat.le_of_ble_eq_true rfl) rfl ?_
  refine rz_aload_n dX10_holds_0 rfl (show _ = some (some (vo x0)) from rfl) ?_
  refine rz_iload_n dX10_holds_1 rfl (show _ = some (some (vi x1)) from rfl) ?_
  replace hF := rcv_e hF
  obtain ⟨fs, hg, hF⟩ := hF
  refine rz_callV (mc' := 0) (ms' := 0) (mc := 0) (ms := 0) (st := []) dX10_holds_2 cV_X10_154 rfl hg ⟨_, _, rfl⟩ rfl (Nat.le_of_ble_eq_true rfl) hF (fun v h1 hG => ?_)
  clear hF
  revert hG
  intro hF
  replace hF := atI_e hF
  obtain ⟨r2, rfl, hF⟩ := hF
  refine rz_if_ne (tgt := 10) dX10_holds_5 (by decide) (fun c => ?_) (fun c => ?_)
  · replace hF := ite_f hF c
    refine rz_aload_n dX10_holds_10 rfl (show _ = some (some (vo x0)) from rfl) ?_
    replace hF := rdO_e hF
    obtain ⟨fs, o3, hg, hv, hF⟩ := hF
    refine rz_getf dX10_holds_11 fl_X10_37 hg hv ?_
    refine rz_aload_n dX10_holds_14 rfl (show _ = some (some (vo x0)) from rfl) ?_
    replace hF := rdO_e hF
    obtain ⟨fs, o4, hg, hv, hF⟩ := hF
    refine rz_getf dX10_holds_15 fl_X10_78 hg hv ?_
    refine rz_iconst dX10_holds_18 rfl (by decide) ?_
    replace hF := rcv_e hF
    obtain ⟨fs, hg, hF⟩ := hF
    refine rz_callV (mc' := 0) (ms' := 0) (mc := 0) (ms := 0) (st := []) dX10_holds_19 cV_X10_143 rfl hg ⟨_, _, rfl⟩ rfl (Nat.le_of_ble_eq_true rfl) hF (fun v h5 hG => ?_)
    clear hF
    revert hG
    intro hF
    replace hF := atV_e hF
    obtain ⟨rfl, hF⟩ := hF
    refine rz_aload_n dX10_holds_22 rfl (show _ = some (some (vo x0)) from rfl) ?_
    replace hF := rdO_e hF
    obtain ⟨fs, o6, hg, hv, hF⟩ := hF
    refine rz_getf dX10_holds_23 fl_X10_37 hg hv ?_
    refine rz_aload_n dX10_holds_26 rfl (show _ = some (some (vo x0)) from rfl) ?_
    replace hF := rdO_e hF
    obtain ⟨fs, o7, hg, hv, hF⟩ := hF
    refine rz_getf dX10_holds_27 fl_X10_70 hg hv ?_
    refine rz_iload_n dX10_holds_30 rfl (show _ = some (some (vi x1)) from rfl) ?_
    replace hF := ldR_e hF
    obtain ⟨xs, hg, h0, h1, hF⟩ := hF
    refine rz_aald dX10_holds_31 hg (by decide) rfl h0 h1 ?_
    generalize xs.getD _ none = e8 at hF ⊢
    replace hF := rcv_e hF
    obtain ⟨fs, hg, hF⟩ := hF
    refine rz_callV (mc' := 0) (ms' := 0) (mc := 0) (ms := 0) (st := []) dX10_holds_32 cV_X10_157 rfl hg ⟨_, _, rfl⟩ rfl (Nat.le_of_ble_eq_true rfl) hF (fun v h9 hG => ?_)
    clear hF
    revert hG
    intro hF
    replace hF := atI_e hF
    obtain ⟨r10, rfl, hF⟩ := hF
    refine rz_if_eq (tgt := 42) dX10_holds_35 (by decide) (fun c => ?_) (fun c => ?_)
    · replace hF := ite_t hF c
      refine rz_iconst dX10_holds_42 rfl (by decide) ?_
      exact rz_iret dX10_holds_43 trivial hF
    · replace hF := ite_f hF c
      refine rz_iconst dX10_holds_38 rfl (by decide) ?_
      refine rz_goto (tgt := 43) dX10_holds_39 (by decide) ?_
      exact rz_iret dX10_holds_43 trivial hF
  · replace hF := ite_t hF c
    refine rz_iconst dX10_holds_8 rfl (by decide) ?_
    exact rz_iret dX10_holds_9 trivial hF
theorem vX10_choice {G : az_G} {d : Nat} {x0 : Nat} {x1 : Int} {x2 : Int} {x3 : Int} {x4 : Int} {h : az_H} {Q : Option az_V → az_H → Prop} (hF : cz G mX10_isCall d 0 0 [vi x1, vi x2, vi x3, vi x4] h (fun v h1 => atI v (fun r2 => (if r2 = 0 then Q (some (vi ((-1)))) h1 else rdO h1 x0 10 4 (fun o3 => rcv h1 o3 7 (cz G mX7_choiceCount d 0 0 [vo o3] h1 (fun v h4 => atI v (fun r5 => (if r5 < 30 then rdO h4 x0 10 4 (fun o6 => nwO h4 (cO 0 [vi 0, vi 0, vi 0, vi 0]) (fun No7 Nh8 => cz G mX0_init d 0 0 [vo No7, vi x1, vi x2, vi x3, vi x4] Nh8 (fun v h9 => atV v (rcv h9 o6 7 (cz G mX7_addChoice d 0 0 [vo o6, vo No7] h9 (fun v h10 => atV v (rdO h10 x0 10 4 (fun o11 => rcv h10 o11 7 (cz G mX7_choiceCount d 0 0 [vo o11] h10 (fun v h12 => atI v (fun r13 => Q (some (vi (w32 (r13 - 1)))) h12))))))))))) else Q (some (vi ((-3)))) h4))))))))) : cz G mX10_choice (d + 1) 1 4 [vo x0, vi x1, vi x2, vi x3, vi x4] h Q := by
  refine cz_of (ls := [some (vo x0), some (vi x1), some (vi x2), some (vi x3), some (vi x4)]) (by decide +kernel) (Nat.le_of_ble_eq_true rfl) rfl ?_
  refine rz_iload_n dX10_choice_0 rfl (show _ = some (some (vi x1)) from rfl) ?_
  refine rz_iload_n dX10_choice_1 rfl (show _ = some (some (vi x2)) from rfl) ?_
  refine rz_iload_n dX10_choice_2 rfl (show _ = some (some (vi x3)) from rfl) ?_
  refine rz_iload dX10_choice_3 (show _ = some (some (vi x4)) from rfl) ?_
  refine rz_callS (mc' := 0) (ms' := 0) (mc := 1) (ms := 4) (st := []) dX10_choice_5 cS_X10_131 rfl rfl (Nat.le_of_ble_eq_true rfl) hF (fun v h1 hG => ?_)
  clear hF
  revert hG
  intro hF
  replace hF := atI_e hF
  obtain ⟨r2, rfl, hF⟩ := hF
  refine rz_if_ne (tgt := 13) dX10_choice_8 (by decide) (fun c => ?_) (fun c => ?_)
  · replace hF := ite_f hF c
    refine rz_aload_n dX10_choice_13 rfl (show _ = some (some (vo x0)) from rfl) ?_
    replace hF := rdO_e hF
    obtain ⟨fs, o3, hg, hv, hF⟩ := hF
    refine rz_getf dX10_choice_14 fl_X10_46 hg hv ?_
    replace hF := rcv_e hF
    obtain ⟨fs, hg, hF⟩ := hF
    refine rz_callV (mc' := 0) (ms' := 0) (mc := 1) (ms := 4) (st := []) dX10_choice_17 cV_X10_161 rfl hg ⟨_, _, rfl⟩ rfl (Nat.le_of_ble_eq_true rfl) hF (fun v h4 hG => ?_)
    clear hF
    revert hG
    intro hF
    replace hF := atI_e hF
    obtain ⟨r5, rfl, hF⟩ := hF
    refine rz_bipush (v := 30) dX10_choice_20 (by decide) (by decide) ?_
    refine rz_icmp_lt (tgt := 28) dX10_choice_22 (by decide) (fun c => ?_) (fun c => ?_)
    · replace hF := ite_t hF c
      refine rz_aload_n dX10_choice_28 rfl (show _ = some (some (vo x0)) from rfl) ?_
      replace hF := rdO_e hF
      obtain ⟨fs, o6, hg, hv, hF⟩ := hF
      refine rz_getf dX10_choice_29 fl_X10_46 hg hv ?_
      refine ez_wide (mc := 0 + 1) (ms := 0 + 4) (Nat.le_of_ble_eq_true rfl) (Nat.le_of_ble_eq_true rfl) ?_
      refine rz_new (fs := [vi 0, vi 0, vi 0, vi 0]) dX10_choice_32 nw_X10_135 ?_
      replace hF := nwO_e hF
      refine rz_dup dX10_choice_35 (by rintro ⟨_, q⟩; cases q) ?_
      refine rz_iload_n dX10_choice_36 rfl (show _ = some (some (vi x1)) from rfl) ?_
      refine rz_iload_n dX10_choice_37 rfl (show _ = some (some (vi x2)) from rfl) ?_
      refine rz_iload_n dX10_choice_38 rfl (show _ = some (some (vi x3)) from rfl) ?_
      refine rz_iload dX10_choice_39 (show _ = some (some (vi x4)) from rfl) ?_
      refine rz_callI (mc' := 0) (ms' := 0) (mc := 0) (ms := 0) (st := [vo _, vo o6]) dX10_choice_41 cI_X10_137 rfl rfl (Nat.le_of_ble_eq_true rfl) hF (fun v h9 hG => ?_)
      clear hF
      revert hG
      intro hF
      replace hF := atV_e hF
      obtain ⟨rfl, hF⟩ := hF
      replace hF := rcv_e hF
      obtain ⟨fs, hg, hF⟩ := hF
      refine rz_callV (mc' := 0) (ms' := 0) (mc := 0) (ms := 0) (st := []) dX10_choice_44 cV_X10_164 rfl hg ⟨_, _, rfl⟩ rfl (Nat.le_of_ble_eq_true rfl) hF (fun v h10 hG => ?_)
      clear hF
      revert hG
      intro hF
      replace hF := atV_e hF
      obtain ⟨rfl, hF⟩ := hF
      refine rz_aload_n dX10_choice_47 rfl (show _ = some (some (vo x0)) from rfl) ?_
      replace hF := rdO_e hF
      obtain ⟨fs, o11, hg, hv, hF⟩ := hF
      refine rz_getf dX10_choice_48 fl_X10_46 hg hv ?_
      replace hF := rcv_e hF
      obtain ⟨fs, hg, hF⟩ := hF
      refine rz_callV (mc' := 0) (ms' := 0) (mc := 0) (ms := 0) (st := []) dX10_choice_51 cV_X10_161 rfl hg ⟨_, _, rfl⟩ rfl (Nat.le_of_ble_eq_true rfl) hF (fun v h12 hG => ?_)
      clear hF
      revert hG
      intro hF
      replace hF := atI_e hF
      obtain ⟨r13, rfl, hF⟩ := hF
      refine rz_iconst dX10_choice_54 rfl (by decide) ?_
      refine rz_isub dX10_choice_55 ?_
      exact rz_iret dX10_choice_56 trivial hF
    · replace hF := ite_f hF c
      refine rz_bipush (v := (-3)) dX10_choice_25 (by decide) (by decide) ?_
      exact rz_iret dX10_choice_27 trivial hF
  · replace hF := ite_t hF c
    refine rz_iconst dX10_choice_11 rfl (by decide) ?_
    exact rz_iret dX10_choice_12 trivial hF
theorem vX10_fresh {G : az_G} {d : Nat} {x0 : Nat} {h : az_H} {Q : Option az_V → az_H → Prop} (hF : rdO h x0 10 4 (fun o1 => rcv h o1 7 (cz G mX7_choiceCount d 0 0 [vo o1] h (fun v h2 => atI v (fun r3 => rdO h2 x0 10 4 (fun o4 => rcv h2 o4 7 (cz G mX7_dropChoices d 0 0 [vo o4] h2 (fun v h5 => atV v (rdO h5 x0 10 6 (fun o6 => rcv h5 o6 6 (cz G mX6_clear d 0 0 [vo o6] h5 (fun v h7 => atV v (rdO h7 x0 10 5 (fun o8 => rcv h7 o8 2 (cz G mX2_forget d 0 0 [vo o8] h7 (fun v h9 => atV v (Q (some (vi r3)) h9))))))))))))))))) : cz G mX10_fresh (d + 1) 0 0 [vo x0] h Q := by
  refine cz_of (ls := [some (vo x0), none]) (by decide +kernel) (Nat.le_of_ble_eq_true rfl) rfl ?_
  refine rz_aload_n dX10_fresh_0 rfl (show _ = some (some (vo x0)) from rfl) ?_
  replace hF := rdO_e hF
  obtain ⟨fs, o1, hg, hv, hF⟩ := hF
  refine rz_getf dX10_fresh_1 fl_X10_46 hg hv ?_
  replace hF := rcv_e hF
  obtain ⟨fs, hg, hF⟩ := hF
  refine rz_callV (mc' := 0) (ms' := 0) (mc := 0) (ms := 0) (st := []) dX10_fresh_4 cV_X10_161 rfl hg ⟨_, _, rfl⟩ rfl (Nat.le_of_ble_eq_true rfl) hF (fun v h2 hG => ?_)
  clear hF
  revert hG
  intro hF
  replace hF := atI_e hF
  obtain ⟨r3, rfl, hF⟩ := hF
  refine rz_istore_n (ls' := [some (vo x0), some (vi r3)]) dX10_fresh_7 rfl (Nat.le_of_ble_eq_true rfl) rfl ?_
  refine rz_aload_n dX10_fresh_8 rfl (show _ = some (some (vo x0)) from rfl) ?_
  replace hF := rdO_e hF
  obtain ⟨fs, o4, hg, hv, hF⟩ := hF
  refine rz_getf dX10_fresh_9 fl_X10_46 hg hv ?_
  replace hF := rcv_e hF
  obtain ⟨fs, hg, hF⟩ := hF
  refine rz_callV (mc' := 0) (ms' := 0) (mc := 0) (ms := 0) (st := []) dX10_fresh_12 cV_X10_168 rfl hg ⟨_, _, rfl⟩ rfl (Nat.le_of_ble_eq_true rfl) hF (fun v h5 hG => ?_)
  clear hF
  revert hG
  intro hF
  replace hF := atV_e hF
  obtain ⟨rfl, hF⟩ := hF
  refine rz_aload_n dX10_fresh_15 rfl (show _ = some (some (vo x0)) from rfl) ?_
  replace hF := rdO_e hF
  obtain ⟨fs, o6, hg, hv, hF⟩ := hF
  refine rz_getf dX10_fresh_16 fl_X10_64 hg hv ?_
  replace hF := rcv_e hF
  obtain ⟨fs, hg, hF⟩ := hF
  refine rz_callV (mc' := 0) (ms' := 0) (mc := 0) (ms := 0) (st := []) dX10_fresh_19 cV_X10_171 rfl hg ⟨_, _, rfl⟩ rfl (Nat.le_of_ble_eq_true rfl) hF (fun v h7 hG => ?_)
  clear hF
  revert hG
  intro hF
  replace hF := atV_e hF
  obtain ⟨rfl, hF⟩ := hF
  refine rz_aload_n dX10_fresh_22 rfl (show _ = some (some (vo x0)) from rfl) ?_
  replace hF := rdO_e hF
  obtain ⟨fs, o8, hg, hv, hF⟩ := hF
  refine rz_getf dX10_fresh_23 fl_X10_55 hg hv ?_
  replace hF := rcv_e hF
  obtain ⟨fs, hg, hF⟩ := hF
  refine rz_callV (mc' := 0) (ms' := 0) (mc := 0) (ms := 0) (st := []) dX10_fresh_26 cV_X10_174 rfl hg ⟨_, _, rfl⟩ rfl (Nat.le_of_ble_eq_true rfl) hF (fun v h9 hG => ?_)
  clear hF
  revert hG
  intro hF
  replace hF := atV_e hF
  obtain ⟨rfl, hF⟩ := hF
  refine rz_iload_n dX10_fresh_29 rfl (show _ = some (some (vi r3)) from rfl) ?_
  exact rz_iret dX10_fresh_30 trivial hF
theorem vX10_every {G : az_G} {d : Nat} {x0 : Nat} {x1 : Int} {x2 : Int} {h : az_H} {Q : Option az_V → az_H → Prop} (hF : rcv h x0 10 (cz G mX10_isRule d 0 0 [vo x0, vi x1] h (fun v h1 => atI v (fun r2 => (if r2 = 0 then Q (some (vi ((-1)))) h1 else cz G mX10_isWithin d 0 0 [vi x2, vi 1, vi 12] h1 (fun v h3 => atI v (fun r4 => (if r4 = 0 then Q (some (vi ((-1)))) h3 else rdO h3 x0 10 6 (fun o5 => rcv h3 o5 6 (cz G mX6_isFull d 0 0 [vo o5] h3 (fun v h6 => atI v (fun r7 => (if r7 = 0 then rdO h6 x0 10 4 (fun o8 => rdO h6 x0 10 7 (fun o9 => ldR h6 o9 (.object "InvariantSearch$Code") x1 (fun e10 => rdO h6 x0 10 8 (fun o11 => rcv h6 o8 7 (cz G mX7_seek d 0 0 [vo o8, vr e10, vi x2, vo o11] h6 (fun v h12 => atI v (fun r13 => (if r13 = (-2) then Q (some (vi ((-2)))) h12 else (if r13 = 0 then Q (some (vi 1)) h12 else rdO h12 x0 10 6 (fun o14 => rdO h12 x0 10 8 (fun o15 => rcv h12 o14 6 (cz G mX6_add d 0 0 [vo o14, vo o15, vi r13] h12 (fun v h16 => atI v (fun r17 => Q (some (vi (w32 (((-10)) - r17)))) h16)))))))))))))) else Q (some (vi ((-3)))) h6))))))))))))) : cz G mX10_every (d + 1) 0 0 [vo x0, vi x1, vi x2] h Q := by
  refine cz_of (ls := [some (vo x0), some (vi x1), some (vi x2), none]) (by decide +kernel) (Nat.le_of_ble_eq_true rfl) rfl ?_
  refine rz_aload_n dX10_every_0 rfl (show _ = some (some (vo x0)) from rfl) ?_
  refine rz_iload_n dX10_every_1 rfl (show _ = some (some (vi x1)) from rfl) ?_
  replace hF := rcv_e hF
  obtain ⟨fs, hg, hF⟩ := hF
  refine rz_callV (mc' := 0) (ms' := 0) (mc := 0) (ms := 0) (st := []) dX10_every_2 cV_X10_154 rfl hg ⟨_, _, rfl⟩ rfl (Nat.le_of_ble_eq_true rfl) hF (fun v h1 hG => ?_)
  clear hF
  revert hG
  intro hF
  replace hF := atI_e hF
  obtain ⟨r2, rfl, hF⟩ := hF
  refine rz_if_eq (tgt := 18) dX10_every_5 (by decide) (fun c => ?_) (fun c => ?_)
  · replace hF := ite_t hF c
    refine rz_iconst dX10_every_18 rfl (by decide) ?_
    exact rz_iret dX10_every_19 trivial hF
  · replace hF := ite_f hF c
    refine rz_iload_n dX10_every_8 rfl (show _ = some (some (vi x2)) from rfl) ?_
    refine rz_iconst dX10_every_9 rfl (by decide) ?_
    refine rz_bipush (v := 12) dX10_every_10 (by decide) (by decide) ?_
    refine rz_callS (mc' := 0) (ms' := 0) (mc := 0) (ms := 0) (st := []) dX10_every_12 cS_X10_105 rfl rfl (Nat.le_of_ble_eq_true rfl) hF (fun v h3 hG => ?_)
    clear hF
    revert hG
    intro hF
    replace hF := atI_e hF
    obtain ⟨r4, rfl, hF⟩ := hF
    refine rz_if_ne (tgt := 20) dX10_every_15 (by decide) (fun c => ?_) (fun c => ?_)
    · replace hF := ite_f hF c
      refine rz_aload_n dX10_every_20 rfl (show _ = some (some (vo x0)) from rfl) ?_
      replace hF := rdO_e hF
      obtain ⟨fs, o5, hg, hv, hF⟩ := hF
      refine rz_getf dX10_every_21 fl_X10_64 hg hv ?_
      replace hF := rcv_e hF
      obtain ⟨fs, hg, hF⟩ := hF
      refine rz_callV (mc' := 0) (ms' := 0) (mc := 0) (ms := 0) (st := []) dX10_every_24 cV_X10_177 rfl hg ⟨_, _, rfl⟩ rfl (Nat.le_of_ble_eq_true rfl) hF (fun v h6 hG => ?_)
      clear hF
      revert hG
      intro hF
      replace hF := atI_e hF
      obtain ⟨r7, rfl, hF⟩ := hF
      refine rz_if_eq (tgt := 33) dX10_every_27 (by decide) (fun c => ?_) (fun c => ?_)
      · replace hF := ite_t hF c
        refine rz_aload_n dX10_every_33 rfl (show _ = some (some (vo x0)) from rfl) ?_
        replace hF := rdO_e hF
        obtain ⟨fs, o8, hg, hv, hF⟩ := hF
        refine rz_getf dX10_every_34 fl_X10_46 hg hv ?_
        refine rz_aload_n dX10_every_37 rfl (show _ = some (some (vo x0)) from rfl) ?_
        replace hF := rdO_e hF
        obtain ⟨fs, o9, hg, hv, hF⟩ := hF
        refine rz_getf dX10_every_38 fl_X10_70 hg hv ?_
        refine rz_iload_n dX10_every_41 rfl (show _ = some (some (vi x1)) from rfl) ?_
        replace hF := ldR_e hF
        obtain ⟨xs, hg, h0, h1, hF⟩ := hF
        refine rz_aald dX10_every_42 hg (by decide) rfl h0 h1 ?_
        generalize xs.getD _ none = e10 at hF ⊢
        refine rz_iload_n dX10_every_43 rfl (show _ = some (some (vi x2)) from rfl) ?_
        refine rz_aload_n dX10_every_44 rfl (show _ = some (some (vo x0)) from rfl) ?_
        replace hF := rdO_e hF
        obtain ⟨fs, o11, hg, hv, hF⟩ := hF
        refine rz_getf dX10_every_45 fl_X10_74 hg hv ?_
        replace hF := rcv_e hF
        obtain ⟨fs, hg, hF⟩ := hF
        refine rz_callV (mc' := 0) (ms' := 0) (mc := 0) (ms := 0) (st := []) dX10_every_48 cV_X10_181 rfl hg ⟨_, _, rfl⟩ rfl (Nat.le_of_ble_eq_true rfl) hF (fun v h12 hG => ?_)
        clear hF
        revert hG
        intro hF
        replace hF := atI_e hF
        obtain ⟨r13, rfl, hF⟩ := hF
        refine rz_istore_n (ls' := [some (vo x0), some (vi x1), some (vi x2), some (vi r13)]) dX10_every_51 rfl (Nat.le_of_ble_eq_true rfl) rfl ?_
        refine rz_iload_n dX10_every_52 rfl (show _ = some (some (vi r13)) from rfl) ?_
        refine rz_bipush (v := (-2)) dX10_every_53 (by decide) (by decide) ?_
        refine rz_icmp_ne (tgt := 61) dX10_every_55 (by decide) (fun c => ?_) (fun c => ?_)
        · replace hF := ite_f hF c
          refine rz_iload_n dX10_every_61 rfl (show _ = some (some (vi r13)) from rfl) ?_
          refine rz_if_ne (tgt := 69) dX10_every_62 (by decide) (fun c => ?_) (fun c => ?_)
          · replace hF := ite_f hF c
            refine rz_bipush (v := (-10)) dX10_every_69 (by decide) (by decide) ?_
            refine rz_aload_n dX10_every_71 rfl (show _ = some (some (vo x0)) from rfl) ?_
            replace hF := rdO_e hF
            obtain ⟨fs, o14, hg, hv, hF⟩ := hF
            refine rz_getf dX10_every_72 fl_X10_64 hg hv ?_
            refine rz_aload_n dX10_every_75 rfl (show _ = some (some (vo x0)) from rfl) ?_
            replace hF := rdO_e hF
            obtain ⟨fs, o15, hg, hv, hF⟩ := hF
            refine rz_getf dX10_every_76 fl_X10_74 hg hv ?_
            refine rz_iload_n dX10_every_79 rfl (show _ = some (some (vi r13)) from rfl) ?_
            replace hF := rcv_e hF
            obtain ⟨fs, hg, hF⟩ := hF
            refine rz_callV (mc' := 0) (ms' := 0) (mc := 0) (ms := 0) (st := [vi ((-10))]) dX10_every_80 cV_X10_185 rfl hg ⟨_, _, rfl⟩ rfl (Nat.le_of_ble_eq_true rfl) hF (fun v h16 hG => ?_)
            clear hF
            revert hG
            intro hF
            replace hF := atI_e hF
            obtain ⟨r17, rfl, hF⟩ := hF
            refine rz_isub dX10_every_83 ?_
            exact rz_iret dX10_every_84 trivial hF
          · replace hF := ite_t hF c
            refine rz_iconst dX10_every_65 rfl (by decide) ?_
            refine rz_goto (tgt := 84) dX10_every_66 (by decide) ?_
            exact rz_iret dX10_every_84 trivial hF
        · replace hF := ite_t hF c
          refine rz_bipush (v := (-2)) dX10_every_58 (by decide) (by decide) ?_
          exact rz_iret dX10_every_60 trivial hF
      · replace hF := ite_f hF c
        refine rz_bipush (v := (-3)) dX10_every_30 (by decide) (by decide) ?_
        exact rz_iret dX10_every_32 trivial hF
    · replace hF := ite_t hF c
      refine rz_iconst dX10_every_18 rfl (by decide) ?_
      exact rz_iret dX10_every_19 trivial hF
theorem vX10_states {G : az_G} {d : Nat} {x0 : Nat} {h : az_H} {Q : Option az_V → az_H → Prop} (hF : rdO h x0 10 4 (fun o1 => rcv h o1 7 (cz G mX7_statesSeen d 0 0 [vo o1] h (fun v h2 => atI v (fun r3 => Q (some (vi r3)) h2))))) : cz G mX10_states (d + 1) 0 0 [vo x0] h Q := by
  refine cz_of (ls := [some (vo x0)]) (by decide +kernel) (Nat.le_of_ble_eq_true rfl) rfl ?_
  refine rz_aload_n dX10_states_0 rfl (show _ = some (some (vo x0)) from rfl) ?_
  replace hF := rdO_e hF
  obtain ⟨fs, o1, hg, hv, hF⟩ := hF
  refine rz_getf dX10_states_1 fl_X10_46 hg hv ?_
  replace hF := rcv_e hF
  obtain ⟨fs, hg, hF⟩ := hF
  refine rz_callV (mc' := 0) (ms' := 0) (mc := 0) (ms := 0) (st := []) dX10_states_4 cV_X10_189 rfl hg ⟨_, _, rfl⟩ rfl (Nat.le_of_ble_eq_true rfl) hF (fun v h2 hG => ?_)
  clear hF
  revert hG
  intro hF
  replace hF := atI_e hF
  obtain ⟨r3, rfl, hF⟩ := hF
  exact rz_iret dX10_states_7 trivial hF
theorem vX10_draw {G : az_G} {d : Nat} {x0 : Nat} {x1 : Int} {x2 : Int} {x3 : Int} {h : az_H} {Q : Option az_V → az_H → Prop} (hF : rcv h x0 10 (cz G mX10_isRule d 0 0 [vo x0, vi x1] h (fun v h1 => atI v (fun r2 => (if r2 = 0 then Q (some (vi ((-1)))) h1 else cz G mX10_isWithin d 0 0 [vi x3, vi 1, vi 200] h1 (fun v h3 => atI v (fun r4 => (if r4 = 0 then Q (some (vi ((-1)))) h3 else rdO h3 x0 10 4 (fun o5 => rcv h3 o5 7 (cz G mX7_choiceCount d 0 0 [vo o5] h3 (fun v h6 => atI v (fun r7 => (if r7 = 0 then Q (some (vi ((-1)))) h6 else rdO h6 x0 10 6 (fun o8 => rcv h6 o8 6 (cz G mX6_isFull d 0 0 [vo o8] h6 (fun v h9 => atI v (fun r10 => (if r10 = 0 then rdO h9 x0 10 5 (fun o11 => rdO h9 x0 10 7 (fun o12 => ldR h9 o12 (.object "InvariantSearch$Code") x1 (fun e13 => rdO h9 x0 10 8 (fun o14 => rcv h9 o11 2 (cz G mX2_drawUntilBroken d 0 0 [vo o11, vr e13, vi x2, vi x3, vo o14] h9 (fun v h15 => atI v (fun r16 => (if r16 = (-2) then Q (some (vi ((-2)))) h15 else rdO h15 x0 10 6 (fun o17 => rdO h15 x0 10 8 (fun o18 => rdO h15 x0 10 4 (fun o19 => rdO h15 x0 10 8 (fun o20 => rdO h15 x0 10 7 (fun o21 => ldR h15 o21 (.object "InvariantSearch$Code") x1 (fun e22 => rcv h15 o19 7 (cz G mX7_makeLeast d 0 0 [vo o19, vo o20, vi r16, vr e22] h15 (fun v h23 => atI v (fun r24 => rcv h23 o17 6 (cz G mX6_add d 0 0 [vo o17, vo o18, vi r24] h23 (fun v h25 => atI v (fun r26 => Q (some (vi r26)) h25)))))))))))))))))))) else Q (some (vi ((-3)))) h9)))))))))))))))))) : cz G mX10_draw (d + 1) 0 0 [vo x0, vi x1, vi x2, vi x3] h Q := by
  refine cz_of (ls := [some (vo x0), some (vi x1), some (vi x2), some (vi x3), none]) (by decide +kernel) (Nat.le_of_ble_eq_true rfl) rfl ?_
  refine rz_aload_n dX10_draw_0 rfl (show _ = some (some (vo x0)) from rfl) ?_
  refine rz_iload_n dX10_draw_1 rfl (show _ = some (some (vi x1)) from rfl) ?_
  replace hF := rcv_e hF
  obtain ⟨fs, hg, hF⟩ := hF
  refine rz_callV (mc' := 0) (ms' := 0) (mc := 0) (ms := 0) (st := []) dX10_draw_2 cV_X10_154 rfl hg ⟨_, _, rfl⟩ rfl (Nat.le_of_ble_eq_true rfl) hF (fun v h1 hG => ?_)
  clear hF
  revert hG
  intro hF
  replace hF := atI_e hF
  obtain ⟨r2, rfl, hF⟩ := hF
  refine rz_if_eq (tgt := 29) dX10_draw_5 (by decide) (fun c => ?_) (fun c => ?_)
  · replace hF := ite_t hF c
    refine rz_iconst dX10_draw_29 rfl (by decide) ?_
    exact rz_iret dX10_draw_30 trivial hF
  · replace hF := ite_f hF c
    refine rz_iload_n dX10_draw_8 rfl (show _ = some (some (vi x3)) from rfl) ?_
    refine rz_iconst dX10_draw_9 rfl (by decide) ?_
    refine rz_sipush (v := 200) dX10_draw_10 (by decide) (by decide) ?_
    refine rz_callS (mc' := 0) (ms' := 0) (mc := 0) (ms := 0) (st := []) dX10_draw_13 cS_X10_105 rfl rfl (Nat.le_of_ble_eq_true rfl) hF (fun v h3 hG => ?_)
    clear hF
    revert hG
    intro hF
    replace hF := atI_e hF
    obtain ⟨r4, rfl, hF⟩ := hF
    refine rz_if_eq (tgt := 29) dX10_draw_16 (by decide) (fun c => ?_) (fun c => ?_)
    · replace hF := ite_t hF c
      refine rz_iconst dX10_draw_29 rfl (by decide) ?_
      exact rz_iret dX10_draw_30 trivial hF
    · replace hF := ite_f hF c
      refine rz_aload_n dX10_draw_19 rfl (show _ = some (some (vo x0)) from rfl) ?_
      replace hF := rdO_e hF
      obtain ⟨fs, o5, hg, hv, hF⟩ := hF
      refine rz_getf dX10_draw_20 fl_X10_46 hg hv ?_
      replace hF := rcv_e hF
      obtain ⟨fs, hg, hF⟩ := hF
      refine rz_callV (mc' := 0) (ms' := 0) (mc := 0) (ms := 0) (st := []) dX10_draw_23 cV_X10_161 rfl hg ⟨_, _, rfl⟩ rfl (Nat.le_of_ble_eq_true rfl) hF (fun v h6 hG => ?_)
      clear hF
      revert hG
      intro hF
      replace hF := atI_e hF
      obtain ⟨r7, rfl, hF⟩ := hF
      refine rz_if_ne (tgt := 31) dX10_draw_26 (by decide) (fun c => ?_) (fun c => ?_)
      · replace hF := ite_f hF c
        refine rz_aload_n dX10_draw_31 rfl (show _ = some (some (vo x0)) from rfl) ?_
        replace hF := rdO_e hF
        obtain ⟨fs, o8, hg, hv, hF⟩ := hF
        refine rz_getf dX10_draw_32 fl_X10_64 hg hv ?_
        replace hF := rcv_e hF
        obtain ⟨fs, hg, hF⟩ := hF
        refine rz_callV (mc' := 0) (ms' := 0) (mc := 0) (ms := 0) (st := []) dX10_draw_35 cV_X10_177 rfl hg ⟨_, _, rfl⟩ rfl (Nat.le_of_ble_eq_true rfl) hF (fun v h9 hG => ?_)
        clear hF
        revert hG
        intro hF
        replace hF := atI_e hF
        obtain ⟨r10, rfl, hF⟩ := hF
        refine rz_if_eq (tgt := 44) dX10_draw_38 (by decide) (fun c => ?_) (fun c => ?_)
        · replace hF := ite_t hF c
          refine rz_aload_n dX10_draw_44 rfl (show _ = some (some (vo x0)) from rfl) ?_
          replace hF := rdO_e hF
          obtain ⟨fs, o11, hg, hv, hF⟩ := hF
          refine rz_getf dX10_draw_45 fl_X10_55 hg hv ?_
          refine rz_aload_n dX10_draw_48 rfl (show _ = some (some (vo x0)) from rfl) ?_
          replace hF := rdO_e hF
          obtain ⟨fs, o12, hg, hv, hF⟩ := hF
          refine rz_getf dX10_draw_49 fl_X10_70 hg hv ?_
          refine rz_iload_n dX10_draw_52 rfl (show _ = some (some (vi x1)) from rfl) ?_
          replace hF := ldR_e hF
          obtain ⟨xs, hg, h0, h1, hF⟩ := hF
          refine rz_aald dX10_draw_53 hg (by decide) rfl h0 h1 ?_
          generalize xs.getD _ none = e13 at hF ⊢
          refine rz_iload_n dX10_draw_54 rfl (show _ = some (some (vi x2)) from rfl) ?_
          refine rz_iload_n dX10_draw_55 rfl (show _ = some (some (vi x3)) from rfl) ?_
          refine rz_aload_n dX10_draw_56 rfl (show _ = some (some (vo x0)) from rfl) ?_
          replace hF := rdO_e hF
          obtain ⟨fs, o14, hg, hv, hF⟩ := hF
          refine rz_getf dX10_draw_57 fl_X10_74 hg hv ?_
          replace hF := rcv_e hF
          obtain ⟨fs, hg, hF⟩ := hF
          refine rz_callV (mc' := 0) (ms' := 0) (mc := 0) (ms := 0) (st := []) dX10_draw_60 cV_X10_192 rfl hg ⟨_, _, rfl⟩ rfl (Nat.le_of_ble_eq_true rfl) hF (fun v h15 hG => ?_)
          clear hF
          revert hG
          intro hF
          replace hF := atI_e hF
          obtain ⟨r16, rfl, hF⟩ := hF
          refine rz_istore (ls' := [some (vo x0), some (vi x1), some (vi x2), some (vi x3), some (vi r16)]) dX10_draw_63 (Nat.le_of_ble_eq_true rfl) rfl ?_
          refine rz_iload dX10_draw_65 (show _ = some (some (vi r16)) from rfl) ?_
          refine rz_bipush (v := (-2)) dX10_draw_67 (by decide) (by decide) ?_
          refine rz_icmp_ne (tgt := 75) dX10_draw_69 (by decide) (fun c => ?_) (fun c => ?_)
          · replace hF := ite_f hF c
            refine rz_aload_n dX10_draw_75 rfl (show _ = some (some (vo x0)) from rfl) ?_
            replace hF := rdO_e hF
            obtain ⟨fs, o17, hg, hv, hF⟩ := hF
            refine rz_getf dX10_draw_76 fl_X10_64 hg hv ?_
            refine rz_aload_n dX10_draw_79 rfl (show _ = some (some (vo x0)) from rfl) ?_
            replace hF := rdO_e hF
            obtain ⟨fs, o18, hg, hv, hF⟩ := hF
            refine rz_getf dX10_draw_80 fl_X10_74 hg hv ?_
            refine rz_aload_n dX10_draw_83 rfl (show _ = some (some (vo x0)) from rfl) ?_
            replace hF := rdO_e hF
            obtain ⟨fs, o19, hg, hv, hF⟩ := hF
            refine rz_getf dX10_draw_84 fl_X10_46 hg hv ?_
            refine rz_aload_n dX10_draw_87 rfl (show _ = some (some (vo x0)) from rfl) ?_
            replace hF := rdO_e hF
            obtain ⟨fs, o20, hg, hv, hF⟩ := hF
            refine rz_getf dX10_draw_88 fl_X10_74 hg hv ?_
            refine rz_iload dX10_draw_91 (show _ = some (some (vi r16)) from rfl) ?_
            refine rz_aload_n dX10_draw_93 rfl (show _ = some (some (vo x0)) from rfl) ?_
            replace hF := rdO_e hF
            obtain ⟨fs, o21, hg, hv, hF⟩ := hF
            refine rz_getf dX10_draw_94 fl_X10_70 hg hv ?_
            refine rz_iload_n dX10_draw_97 rfl (show _ = some (some (vi x1)) from rfl) ?_
            replace hF := ldR_e hF
            obtain ⟨xs, hg, h0, h1, hF⟩ := hF
            refine rz_aald dX10_draw_98 hg (by decide) rfl h0 h1 ?_
            generalize xs.getD _ none = e22 at hF ⊢
            replace hF := rcv_e hF
            obtain ⟨fs, hg, hF⟩ := hF
            refine rz_callV (mc' := 0) (ms' := 0) (mc := 0) (ms := 0) (st := [vo o18, vo o17]) dX10_draw_99 cV_X10_196 rfl hg ⟨_, _, rfl⟩ rfl (Nat.le_of_ble_eq_true rfl) hF (fun v h23 hG => ?_)
            clear hF
            revert hG
            intro hF
            replace hF := atI_e hF
            obtain ⟨r24, rfl, hF⟩ := hF
            replace hF := rcv_e hF
            obtain ⟨fs, hg, hF⟩ := hF
            refine rz_callV (mc' := 0) (ms' := 0) (mc := 0) (ms := 0) (st := []) dX10_draw_102 cV_X10_185 rfl hg ⟨_, _, rfl⟩ rfl (Nat.le_of_ble_eq_true rfl) hF (fun v h25 hG => ?_)
            clear hF
            revert hG
            intro hF
            replace hF := atI_e hF
            obtain ⟨r26, rfl, hF⟩ := hF
            exact rz_iret dX10_draw_105 trivial hF
          · replace hF := ite_t hF c
            refine rz_bipush (v := (-2)) dX10_draw_72 (by decide) (by decide) ?_
            exact rz_iret dX10_draw_74 trivial hF
        · replace hF := ite_f hF c
          refine rz_bipush (v := (-3)) dX10_draw_41 (by decide) (by decide) ?_
          exact rz_iret dX10_draw_43 trivial hF
      · replace hF := ite_t hF c
        refine rz_iconst dX10_draw_29 rfl (by decide) ?_
        exact rz_iret dX10_draw_30 trivial hF
def pX10_row_15 (G : az_G) (d : Nat) (x0 : Nat) (x1 : Int) (x3 : Int) (x4 : Int) (h : az_H) (Q : Option az_V → az_H → Prop) : Prop := ez G mX10_row (d + 1) 0 0 15 [some (vo x0), some (vl x1), none, some (vi x3), some (vi x4)] [] h Q
theorem vX10_row_15 {G : az_G} {d : Nat} {x0 : Nat} {x1 : Int} {x3 : Int} {x4 : Int} {h : az_H} {Q : Option az_V → az_H → Prop} (hF : (if x3 ≤ x4 then rdO h x0 10 6 (fun o1 => rcv h o1 6 (cz G mX6_isFull d 0 0 [vo o1] h (fun v h2 => atI v (fun r3 => (if r3 = 0 then rdO h2 x0 10 6 (fun o4 => rdO h2 x0 10 8 (fun o5 => rcv h2 o4 6 (cz G mX6_add d 0 0 [vo o4, vo o5, vi x3] h2 (fun v h6 => atI v (fun r7 => Q (some (vi r7)) h6))))) else Q (some (vi ((-3)))) h2))))) else rdO h x0 10 8 (fun o8 => stI h o8 .int x4 (bAnd (w32 (lUshr x1 (w32 (5 * x4)))) 31) (fun h9 => rdO h9 x0 10 8 (fun o10 => ldI h9 o10 (.int) x4 (fun e11 => rdO h9 x0 10 4 (fun o12 => rcv h9 o12 7 (cz G mX7_choiceCount d 0 0 [vo o12] h9 (fun v h13 => atI v (fun r14 => (if e11 < r14 then pX10_row_15 G d x0 x1 x3 (w32 (x4 + 1)) h13 Q else Q (some (vi ((-1)))) h13))))))))))) : pX10_row_15 G d x0 x1 x3 x4 h Q := by
  unfold pX10_row_15
  refine rz_iload dX10_row_15 (show _ = some (some (vi x4)) from rfl) ?_
  refine rz_iload_n dX10_row_17 rfl (show _ = some (some (vi x3)) from rfl) ?_
  refine rz_icmp_ge (tgt := 63) dX10_row_18 (by decide) (fun c => ?_) (fun c => ?_)
  · replace hF := ite_t hF c
    refine rz_aload_n dX10_row_63 rfl (show _ = some (some (vo x0)) from rfl) ?_
    replace hF := rdO_e hF
    obtain ⟨fs, o1, hg, hv, hF⟩ := hF
    refine rz_getf dX10_row_64 fl_X10_64 hg hv ?_
    replace hF := rcv_e hF
    obtain ⟨fs, hg, hF⟩ := hF
    refine rz_callV (mc' := 0) (ms' := 0) (mc := 0) (ms := 0) (st := []) dX10_row_67 cV_X10_177 rfl hg ⟨_, _, rfl⟩ rfl (Nat.le_of_ble_eq_true rfl) hF (fun v h2 hG => ?_)
    clear hF
    revert hG
    intro hF
    replace hF := atI_e hF
    obtain ⟨r3, rfl, hF⟩ := hF
    refine rz_if_eq (tgt := 78) dX10_row_70 (by decide) (fun c => ?_) (fun c => ?_)
    · replace hF := ite_t hF c
      refine rz_aload_n dX10_row_78 rfl (show _ = some (some (vo x0)) from rfl) ?_
      replace hF := rdO_e hF
      obtain ⟨fs, o4, hg, hv, hF⟩ := hF
      refine rz_getf dX10_row_79 fl_X10_64 hg hv ?_
      refine rz_aload_n dX10_row_82 rfl (show _ = some (some (vo x0)) from rfl) ?_
      replace hF := rdO_e hF
      obtain ⟨fs, o5, hg, hv, hF⟩ := hF
      refine rz_getf dX10_row_83 fl_X10_74 hg hv ?_
      refine rz_iload_n dX10_row_86 rfl (show _ = some (some (vi x3)) from rfl) ?_
      replace hF := rcv_e hF
      obtain ⟨fs, hg, hF⟩ := hF
      refine rz_callV (mc' := 0) (ms' := 0) (mc := 0) (ms := 0) (st := []) dX10_row_87 cV_X10_185 rfl hg ⟨_, _, rfl⟩ rfl (Nat.le_of_ble_eq_true rfl) hF (fun v h6 hG => ?_)
      clear hF
      revert hG
      intro hF
      replace hF := atI_e hF
      obtain ⟨r7, rfl, hF⟩ := hF
      exact rz_iret dX10_row_90 trivial hF
    · replace hF := ite_f hF c
      refine rz_bipush (v := (-3)) dX10_row_73 (by decide) (by decide) ?_
      refine rz_goto (tgt := 90) dX10_row_75 (by decide) ?_
      exact rz_iret dX10_row_90 trivial hF
  · replace hF := ite_f hF c
    refine rz_aload_n dX10_row_21 rfl (show _ = some (some (vo x0)) from rfl) ?_
    replace hF := rdO_e hF
    obtain ⟨fs, o8, hg, hv, hF⟩ := hF
    refine rz_getf dX10_row_22 fl_X10_74 hg hv ?_
    refine rz_iload dX10_row_25 (show _ = some (some (vi x4)) from rfl) ?_
    refine rz_lload_n dX10_row_27 rfl (show _ = some (some (vl x1)) from rfl) ?_
    refine rz_iconst dX10_row_28 rfl (by decide) ?_
    refine rz_iload dX10_row_29 (show _ = some (some (vi x4)) from rfl) ?_
    refine rz_imul dX10_row_31 ?_
    refine rz_lushr dX10_row_32 ?_
    refine rz_l2i dX10_row_33 ?_
    refine rz_bipush (v := 31) dX10_row_34 (by decide) (by decide) ?_
    refine rz_iand dX10_row_36 ?_
    replace hF := stI_e hF
    obtain ⟨xs, hg, h0, h1, hF⟩ := hF
    refine rz_iast dX10_row_37 hg h0 h1 ?_
    refine rz_aload_n dX10_row_38 rfl (show _ = some (some (vo x0)) from rfl) ?_
    replace hF := rdO_e hF
    obtain ⟨fs, o10, hg, hv, hF⟩ := hF
    refine rz_getf dX10_row_39 fl_X10_74 hg hv ?_
    refine rz_iload dX10_row_42 (show _ = some (some (vi x4)) from rfl) ?_
    replace hF := ldI_e hF
    obtain ⟨xs, hg, h0, h1, hF⟩ := hF
    refine rz_iald dX10_row_44 hg h0 h1 ?_
    generalize xs.getD _ 0 = e11 at hF ⊢
    refine rz_aload_n dX10_row_45 rfl (show _ = some (some (vo x0)) from rfl) ?_
    replace hF := rdO_e hF
    obtain ⟨fs, o12, hg, hv, hF⟩ := hF
    refine rz_getf dX10_row_46 fl_X10_46 hg hv ?_
    replace hF := rcv_e hF
    obtain ⟨fs, hg, hF⟩ := hF
    refine rz_callV (mc' := 0) (ms' := 0) (mc := 0) (ms := 0) (st := [vi e11]) dX10_row_49 cV_X10_161 rfl hg ⟨_, _, rfl⟩ rfl (Nat.le_of_ble_eq_true rfl) hF (fun v h13 hG => ?_)
    clear hF
    revert hG
    intro hF
    replace hF := atI_e hF
    obtain ⟨r14, rfl, hF⟩ := hF
    refine rz_icmp_lt (tgt := 57) dX10_row_52 (by decide) (fun c => ?_) (fun c => ?_)
    · replace hF := ite_t hF c
      refine rz_iinc (ls' := [some (vo x0), some (vl x1), none, some (vi x3), some (vi (w32 (x4 + 1)))]) dX10_row_57 rfl (Nat.le_of_ble_eq_true rfl) rfl ?_
      refine rz_goto (tgt := 15) dX10_row_60 (by decide) ?_
      exact hF
    · replace hF := ite_f hF c
      refine rz_iconst dX10_row_55 rfl (by decide) ?_
      exact rz_iret dX10_row_56 trivial hF
theorem vX10_row {G : az_G} {d : Nat} {x0 : Nat} {x1 : Int} {x3 : Int} {h : az_H} {Q : Option az_V → az_H → Prop} (hF : cz G mX10_isWithin d 0 0 [vi x3, vi 1, vi 12] h (fun v h1 => atI v (fun r2 => (if r2 = 0 then Q (some (vi ((-1)))) h1 else pX10_row_15 G d x0 x1 x3 0 h1 Q)))) : cz G mX10_row (d + 1) 0 0 [vo x0, vl x1, vi x3] h Q := by
  refine cz_of (ls := [some (vo x0), some (vl x1), none, some (vi x3), none]) (by decide +kernel) (Nat.le_of_ble_eq_true rfl) rfl ?_
  refine rz_iload_n dX10_row_0 rfl (show _ = some (some (vi x3)) from rfl) ?_
  refine rz_iconst dX10_row_1 rfl (by decide) ?_
  refine rz_bipush (v := 12) dX10_row_2 (by decide) (by decide) ?_
  refine rz_callS (mc' := 0) (ms' := 0) (mc := 0) (ms := 0) (st := []) dX10_row_4 cS_X10_105 rfl rfl (Nat.le_of_ble_eq_true rfl) hF (fun v h1 hG => ?_)
  clear hF
  revert hG
  intro hF
  replace hF := atI_e hF
  obtain ⟨r2, rfl, hF⟩ := hF
  refine rz_if_ne (tgt := 12) dX10_row_7 (by decide) (fun c => ?_) (fun c => ?_)
  · replace hF := ite_f hF c
    refine rz_iconst dX10_row_12 rfl (by decide) ?_
    refine rz_istore (ls' := [some (vo x0), some (vl x1), none, some (vi x3), some (vi 0)]) dX10_row_13 (Nat.le_of_ble_eq_true rfl) rfl ?_
    exact hF
  · replace hF := ite_t hF c
    refine rz_iconst dX10_row_10 rfl (by decide) ?_
    exact rz_iret dX10_row_11 trivial hF
theorem vX10_least {G : az_G} {d : Nat} {x0 : Nat} {x1 : Int} {x2 : Int} {h : az_H} {Q : Option az_V → az_H → Prop} (hF : rdO h x0 10 6 (fun o1 => rcv h o1 6 (cz G mX6_has d 0 0 [vo o1, vi x1] h (fun v h2 => atI v (fun r3 => (if r3 = 0 then Q (some (vi ((-1)))) h2 else rcv h2 x0 10 (cz G mX10_isRule d 0 0 [vo x0, vi x2] h2 (fun v h4 => atI v (fun r5 => (if r5 = 0 then Q (some (vi ((-1)))) h4 else rdO h4 x0 10 6 (fun o6 => rcv h4 o6 6 (cz G mX6_isFull d 0 0 [vo o6] h4 (fun v h7 => atI v (fun r8 => (if r8 = 0 then rdO h7 x0 10 6 (fun o9 => rdO h7 x0 10 8 (fun o10 => rcv h7 o9 6 (cz G mX6_copy d 0 0 [vo o9, vi x1, vo o10] h7 (fun v h11 => atI v (fun r12 => rdO h11 x0 10 4 (fun o13 => rdO h11 x0 10 8 (fun o14 => rdO h11 x0 10 7 (fun o15 => ldR h11 o15 (.object "InvariantSearch$Code") x2 (fun e16 => rcv h11 o13 7 (cz G mX7_breaksAt d 0 0 [vo o13, vo o14, vi r12, vr e16] h11 (fun v h17 => atI v (fun r18 => (if r18 = (-2) then Q (some (vi ((-2)))) h17 else rdO h17 x0 10 6 (fun o19 => rdO h17 x0 10 8 (fun o20 => rdO h17 x0 10 4 (fun o21 => rdO h17 x0 10 8 (fun o22 => rdO h17 x0 10 7 (fun o23 => ldR h17 o23 (.object "InvariantSearch$Code") x2 (fun e24 => rcv h17 o21 7 (cz G mX7_makeLeast d 0 0 [vo o21, vo o22, vi (w32 (r18 + 1)), vr e24] h17 (fun v h25 => atI v (fun r26 => rcv h25 o19 6 (cz G mX6_add d 0 0 [vo o19, vo o20, vi r26] h25 (fun v h27 => atI v (fun r28 => Q (some (vi r28)) h27))))))))))))))))))))))))) else Q (some (vi ((-3)))) h7))))))))))))))) : cz G mX10_least (d + 1) 0 0 [vo x0, vi x1, vi x2] h Q := by
  refine cz_of (ls := [some (vo x0), some (vi x1), some (vi x2), none, none]) (by decide +kernel) (Nat.le_of_ble_eq_true rfl) rfl ?_
  refine rz_aload_n dX10_least_0 rfl (show _ = some (some (vo x0)) from rfl) ?_
  replace hF := rdO_e hF
  obtain ⟨fs, o1, hg, hv, hF⟩ := hF
  refine rz_getf dX10_least_1 fl_X10_64 hg hv ?_
  refine rz_iload_n dX10_least_4 rfl (show _ = some (some (vi x1)) from rfl) ?_
  replace hF := rcv_e hF
  obtain ⟨fs, hg, hF⟩ := hF
  refine rz_callV (mc' := 0) (ms' := 0) (mc := 0) (ms := 0) (st := []) dX10_least_5 cV_X10_200 rfl hg ⟨_, _, rfl⟩ rfl (Nat.le_of_ble_eq_true rfl) hF (fun v h2 hG => ?_)
  clear hF
  revert hG
  intro hF
  replace hF := atI_e hF
  obtain ⟨r3, rfl, hF⟩ := hF
  refine rz_if_eq (tgt := 19) dX10_least_8 (by decide) (fun c => ?_) (fun c => ?_)
  · replace hF := ite_t hF c
    refine rz_iconst dX10_least_19 rfl (by decide) ?_
    exact rz_iret dX10_least_20 trivial hF
  · replace hF := ite_f hF c
    refine rz_aload_n dX10_least_11 rfl (show _ = some (some (vo x0)) from rfl) ?_
    refine rz_iload_n dX10_least_12 rfl (show _ = some (some (vi x2)) from rfl) ?_
    replace hF := rcv_e hF
    obtain ⟨fs, hg, hF⟩ := hF
    refine rz_callV (mc' := 0) (ms' := 0) (mc := 0) (ms := 0) (st := []) dX10_least_13 cV_X10_154 rfl hg ⟨_, _, rfl⟩ rfl (Nat.le_of_ble_eq_true rfl) hF (fun v h4 hG => ?_)
    clear hF
    revert hG
    intro hF
    replace hF := atI_e hF
    obtain ⟨r5, rfl, hF⟩ := hF
    refine rz_if_ne (tgt := 21) dX10_least_16 (by decide) (fun c => ?_) (fun c => ?_)
    · replace hF := ite_f hF c
      refine rz_aload_n dX10_least_21 rfl (show _ = some (some (vo x0)) from rfl) ?_
      replace hF := rdO_e hF
      obtain ⟨fs, o6, hg, hv, hF⟩ := hF
      refine rz_getf dX10_least_22 fl_X10_64 hg hv ?_
      replace hF := rcv_e hF
      obtain ⟨fs, hg, hF⟩ := hF
      refine rz_callV (mc' := 0) (ms' := 0) (mc := 0) (ms := 0) (st := []) dX10_least_25 cV_X10_177 rfl hg ⟨_, _, rfl⟩ rfl (Nat.le_of_ble_eq_true rfl) hF (fun v h7 hG => ?_)
      clear hF
      revert hG
      intro hF
      replace hF := atI_e hF
      obtain ⟨r8, rfl, hF⟩ := hF
      refine rz_if_eq (tgt := 34) dX10_least_28 (by decide) (fun c => ?_) (fun c => ?_)
      · replace hF := ite_t hF c
        refine rz_aload_n dX10_least_34 rfl (show _ = some (some (vo x0)) from rfl) ?_
        replace hF := rdO_e hF
        obtain ⟨fs, o9, hg, hv, hF⟩ := hF
        refine rz_getf dX10_least_35 fl_X10_64 hg hv ?_
        refine rz_iload_n dX10_least_38 rfl (show _ = some (some (vi x1)) from rfl) ?_
        refine rz_aload_n dX10_least_39 rfl (show _ = some (some (vo x0)) from rfl) ?_
        replace hF := rdO_e hF
        obtain ⟨fs, o10, hg, hv, hF⟩ := hF
        refine rz_getf dX10_least_40 fl_X10_74 hg hv ?_
        replace hF := rcv_e hF
        obtain ⟨fs, hg, hF⟩ := hF
        refine rz_callV (mc' := 0) (ms' := 0) (mc := 0) (ms := 0) (st := []) dX10_least_43 cV_X10_203 rfl hg ⟨_, _, rfl⟩ rfl (Nat.le_of_ble_eq_true rfl) hF (fun v h11 hG => ?_)
        clear hF
        revert hG
        intro hF
        replace hF := atI_e hF
        obtain ⟨r12, rfl, hF⟩ := hF
        refine rz_istore_n (ls' := [some (vo x0), some (vi x1), some (vi x2), some (vi r12), none]) dX10_least_46 rfl (Nat.le_of_ble_eq_true rfl) rfl ?_
        refine rz_aload_n dX10_least_47 rfl (show _ = some (some (vo x0)) from rfl) ?_
        replace hF := rdO_e hF
        obtain ⟨fs, o13, hg, hv, hF⟩ := hF
        refine rz_getf dX10_least_48 fl_X10_46 hg hv ?_
        refine rz_aload_n dX10_least_51 rfl (show _ = some (some (vo x0)) from rfl) ?_
        replace hF := rdO_e hF
        obtain ⟨fs, o14, hg, hv, hF⟩ := hF
        refine rz_getf dX10_least_52 fl_X10_74 hg hv ?_
        refine rz_iload_n dX10_least_55 rfl (show _ = some (some (vi r12)) from rfl) ?_
        refine rz_aload_n dX10_least_56 rfl (show _ = some (some (vo x0)) from rfl) ?_
        replace hF := rdO_e hF
        obtain ⟨fs, o15, hg, hv, hF⟩ := hF
        refine rz_getf dX10_least_57 fl_X10_70 hg hv ?_
        refine rz_iload_n dX10_least_60 rfl (show _ = some (some (vi x2)) from rfl) ?_
        replace hF := ldR_e hF
        obtain ⟨xs, hg, h0, h1, hF⟩ := hF
        refine rz_aald dX10_least_61 hg (by decide) rfl h0 h1 ?_
        generalize xs.getD _ none = e16 at hF ⊢
        replace hF := rcv_e hF
        obtain ⟨fs, hg, hF⟩ := hF
        refine rz_callV (mc' := 0) (ms' := 0) (mc := 0) (ms := 0) (st := []) dX10_least_62 cV_X10_207 rfl hg ⟨_, _, rfl⟩ rfl (Nat.le_of_ble_eq_true rfl) hF (fun v h17 hG => ?_)
        clear hF
        revert hG
        intro hF
        replace hF := atI_e hF
        obtain ⟨r18, rfl, hF⟩ := hF
        refine rz_istore (ls' := [some (vo x0), some (vi x1), some (vi x2), some (vi r12), some (vi r18)]) dX10_least_65 (Nat.le_of_ble_eq_true rfl) rfl ?_
        refine rz_iload dX10_least_67 (show _ = some (some (vi r18)) from rfl) ?_
        refine rz_bipush (v := (-2)) dX10_least_69 (by decide) (by decide) ?_
        refine rz_icmp_ne (tgt := 77) dX10_least_71 (by decide) (fun c => ?_) (fun c => ?_)
        · replace hF := ite_f hF c
          refine rz_aload_n dX10_least_77 rfl (show _ = some (some (vo x0)) from rfl) ?_
          replace hF := rdO_e hF
          obtain ⟨fs, o19, hg, hv, hF⟩ := hF
          refine rz_getf dX10_least_78 fl_X10_64 hg hv ?_
          refine rz_aload_n dX10_least_81 rfl (show _ = some (some (vo x0)) from rfl) ?_
          replace hF := rdO_e hF
          obtain ⟨fs, o20, hg, hv, hF⟩ := hF
          refine rz_getf dX10_least_82 fl_X10_74 hg hv ?_
          refine rz_aload_n dX10_least_85 rfl (show _ = some (some (vo x0)) from rfl) ?_
          replace hF := rdO_e hF
          obtain ⟨fs, o21, hg, hv, hF⟩ := hF
          refine rz_getf dX10_least_86 fl_X10_46 hg hv ?_
          refine rz_aload_n dX10_least_89 rfl (show _ = some (some (vo x0)) from rfl) ?_
          replace hF := rdO_e hF
          obtain ⟨fs, o22, hg, hv, hF⟩ := hF
          refine rz_getf dX10_least_90 fl_X10_74 hg hv ?_
          refine rz_iload dX10_least_93 (show _ = some (some (vi r18)) from rfl) ?_
          refine rz_iconst dX10_least_95 rfl (by decide) ?_
          refine rz_iadd dX10_least_96 ?_
          refine rz_aload_n dX10_least_97 rfl (show _ = some (some (vo x0)) from rfl) ?_
          replace hF := rdO_e hF
          obtain ⟨fs, o23, hg, hv, hF⟩ := hF
          refine rz_getf dX10_least_98 fl_X10_70 hg hv ?_
          refine rz_iload_n dX10_least_101 rfl (show _ = some (some (vi x2)) from rfl) ?_
          replace hF := ldR_e hF
          obtain ⟨xs, hg, h0, h1, hF⟩ := hF
          refine rz_aald dX10_least_102 hg (by decide) rfl h0 h1 ?_
          generalize xs.getD _ none = e24 at hF ⊢
          replace hF := rcv_e hF
          obtain ⟨fs, hg, hF⟩ := hF
          refine rz_callV (mc' := 0) (ms' := 0) (mc := 0) (ms := 0) (st := [vo o20, vo o19]) dX10_least_103 cV_X10_196 rfl hg ⟨_, _, rfl⟩ rfl (Nat.le_of_ble_eq_true rfl) hF (fun v h25 hG => ?_)
          clear hF
          revert hG
          intro hF
          replace hF := atI_e hF
          obtain ⟨r26, rfl, hF⟩ := hF
          replace hF := rcv_e hF
          obtain ⟨fs, hg, hF⟩ := hF
          refine rz_callV (mc' := 0) (ms' := 0) (mc := 0) (ms := 0) (st := []) dX10_least_106 cV_X10_185 rfl hg ⟨_, _, rfl⟩ rfl (Nat.le_of_ble_eq_true rfl) hF (fun v h27 hG => ?_)
          clear hF
          revert hG
          intro hF
          replace hF := atI_e hF
          obtain ⟨r28, rfl, hF⟩ := hF
          exact rz_iret dX10_least_109 trivial hF
        · replace hF := ite_t hF c
          refine rz_bipush (v := (-2)) dX10_least_74 (by decide) (by decide) ?_
          exact rz_iret dX10_least_76 trivial hF
      · replace hF := ite_f hF c
        refine rz_bipush (v := (-3)) dX10_least_31 (by decide) (by decide) ?_
        exact rz_iret dX10_least_33 trivial hF
    · replace hF := ite_t hF c
      refine rz_iconst dX10_least_19 rfl (by decide) ?_
      exact rz_iret dX10_least_20 trivial hF
theorem vX10_at {G : az_G} {d : Nat} {x0 : Nat} {x1 : Int} {x2 : Int} {h : az_H} {Q : Option az_V → az_H → Prop} (hF : rdO h x0 10 6 (fun o1 => rcv h o1 6 (cz G mX6_tell d 0 0 [vo o1, vi x1, vi x2] h (fun v h2 => atI v (fun r3 => Q (some (vi r3)) h2))))) : cz G mX10_at (d + 1) 0 0 [vo x0, vi x1, vi x2] h Q := by
  refine cz_of (ls := [some (vo x0), some (vi x1), some (vi x2)]) (by decide +kernel) (Nat.le_of_ble_eq_true rfl) rfl ?_
  refine rz_aload_n dX10_at_0 rfl (show _ = some (some (vo x0)) from rfl) ?_
  replace hF := rdO_e hF
  obtain ⟨fs, o1, hg, hv, hF⟩ := hF
  refine rz_getf dX10_at_1 fl_X10_64 hg hv ?_
  refine rz_iload_n dX10_at_4 rfl (show _ = some (some (vi x1)) from rfl) ?_
  refine rz_iload_n dX10_at_5 rfl (show _ = some (some (vi x2)) from rfl) ?_
  replace hF := rcv_e hF
  obtain ⟨fs, hg, hF⟩ := hF
  refine rz_callV (mc' := 0) (ms' := 0) (mc := 0) (ms := 0) (st := []) dX10_at_6 cV_X10_210 rfl hg ⟨_, _, rfl⟩ rfl (Nat.le_of_ble_eq_true rfl) hF (fun v h2 hG => ?_)
  clear hF
  revert hG
  intro hF
  replace hF := atI_e hF
  obtain ⟨r3, rfl, hF⟩ := hF
  exact rz_iret dX10_at_9 trivial hF
theorem vX10_breaks {G : az_G} {d : Nat} {x0 : Nat} {x1 : Int} {x2 : Int} {h : az_H} {Q : Option az_V → az_H → Prop} (hF : rdO h x0 10 6 (fun o1 => rcv h o1 6 (cz G mX6_has d 0 0 [vo o1, vi x1] h (fun v h2 => atI v (fun r3 => (if r3 = 0 then Q (some (vi ((-1)))) h2 else rcv h2 x0 10 (cz G mX10_isRule d 0 0 [vo x0, vi x2] h2 (fun v h4 => atI v (fun r5 => (if r5 = 0 then Q (some (vi ((-1)))) h4 else rdO h4 x0 10 6 (fun o6 => rdO h4 x0 10 8 (fun o7 => rcv h4 o6 6 (cz G mX6_copy d 0 0 [vo o6, vi x1, vo o7] h4 (fun v h8 => atI v (fun r9 => rdO h8 x0 10 4 (fun o10 => rdO h8 x0 10 8 (fun o11 => rdO h8 x0 10 7 (fun o12 => ldR h8 o12 (.object "InvariantSearch$Code") x2 (fun e13 => rcv h8 o10 7 (cz G mX7_breaksAt d 0 0 [vo o10, vo o11, vi r9, vr e13] h8 (fun v h14 => atI v (fun r15 => Q (some (vi r15)) h14)))))))))))))))))))))) : cz G mX10_breaks (d + 1) 0 0 [vo x0, vi x1, vi x2] h Q := by
  refine cz_of (ls := [some (vo x0), some (vi x1), some (vi x2), none]) (by decide +kernel) (Nat.le_of_ble_eq_true rfl) rfl ?_
  refine rz_aload_n dX10_breaks_0 rfl (show _ = some (some (vo x0)) from rfl) ?_
  replace hF := rdO_e hF
  obtain ⟨fs, o1, hg, hv, hF⟩ := hF
  refine rz_getf dX10_breaks_1 fl_X10_64 hg hv ?_
  refine rz_iload_n dX10_breaks_4 rfl (show _ = some (some (vi x1)) from rfl) ?_
  replace hF := rcv_e hF
  obtain ⟨fs, hg, hF⟩ := hF
  refine rz_callV (mc' := 0) (ms' := 0) (mc := 0) (ms := 0) (st := []) dX10_breaks_5 cV_X10_200 rfl hg ⟨_, _, rfl⟩ rfl (Nat.le_of_ble_eq_true rfl) hF (fun v h2 hG => ?_)
  clear hF
  revert hG
  intro hF
  replace hF := atI_e hF
  obtain ⟨r3, rfl, hF⟩ := hF
  refine rz_if_eq (tgt := 19) dX10_breaks_8 (by decide) (fun c => ?_) (fun c => ?_)
  · replace hF := ite_t hF c
    refine rz_iconst dX10_breaks_19 rfl (by decide) ?_
    exact rz_iret dX10_breaks_20 trivial hF
  · replace hF := ite_f hF c
    refine rz_aload_n dX10_breaks_11 rfl (show _ = some (some (vo x0)) from rfl) ?_
    refine rz_iload_n dX10_breaks_12 rfl (show _ = some (some (vi x2)) from rfl) ?_
    replace hF := rcv_e hF
    obtain ⟨fs, hg, hF⟩ := hF
    refine rz_callV (mc' := 0) (ms' := 0) (mc := 0) (ms := 0) (st := []) dX10_breaks_13 cV_X10_154 rfl hg ⟨_, _, rfl⟩ rfl (Nat.le_of_ble_eq_true rfl) hF (fun v h4 hG => ?_)
    clear hF
    revert hG
    intro hF
    replace hF := atI_e hF
    obtain ⟨r5, rfl, hF⟩ := hF
    refine rz_if_ne (tgt := 21) dX10_breaks_16 (by decide) (fun c => ?_) (fun c => ?_)
    · replace hF := ite_f hF c
      refine rz_aload_n dX10_breaks_21 rfl (show _ = some (some (vo x0)) from rfl) ?_
      replace hF := rdO_e hF
      obtain ⟨fs, o6, hg, hv, hF⟩ := hF
      refine rz_getf dX10_breaks_22 fl_X10_64 hg hv ?_
      refine rz_iload_n dX10_breaks_25 rfl (show _ = some (some (vi x1)) from rfl) ?_
      refine rz_aload_n dX10_breaks_26 rfl (show _ = some (some (vo x0)) from rfl) ?_
      replace hF := rdO_e hF
      obtain ⟨fs, o7, hg, hv, hF⟩ := hF
      refine rz_getf dX10_breaks_27 fl_X10_74 hg hv ?_
      replace hF := rcv_e hF
      obtain ⟨fs, hg, hF⟩ := hF
      refine rz_callV (mc' := 0) (ms' := 0) (mc := 0) (ms := 0) (st := []) dX10_breaks_30 cV_X10_203 rfl hg ⟨_, _, rfl⟩ rfl (Nat.le_of_ble_eq_true rfl) hF (fun v h8 hG => ?_)
      clear hF
      revert hG
      intro hF
      replace hF := atI_e hF
      obtain ⟨r9, rfl, hF⟩ := hF
      refine rz_istore_n (ls' := [some (vo x0), some (vi x1), some (vi x2), some (vi r9)]) dX10_breaks_33 rfl (Nat.le_of_ble_eq_true rfl) rfl ?_
      refine rz_aload_n dX10_breaks_34 rfl (show _ = some (some (vo x0)) from rfl) ?_
      replace hF := rdO_e hF
      obtain ⟨fs, o10, hg, hv, hF⟩ := hF
      refine rz_getf dX10_breaks_35 fl_X10_46 hg hv ?_
      refine rz_aload_n dX10_breaks_38 rfl (show _ = some (some (vo x0)) from rfl) ?_
      replace hF := rdO_e hF
      obtain ⟨fs, o11, hg, hv, hF⟩ := hF
      refine rz_getf dX10_breaks_39 fl_X10_74 hg hv ?_
      refine rz_iload_n dX10_breaks_42 rfl (show _ = some (some (vi r9)) from rfl) ?_
      refine rz_aload_n dX10_breaks_43 rfl (show _ = some (some (vo x0)) from rfl) ?_
      replace hF := rdO_e hF
      obtain ⟨fs, o12, hg, hv, hF⟩ := hF
      refine rz_getf dX10_breaks_44 fl_X10_70 hg hv ?_
      refine rz_iload_n dX10_breaks_47 rfl (show _ = some (some (vi x2)) from rfl) ?_
      replace hF := ldR_e hF
      obtain ⟨xs, hg, h0, h1, hF⟩ := hF
      refine rz_aald dX10_breaks_48 hg (by decide) rfl h0 h1 ?_
      generalize xs.getD _ none = e13 at hF ⊢
      replace hF := rcv_e hF
      obtain ⟨fs, hg, hF⟩ := hF
      refine rz_callV (mc' := 0) (ms' := 0) (mc := 0) (ms := 0) (st := []) dX10_breaks_49 cV_X10_207 rfl hg ⟨_, _, rfl⟩ rfl (Nat.le_of_ble_eq_true rfl) hF (fun v h14 hG => ?_)
      clear hF
      revert hG
      intro hF
      replace hF := atI_e hF
      obtain ⟨r15, rfl, hF⟩ := hF
      exact rz_iret dX10_breaks_52 trivial hF
    · replace hF := ite_t hF c
      refine rz_iconst dX10_breaks_19 rfl (by decide) ?_
      exact rz_iret dX10_breaks_20 trivial hF
theorem vX10_profit {G : az_G} {d : Nat} {x0 : Nat} {x1 : Int} {x2 : Int} {h : az_H} {Q : Option az_V → az_H → Prop} (hF : rdO h x0 10 6 (fun o1 => rcv h o1 6 (cz G mX6_has d 0 0 [vo o1, vi x1] h (fun v h2 => atI v (fun r3 => (if r3 = 0 then Q (some (vi ((-2000000000)))) h2 else cz G mX10_isWithin d 0 0 [vi x2, vi 0, vi 3] h2 (fun v h4 => atI v (fun r5 => (if r5 = 0 then Q (some (vi ((-2000000000)))) h4 else rdO h4 x0 10 6 (fun o6 => rdO h4 x0 10 8 (fun o7 => rcv h4 o6 6 (cz G mX6_copy d 0 0 [vo o6, vi x1, vo o7] h4 (fun v h8 => atI v (fun r9 => rdO h8 x0 10 4 (fun o10 => rdO h8 x0 10 8 (fun o11 => rcv h8 o10 7 (cz G mX7_doAll d 0 0 [vo o10, vo o11, vi r9] h8 (fun v h12 => atV v (rdO h12 x0 10 3 (fun o13 => rcv h12 o13 4 (cz G mX4_cell d 0 0 [vo o13, vi (w32 (14 + x2))] h12 (fun v h14 => atI v (fun r15 => rdO h14 x0 10 2 (fun o16 => rcv h14 o16 9 (cz G mX9_moneyAtStart d 0 0 [vo o16, vi x2] h14 (fun v h17 => atI v (fun r18 => Q (some (vi (w32 (r15 - r18)))) h17))))))))))))))))))))))))))) : cz G mX10_profit (d + 1) 0 0 [vo x0, vi x1, vi x2] h Q := by
  refine cz_of (ls := [some (vo x0), some (vi x1), some (vi x2), none]) (by decide +kernel) (Nat.le_of_ble_eq_true rfl) rfl ?_
  refine rz_aload_n dX10_profit_0 rfl (show _ = some (some (vo x0)) from rfl) ?_
  replace hF := rdO_e hF
  obtain ⟨fs, o1, hg, hv, hF⟩ := hF
  refine rz_getf dX10_profit_1 fl_X10_64 hg hv ?_
  refine rz_iload_n dX10_profit_4 rfl (show _ = some (some (vi x1)) from rfl) ?_
  replace hF := rcv_e hF
  obtain ⟨fs, hg, hF⟩ := hF
  refine rz_callV (mc' := 0) (ms' := 0) (mc := 0) (ms := 0) (st := []) dX10_profit_5 cV_X10_200 rfl hg ⟨_, _, rfl⟩ rfl (Nat.le_of_ble_eq_true rfl) hF (fun v h2 hG => ?_)
  clear hF
  revert hG
  intro hF
  replace hF := atI_e hF
  obtain ⟨r3, rfl, hF⟩ := hF
  refine rz_if_eq (tgt := 20) dX10_profit_8 (by decide) (fun c => ?_) (fun c => ?_)
  · replace hF := ite_t hF c
    refine rz_ldc (v := (-2000000000)) dX10_profit_20 k_1019 (by decide) ?_
    exact rz_iret dX10_profit_22 trivial hF
  · replace hF := ite_f hF c
    refine rz_iload_n dX10_profit_11 rfl (show _ = some (some (vi x2)) from rfl) ?_
    refine rz_iconst dX10_profit_12 rfl (by decide) ?_
    refine rz_iconst dX10_profit_13 rfl (by decide) ?_
    refine rz_callS (mc' := 0) (ms' := 0) (mc := 0) (ms := 0) (st := []) dX10_profit_14 cS_X10_105 rfl rfl (Nat.le_of_ble_eq_true rfl) hF (fun v h4 hG => ?_)
    clear hF
    revert hG
    intro hF
    replace hF := atI_e hF
    obtain ⟨r5, rfl, hF⟩ := hF
    refine rz_if_ne (tgt := 23) dX10_profit_17 (by decide) (fun c => ?_) (fun c => ?_)
    · replace hF := ite_f hF c
      refine rz_aload_n dX10_profit_23 rfl (show _ = some (some (vo x0)) from rfl) ?_
      replace hF := rdO_e hF
      obtain ⟨fs, o6, hg, hv, hF⟩ := hF
      refine rz_getf dX10_profit_24 fl_X10_64 hg hv ?_
      refine rz_iload_n dX10_profit_27 rfl (show _ = some (some (vi x1)) from rfl) ?_
      refine rz_aload_n dX10_profit_28 rfl (show _ = some (some (vo x0)) from rfl) ?_
      replace hF := rdO_e hF
      obtain ⟨fs, o7, hg, hv, hF⟩ := hF
      refine rz_getf dX10_profit_29 fl_X10_74 hg hv ?_
      replace hF := rcv_e hF
      obtain ⟨fs, hg, hF⟩ := hF
      refine rz_callV (mc' := 0) (ms' := 0) (mc := 0) (ms := 0) (st := []) dX10_profit_32 cV_X10_203 rfl hg ⟨_, _, rfl⟩ rfl (Nat.le_of_ble_eq_true rfl) hF (fun v h8 hG => ?_)
      clear hF
      revert hG
      intro hF
      replace hF := atI_e hF
      obtain ⟨r9, rfl, hF⟩ := hF
      refine rz_istore_n (ls' := [some (vo x0), some (vi x1), some (vi x2), some (vi r9)]) dX10_profit_35 rfl (Nat.le_of_ble_eq_true rfl) rfl ?_
      refine rz_aload_n dX10_profit_36 rfl (show _ = some (some (vo x0)) from rfl) ?_
      replace hF := rdO_e hF
      obtain ⟨fs, o10, hg, hv, hF⟩ := hF
      refine rz_getf dX10_profit_37 fl_X10_46 hg hv ?_
      refine rz_aload_n dX10_profit_40 rfl (show _ = some (some (vo x0)) from rfl) ?_
      replace hF := rdO_e hF
      obtain ⟨fs, o11, hg, hv, hF⟩ := hF
      refine rz_getf dX10_profit_41 fl_X10_74 hg hv ?_
      refine rz_iload_n dX10_profit_44 rfl (show _ = some (some (vi r9)) from rfl) ?_
      replace hF := rcv_e hF
      obtain ⟨fs, hg, hF⟩ := hF
      refine rz_callV (mc' := 0) (ms' := 0) (mc := 0) (ms := 0) (st := []) dX10_profit_45 cV_X10_215 rfl hg ⟨_, _, rfl⟩ rfl (Nat.le_of_ble_eq_true rfl) hF (fun v h12 hG => ?_)
      clear hF
      revert hG
      intro hF
      replace hF := atV_e hF
      obtain ⟨rfl, hF⟩ := hF
      refine rz_aload_n dX10_profit_48 rfl (show _ = some (some (vo x0)) from rfl) ?_
      replace hF := rdO_e hF
      obtain ⟨fs, o13, hg, hv, hF⟩ := hF
      refine rz_getf dX10_profit_49 fl_X10_37 hg hv ?_
      refine rz_bipush (v := 14) dX10_profit_52 (by decide) (by decide) ?_
      refine rz_iload_n dX10_profit_54 rfl (show _ = some (some (vi x2)) from rfl) ?_
      refine rz_iadd dX10_profit_55 ?_
      replace hF := rcv_e hF
      obtain ⟨fs, hg, hF⟩ := hF
      refine rz_callV (mc' := 0) (ms' := 0) (mc := 0) (ms := 0) (st := []) dX10_profit_56 cV_X10_218 rfl hg ⟨_, _, rfl⟩ rfl (Nat.le_of_ble_eq_true rfl) hF (fun v h14 hG => ?_)
      clear hF
      revert hG
      intro hF
      replace hF := atI_e hF
      obtain ⟨r15, rfl, hF⟩ := hF
      refine rz_aload_n dX10_profit_59 rfl (show _ = some (some (vo x0)) from rfl) ?_
      replace hF := rdO_e hF
      obtain ⟨fs, o16, hg, hv, hF⟩ := hF
      refine rz_getf dX10_profit_60 fl_X10_28 hg hv ?_
      refine rz_iload_n dX10_profit_63 rfl (show _ = some (some (vi x2)) from rfl) ?_
      replace hF := rcv_e hF
      obtain ⟨fs, hg, hF⟩ := hF
      refine rz_callV (mc' := 0) (ms' := 0) (mc := 0) (ms := 0) (st := [vi r15]) dX10_profit_64 cV_X10_222 rfl hg ⟨_, _, rfl⟩ rfl (Nat.le_of_ble_eq_true rfl) hF (fun v h17 hG => ?_)
      clear hF
      revert hG
      intro hF
      replace hF := atI_e hF
      obtain ⟨r18, rfl, hF⟩ := hF
      refine rz_isub dX10_profit_67 ?_
      exact rz_iret dX10_profit_68 trivial hF
    · replace hF := ite_t hF c
      refine rz_ldc (v := (-2000000000)) dX10_profit_20 k_1019 (by decide) ?_
      exact rz_iret dX10_profit_22 trivial hF
theorem vX10_met {G : az_G} {d : Nat} {x0 : Nat} {x1 : Int} {x2 : Int} {h : az_H} {Q : Option az_V → az_H → Prop} (hF : rdO h x0 10 2 (fun o1 => rcv h o1 9 (cz G mX9_leavesOf d 0 0 [vo o1, vi x1] h (fun v h2 => atI v (fun r3 => cz G mX10_isWithin d 0 0 [vi x2, vi 0, vi (w32 (r3 - 1))] h2 (fun v h4 => atI v (fun r5 => (if r5 = 0 then Q (some (vi ((-1)))) h4 else rdO h4 x0 10 2 (fun o6 => rcv h4 o6 9 (cz G mX9_hasMet d 0 0 [vo o6, vi x1, vi x2] h4 (fun v h7 => atI v (fun r8 => (if r8 = 0 then Q (some (vi 0)) h7 else Q (some (vi 1)) h7))))))))))))) : cz G mX10_met (d + 1) 0 0 [vo x0, vi x1, vi x2] h Q := by
  refine cz_of (ls := [some (vo x0), some (vi x1), some (vi x2)]) (by decide +kernel) (Nat.le_of_ble_eq_true rfl) rfl ?_
  refine rz_iload_n dX10_met_0 rfl (show _ = some (some (vi x2)) from rfl) ?_
  refine rz_iconst dX10_met_1 rfl (by decide) ?_
  refine rz_aload_n dX10_met_2 rfl (show _ = some (some (vo x0)) from rfl) ?_
  replace hF := rdO_e hF
  obtain ⟨fs, o1, hg, hv, hF⟩ := hF
  refine rz_getf dX10_met_3 fl_X10_28 hg hv ?_
  refine rz_iload_n dX10_met_6 rfl (show _ = some (some (vi x1)) from rfl) ?_
  replace hF := rcv_e hF
  obtain ⟨fs, hg, hF⟩ := hF
  refine rz_callV (mc' := 0) (ms' := 0) (mc := 0) (ms := 0) (st := [vi 0, vi x2]) dX10_met_7 cV_X10_225 rfl hg ⟨_, _, rfl⟩ rfl (Nat.le_of_ble_eq_true rfl) hF (fun v h2 hG => ?_)
  clear hF
  revert hG
  intro hF
  replace hF := atI_e hF
  obtain ⟨r3, rfl, hF⟩ := hF
  refine rz_iconst dX10_met_10 rfl (by decide) ?_
  refine rz_isub dX10_met_11 ?_
  refine rz_callS (mc' := 0) (ms' := 0) (mc := 0) (ms := 0) (st := []) dX10_met_12 cS_X10_105 rfl rfl (Nat.le_of_ble_eq_true rfl) hF (fun v h4 hG => ?_)
  clear hF
  revert hG
  intro hF
  replace hF := atI_e hF
  obtain ⟨r5, rfl, hF⟩ := hF
  refine rz_if_ne (tgt := 20) dX10_met_15 (by decide) (fun c => ?_) (fun c => ?_)
  · replace hF := ite_f hF c
    refine rz_aload_n dX10_met_20 rfl (show _ = some (some (vo x0)) from rfl) ?_
    replace hF := rdO_e hF
    obtain ⟨fs, o6, hg, hv, hF⟩ := hF
    refine rz_getf dX10_met_21 fl_X10_28 hg hv ?_
    refine rz_iload_n dX10_met_24 rfl (show _ = some (some (vi x1)) from rfl) ?_
    refine rz_iload_n dX10_met_25 rfl (show _ = some (some (vi x2)) from rfl) ?_
    replace hF := rcv_e hF
    obtain ⟨fs, hg, hF⟩ := hF
    refine rz_callV (mc' := 0) (ms' := 0) (mc := 0) (ms := 0) (st := []) dX10_met_26 cV_X10_228 rfl hg ⟨_, _, rfl⟩ rfl (Nat.le_of_ble_eq_true rfl) hF (fun v h7 hG => ?_)
    clear hF
    revert hG
    intro hF
    replace hF := atI_e hF
    obtain ⟨r8, rfl, hF⟩ := hF
    refine rz_if_eq (tgt := 36) dX10_met_29 (by decide) (fun c => ?_) (fun c => ?_)
    · replace hF := ite_t hF c
      refine rz_iconst dX10_met_36 rfl (by decide) ?_
      exact rz_iret dX10_met_37 trivial hF
    · replace hF := ite_f hF c
      refine rz_iconst dX10_met_32 rfl (by decide) ?_
      refine rz_goto (tgt := 37) dX10_met_33 (by decide) ?_
      exact rz_iret dX10_met_37 trivial hF
  · replace hF := ite_t hF c
    refine rz_iconst dX10_met_18 rfl (by decide) ?_
    exact rz_iret dX10_met_19 trivial hF
theorem vX10_kept {G : az_G} {d : Nat} {x0 : Nat} {x1 : Int} {x2 : Int} {h : az_H} {Q : Option az_V → az_H → Prop} (hF : rdO h x0 10 5 (fun o1 => rcv h o1 2 (cz G mX2_tellKept d 0 0 [vo o1, vi x1, vi x2] h (fun v h2 => atI v (fun r3 => Q (some (vi r3)) h2))))) : cz G mX10_kept (d + 1) 0 0 [vo x0, vi x1, vi x2] h Q := by
  refine cz_of (ls := [some (vo x0), some (vi x1), some (vi x2)]) (by decide +kernel) (Nat.le_of_ble_eq_true rfl) rfl ?_
  refine rz_aload_n dX10_kept_0 rfl (show _ = some (some (vo x0)) from rfl) ?_
  replace hF := rdO_e hF
  obtain ⟨fs, o1, hg, hv, hF⟩ := hF
  refine rz_getf dX10_kept_1 fl_X10_55 hg hv ?_
  refine rz_iload_n dX10_kept_4 rfl (show _ = some (some (vi x1)) from rfl) ?_
  refine rz_iload_n dX10_kept_5 rfl (show _ = some (some (vi x2)) from rfl) ?_
  replace hF := rcv_e hF
  obtain ⟨fs, hg, hF⟩ := hF
  refine rz_callV (mc' := 0) (ms' := 0) (mc := 0) (ms := 0) (st := []) dX10_kept_6 cV_X10_232 rfl hg ⟨_, _, rfl⟩ rfl (Nat.le_of_ble_eq_true rfl) hF (fun v h2 hG => ?_)
  clear hF
  revert hG
  intro hF
  replace hF := atI_e hF
  obtain ⟨r3, rfl, hF⟩ := hF
  exact rz_iret dX10_kept_9 trivial hF
theorem vX10_told {G : az_G} {d : Nat} {x0 : Nat} {x1 : Int} {h : az_H} {Q : Option az_V → az_H → Prop} (hF : (if x1 = 0 then rdO h x0 10 0 (fun o1 => rcv h o1 8 (cz G mX8_length d 0 0 [vo o1] h (fun v h2 => atI v (fun r3 => Q (some (vi r3)) h2)))) else (if x1 = 1 then rdI h x0 10 10 (fun f5 => Q (some (vi f5)) h) else (if x1 = 2 then rdO h x0 10 4 (fun o7 => rcv h o7 7 (cz G mX7_choiceCount d 0 0 [vo o7] h (fun v h8 => atI v (fun r9 => Q (some (vi r9)) h8)))) else (if x1 = 3 then rdO h x0 10 6 (fun o11 => rcv h o11 6 (cz G mX6_size d 0 0 [vo o11] h (fun v h12 => atI v (fun r13 => Q (some (vi r13)) h12)))) else (if x1 = 4 then rdO h x0 10 5 (fun o15 => rcv h o15 2 (cz G mX2_keptCount d 0 0 [vo o15] h (fun v h16 => atI v (fun r17 => Q (some (vi r17)) h16)))) else cz G mX10_isWithin d 0 0 [vi x1, vi 5, vi 10] h (fun v h19 => atI v (fun r20 => (if r20 = 0 then Q (some (vi ((-1)))) h19 else rdO h19 x0 10 2 (fun o21 => rcv h19 o21 9 (cz G mX9_leavesOf d 0 0 [vo o21, vi (w32 (x1 - 5))] h19 (fun v h22 => atI v (fun r23 => Q (some (vi r23)) h22))))))))))))) : cz G mX10_told (d + 1) 0 0 [vo x0, vi x1] h Q := by
  refine cz_of (ls := [some (vo x0), some (vi x1)]) (by decide +kernel) (Nat.le_of_ble_eq_true rfl) rfl ?_
  refine rz_iload_n dX10_told_0 rfl (show _ = some (some (vi x1)) from rfl) ?_
  by_cases c4 : x1 = 0
  · replace hF := ite_t hF c4
    refine rz_tsIn (off := 35) (tgt := 36) dX10_told_1 (by omega) (by omega) (by rw [c4]; rfl) (by decide) ?_
    refine rz_aload_n dX10_told_36 rfl (show _ = some (some (vo x0)) from rfl) ?_
    replace hF := rdO_e hF
    obtain ⟨fs, o1, hg, hv, hF⟩ := hF
    refine rz_getf dX10_told_37 fl_X10_10 hg hv ?_
    replace hF := rcv_e hF
    obtain ⟨fs, hg, hF⟩ := hF
    refine rz_callV (mc' := 0) (ms' := 0) (mc := 0) (ms := 0) (st := []) dX10_told_40 cV_X10_98 rfl hg ⟨_, _, rfl⟩ rfl (Nat.le_of_ble_eq_true rfl) hF (fun v h2 hG => ?_)
    clear hF
    revert hG
    intro hF
    replace hF := atI_e hF
    obtain ⟨r3, rfl, hF⟩ := hF
    exact rz_iret dX10_told_43 trivial hF
  · replace hF := ite_f hF c4
    by_cases c6 : x1 = 1
    · replace hF := ite_t hF c6
      refine rz_tsIn (off := 43) (tgt := 44) dX10_told_1 (by omega) (by omega) (by rw [c6]; rfl) (by decide) ?_
      refine rz_aload_n dX10_told_44 rfl (show _ = some (some (vo x0)) from rfl) ?_
      replace hF := rdI_e hF
      obtain ⟨fs, f5, hg, hv, hF⟩ := hF
      refine rz_getf dX10_told_45 fl_X10_81 hg hv ?_
      exact rz_iret dX10_told_48 trivial hF
    · replace hF := ite_f hF c6
      by_cases c10 : x1 = 2
      · replace hF := ite_t hF c10
        refine rz_tsIn (off := 48) (tgt := 49) dX10_told_1 (by omega) (by omega) (by rw [c10]; rfl) (by decide) ?_
        refine rz_aload_n dX10_told_49 rfl (show _ = some (some (vo x0)) from rfl) ?_
        replace hF := rdO_e hF
        obtain ⟨fs, o7, hg, hv, hF⟩ := hF
        refine rz_getf dX10_told_50 fl_X10_46 hg hv ?_
        replace hF := rcv_e hF
        obtain ⟨fs, hg, hF⟩ := hF
        refine rz_callV (mc' := 0) (ms' := 0) (mc := 0) (ms := 0) (st := []) dX10_told_53 cV_X10_161 rfl hg ⟨_, _, rfl⟩ rfl (Nat.le_of_ble_eq_true rfl) hF (fun v h8 hG => ?_)
        clear hF
        revert hG
        intro hF
        replace hF := atI_e hF
        obtain ⟨r9, rfl, hF⟩ := hF
        exact rz_iret dX10_told_56 trivial hF
      · replace hF := ite_f hF c10
        by_cases c14 : x1 = 3
        · replace hF := ite_t hF c14
          refine rz_tsIn (off := 56) (tgt := 57) dX10_told_1 (by omega) (by omega) (by rw [c14]; rfl) (by decide) ?_
          refine rz_aload_n dX10_told_57 rfl (show _ = some (some (vo x0)) from rfl) ?_
          replace hF := rdO_e hF
          obtain ⟨fs, o11, hg, hv, hF⟩ := hF
          refine rz_getf dX10_told_58 fl_X10_64 hg hv ?_
          replace hF := rcv_e hF
          obtain ⟨fs, hg, hF⟩ := hF
          refine rz_callV (mc' := 0) (ms' := 0) (mc := 0) (ms := 0) (st := []) dX10_told_61 cV_X10_235 rfl hg ⟨_, _, rfl⟩ rfl (Nat.le_of_ble_eq_true rfl) hF (fun v h12 hG => ?_)
          clear hF
          revert hG
          intro hF
          replace hF := atI_e hF
          obtain ⟨r13, rfl, hF⟩ := hF
          exact rz_iret dX10_told_64 trivial hF
        · replace hF := ite_f hF c14
          by_cases c18 : x1 = 4
          · replace hF := ite_t hF c18
            refine rz_tsIn (off := 64) (tgt := 65) dX10_told_1 (by omega) (by omega) (by rw [c18]; rfl) (by decide) ?_
            refine rz_aload_n dX10_told_65 rfl (show _ = some (some (vo x0)) from rfl) ?_
            replace hF := rdO_e hF
            obtain ⟨fs, o15, hg, hv, hF⟩ := hF
            refine rz_getf dX10_told_66 fl_X10_55 hg hv ?_
            replace hF := rcv_e hF
            obtain ⟨fs, hg, hF⟩ := hF
            refine rz_callV (mc' := 0) (ms' := 0) (mc := 0) (ms := 0) (st := []) dX10_told_69 cV_X10_238 rfl hg ⟨_, _, rfl⟩ rfl (Nat.le_of_ble_eq_true rfl) hF (fun v h16 hG => ?_)
            clear hF
            revert hG
            intro hF
            replace hF := atI_e hF
            obtain ⟨r17, rfl, hF⟩ := hF
            exact rz_iret dX10_told_72 trivial hF
          · replace hF := ite_f hF c18
            refine rz_tsOut (tgt := 73) dX10_told_1 (by omega) (by decide) ?_
            refine rz_iload_n dX10_told_73 rfl (show _ = some (some (vi x1)) from rfl) ?_
            refine rz_iconst dX10_told_74 rfl (by decide) ?_
            refine rz_bipush (v := 10) dX10_told_75 (by decide) (by decide) ?_
            refine rz_callS (mc' := 0) (ms' := 0) (mc := 0) (ms := 0) (st := []) dX10_told_77 cS_X10_105 rfl rfl (Nat.le_of_ble_eq_true rfl) hF (fun v h19 hG => ?_)
            clear hF
            revert hG
            intro hF
            replace hF := atI_e hF
            obtain ⟨r20, rfl, hF⟩ := hF
            refine rz_if_eq (tgt := 96) dX10_told_80 (by decide) (fun c => ?_) (fun c => ?_)
            · replace hF := ite_t hF c
              refine rz_iconst dX10_told_96 rfl (by decide) ?_
              exact rz_iret dX10_told_97 trivial hF
            · replace hF := ite_f hF c
              refine rz_aload_n dX10_told_83 rfl (show _ = some (some (vo x0)) from rfl) ?_
              replace hF := rdO_e hF
              obtain ⟨fs, o21, hg, hv, hF⟩ := hF
              refine rz_getf dX10_told_84 fl_X10_28 hg hv ?_
              refine rz_iload_n dX10_told_87 rfl (show _ = some (some (vi x1)) from rfl) ?_
              refine rz_iconst dX10_told_88 rfl (by decide) ?_
              refine rz_isub dX10_told_89 ?_
              replace hF := rcv_e hF
              obtain ⟨fs, hg, hF⟩ := hF
              refine rz_callV (mc' := 0) (ms' := 0) (mc := 0) (ms := 0) (st := []) dX10_told_90 cV_X10_225 rfl hg ⟨_, _, rfl⟩ rfl (Nat.le_of_ble_eq_true rfl) hF (fun v h22 hG => ?_)
              clear hF
              revert hG
              intro hF
              replace hF := atI_e hF
              obtain ⟨r23, rfl, hF⟩ := hF
              refine rz_goto (tgt := 97) dX10_told_93 (by decide) ?_
              exact rz_iret dX10_told_97 trivial hF
theorem vX11_init {G : az_G} {d : Nat} {x0 : Nat} {h : az_H} {Q : Option az_V → az_H → Prop} (hF : nwO h (cA .int (List.replicate 208 0)) (fun No1 Nh2 => wrF Nh2 x0 11 0 (.array (.int)) (vo No1) (fun h3 => nwO h3 (cA .int (List.replicate 4500 0)) (fun No4 Nh5 => wrF Nh5 x0 11 7 (.array (.int)) (vo No4) (fun h6 => nwO h6 (cA .int (List.replicate 4500 0)) (fun No7 Nh8 => wrF Nh8 x0 11 8 (.array (.int)) (vo No7) (fun h9 => nwO h9 (cA .int (List.replicate 4500 0)) (fun No10 Nh11 => wrF Nh11 x0 11 9 (.array (.int)) (vo No10) (fun h12 => nwO h12 (cA .int (List.replicate 15 0)) (fun No13 Nh14 => wrF Nh14 x0 11 10 (.array (.int)) (vo No13) (fun h15 => nwO h15 (cA .int (List.replicate 6 0)) (fun No16 Nh17 => wrF Nh17 x0 11 11 (.array (.int)) (vo No16) (fun h18 => nwO h18 (cA .boolean (List.replicate 6 0)) (fun No19 Nh20 => wrF Nh20 x0 11 12 (.array (.boolean)) (vo No19) (fun h21 => nwO h21 (cA .int (List.replicate 300 0)) (fun No22 Nh23 => wrF Nh23 x0 11 16 (.array (.int)) (vo No22) (fun h24 => nwO h24 (cA .int (List.replicate 6 0)) (fun No25 Nh26 => wrF Nh26 x0 11 20 (.array (.int)) (vo No25) (fun h27 => nwO h27 (cA .int (List.replicate 19 0)) (fun No28 Nh29 => wrF Nh29 x0 11 22 (.array (.int)) (vo No28) (fun h30 => nwO h30 (cA .int (List.replicate 19 0)) (fun No31 Nh32 => wrF Nh32 x0 11 23 (.array (.int)) (vo No31) (fun h33 => nwO h33 (cA .int (List.replicate 4 0)) (fun No34 Nh35 => wrF Nh35 x0 11 24 (.array (.int)) (vo No34) (fun h36 => nwO h36 (cA .int (List.replicate 4 0)) (fun No37 Nh38 => stI Nh38 No37 .int 0 ((-1)) (fun h39 => stI h39 No37 .int 1 ((-1)) (fun h40 => stI h40 No37 .int 2 ((-1)) (fun h41 => stI h41 No37 .int 3 ((-1)) (fun h42 => wrF h42 x0 11 25 (.array (.int)) (vo No37) (fun h43 => nwO h43 (cA .int (List.replicate 4 0)) (fun No44 Nh45 => wrF Nh45 x0 11 26 (.array (.int)) (vo No44) (fun h46 => nwO h46 (cA .boolean (List.replicate 144 0)) (fun No47 Nh48 => wrF Nh48 x0 11 28 (.array (.boolean)) (vo No47) (fun h49 => nwO h49 (cA .int (List.replicate 300 0)) (fun No50 Nh51 => wrF Nh51 x0 11 31 (.array (.int)) (vo No50) (fun h52 => nwO h52 (cA .int (List.replicate 3 0)) (fun No53 Nh54 => wrF Nh54 x0 11 35 (.array (.int)) (vo No53) (fun h55 => nwO h55 (cA .int (List.replicate 3 0)) (fun No56 Nh57 => wrF Nh57 x0 11 36 (.array (.int)) (vo No56) (fun h58 => nwO h58 (cA .int (List.replicate 3 0)) (fun No59 Nh60 => wrF Nh60 x0 11 37 (.array (.int)) (vo No59) (fun h61 => nwO h61 (cA .int (List.replicate 3 0)) (fun No62 Nh63 => wrF Nh63 x0 11 38 (.array (.int)) (vo No62) (fun h64 => nwO h64 (cA .int (List.replicate 57 0)) (fun No65 Nh66 => wrF Nh66 x0 11 39 (.array (.int)) (vo No65) (fun h67 => nwO h67 (cA .int (List.replicate 30 0)) (fun No68 Nh69 => wrF Nh69 x0 11 41 (.array (.int)) (vo No68) (fun h70 => nwO h70 (cA .int (List.replicate 30 0)) (fun No71 Nh72 => wrF Nh72 x0 11 42 (.array (.int)) (vo No71) (fun h73 => nwO h73 (cA .int (List.replicate 30 0)) (fun No74 Nh75 => wrF Nh75 x0 11 43 (.array (.int)) (vo No74) (fun h76 => nwO h76 (cA .int (List.replicate 30 0)) (fun No77 Nh78 => wrF Nh78 x0 11 44 (.array (.int)) (vo No77) (fun h79 => nwO h79 (cA .int (List.replicate 20 0)) (fun No80 Nh81 => wrF Nh81 x0 11 46 (.array (.int)) (vo No80) (fun h82 => nwO h82 (cA .int (List.replicate 240 0)) (fun No83 Nh84 => wrF Nh84 x0 11 47 (.array (.int)) (vo No83) (fun h85 => nwO h85 (cA .int (List.replicate 12 0)) (fun No86 Nh87 => wrF Nh87 x0 11 49 (.array (.int)) (vo No86) (fun h88 => nwO h88 (cA .int (List.replicate 8 0)) (fun No89 Nh90 => wrF Nh90 x0 11 51 (.array (.int)) (vo No89) (fun h91 => nwO h91 (cA .int (List.replicate 96 0)) (fun No92 Nh93 => wrF Nh93 x0 11 52 (.array (.int)) (vo No92) (fun h94 => nwO h94 (cA .int (List.replicate 7619 0)) (fun No95 Nh96 => wrF Nh96 x0 11 54 (.array (.int)) (vo No95) (fun h97 => nwO h97 (cA .int (List.replicate 401 0)) (fun No98 Nh99 => wrF Nh99 x0 11 55 (.array (.int)) (vo No98) (fun h100 => nwO h100 (cA .int (List.replicate 401 0)) (fun No101 Nh102 => wrF Nh102 x0 11 56 (.array (.int)) (vo No101) (fun h103 => nwO h103 (cA .int (List.replicate 401 0)) (fun No104 Nh105 => wrF Nh105 x0 11 57 (.array (.int)) (vo No104) (fun h106 => Q none h106))))))))))))))))))))))))))))))))))))))))))))))))))))))))))))))))))))))))) : cz G mX11_init (d + 1) 34 23922 [vo x0] h Q := by
  refine cz_of (ls := [some (vo x0)]) (by decide +kernel) (Nat.le_of_ble_eq_true rfl) rfl ?_
  refine rz_aload_n dX11_init_0 rfl (show _ = some (some (vo x0)) from rfl) ?_
  refine rz_obj dX11_init_1 k_1059 k_99 k_100 (Nat.le_of_ble_eq_true rfl) ?_
  refine rz_aload_n dX11_init_4 rfl (show _ = some (some (vo x0)) from rfl) ?_
  refine rz_sipush (v := 208) dX11_init_5 (by decide) (by decide) ?_
  refine ez_wide (mc := 33 + 1) (ms := 23714 + (208 : Int).toNat) (Nat.le_of_ble_eq_true rfl) (by decide +kernel) ?_
  refine rz_newa dX11_init_8 rfl (by decide) k_155 (by decide) (by decide) ?_
  replace hF := nwO_e hF
  replace hF := wrF_e hF
  obtain ⟨fs, hg, hv, hF⟩ := hF
  refine rz_putf dX11_init_10 fl_X11_7 (Or.inr rfl) hg hv ?_
  refine rz_aload_n dX11_init_13 rfl (show _ = some (some (vo x0)) from rfl) ?_
  refine rz_sipush (v := 4500) dX11_init_14 (by decide) (by decide) ?_
  refine ez_wide (mc := 32 + 1) (ms := 19214 + (4500 : Int).toNat) (Nat.le_of_ble_eq_true rfl) (by decide +kernel) ?_
  refine rz_newa dX11_init_17 rfl (by decide) k_155 (by decide) (by decide) ?_
  replace hF := nwO_e hF
  replace hF := wrF_e hF
  obtain ⟨fs, hg, hv, hF⟩ := hF
  refine rz_putf dX11_init_19 fl_X11_13 (Or.inr rfl) hg hv ?_
  refine rz_aload_n dX11_init_22 rfl (show _ = some (some (vo x0)) from rfl) ?_
  refine rz_sipush (v := 4500) dX11_init_23 (by decide) (by decide) ?_
  refine ez_wide (mc := 31 + 1) (ms := 14714 + (4500 : Int).toNat) (Nat.le_of_ble_eq_true rfl) (by decide +kernel) ?_
  refine rz_newa dX11_init_26 rfl (by decide) k_155 (by decide) (by decide) ?_
  replace hF := nwO_e hF
  replace hF := wrF_e hF
  obtain ⟨fs, hg, hv, hF⟩ := hF
  refine rz_putf dX11_init_28 fl_X11_16 (Or.inr rfl) hg hv ?_
  refine rz_aload_n dX11_init_31 rfl (show _ = some (some (vo x0)) from rfl) ?_
  refine rz_sipush (v := 4500) dX11_init_32 (by decide) (by decide) ?_
  refine ez_wide (mc := 30 + 1) (ms := 10214 + (4500 : Int).toNat) (Nat.le_of_ble_eq_true rfl) (by decide +kernel) ?_
  refine rz_newa dX11_init_35 rfl (by decide) k_155 (by decide) (by decide) ?_
  replace hF := nwO_e hF
  replace hF := wrF_e hF
  obtain ⟨fs, hg, hv, hF⟩ := hF
  refine rz_putf dX11_init_37 fl_X11_19 (Or.inr rfl) hg hv ?_
  refine rz_aload_n dX11_init_40 rfl (show _ = some (some (vo x0)) from rfl) ?_
  refine rz_bipush (v := 15) dX11_init_41 (by decide) (by decide) ?_
  refine ez_wide (mc := 29 + 1) (ms := 10199 + (15 : Int).toNat) (Nat.le_of_ble_eq_true rfl) (by decide +kernel) ?_
  refine rz_newa dX11_init_43 rfl (by decide) k_155 (by decide) (by decide) ?_
  replace hF := nwO_e hF
  replace hF := wrF_e hF
  obtain ⟨fs, hg, hv, hF⟩ := hF
  refine rz_putf dX11_init_45 fl_X11_22 (Or.inr rfl) hg hv ?_
  refine rz_aload_n dX11_init_48 rfl (show _ = some (some (vo x0)) from rfl) ?_
  refine rz_bipush (v := 6) dX11_init_49 (by decide) (by decide) ?_
  refine ez_wide (mc := 28 + 1) (ms := 10193 + (6 : Int).toNat) (Nat.le_of_ble_eq_true rfl) (by decide +kernel) ?_
  refine rz_newa dX11_init_51 rfl (by decide) k_155 (by decide) (by decide) ?_
  replace hF := nwO_e hF
  replace hF := wrF_e hF
  obtain ⟨fs, hg, hv, hF⟩ := hF
  refine rz_putf dX11_init_53 fl_X11_25 (Or.inr rfl) hg hv ?_
  refine rz_aload_n dX11_init_56 rfl (show _ = some (some (vo x0)) from rfl) ?_
  refine rz_bipush (v := 6) dX11_init_57 (by decide) (by decide) ?_
  refine ez_wide (mc := 27 + 1) (ms := 10187 + (6 : Int).toNat) (Nat.le_of_ble_eq_true rfl) (by decide +kernel) ?_
  refine rz_newa dX11_init_59 rfl (by decide) k_1238 (by decide) (by decide) ?_
  replace hF := nwO_e hF
  replace hF := wrF_e hF
  obtain ⟨fs, hg, hv, hF⟩ := hF
  refine rz_putf dX11_init_61 fl_X11_28 (Or.inr rfl) hg hv ?_
  refine rz_aload_n dX11_init_64 rfl (show _ = some (some (vo x0)) from rfl) ?_
  refine rz_sipush (v := 300) dX11_init_65 (by decide) (by decide) ?_
  refine ez_wide (mc := 26 + 1) (ms := 9887 + (300 : Int).toNat) (Nat.le_of_ble_eq_true rfl) (by decide +kernel) ?_
  refine rz_newa dX11_init_68 rfl (by decide) k_155 (by decide) (by decide) ?_
  replace hF := nwO_e hF
  replace hF := wrF_e hF
  obtain ⟨fs, hg, hv, hF⟩ := hF
  refine rz_putf dX11_init_70 fl_X11_32 (Or.inr rfl) hg hv ?_
  refine rz_aload_n dX11_init_73 rfl (show _ = some (some (vo x0)) from rfl) ?_
  refine rz_bipush (v := 6) dX11_init_74 (by decide) (by decide) ?_
  refine ez_wide (mc := 25 + 1) (ms := 9881 + (6 : Int).toNat) (Nat.le_of_ble_eq_true rfl) (by decide +kernel) ?_
  refine rz_newa dX11_init_76 rfl (by decide) k_155 (by decide) (by decide) ?_
  replace hF := nwO_e hF
  replace hF := wrF_e hF
  obtain ⟨fs, hg, hv, hF⟩ := hF
  refine rz_putf dX11_init_78 fl_X11_35 (Or.inr rfl) hg hv ?_
  refine rz_aload_n dX11_init_81 rfl (show _ = some (some (vo x0)) from rfl) ?_
  refine rz_bipush (v := 19) dX11_init_82 (by decide) (by decide) ?_
  refine ez_wide (mc := 24 + 1) (ms := 9862 + (19 : Int).toNat) (Nat.le_of_ble_eq_true rfl) (by decide +kernel) ?_
  refine rz_newa dX11_init_84 rfl (by decide) k_155 (by decide) (by decide) ?_
  replace hF := nwO_e hF
  replace hF := wrF_e hF
  obtain ⟨fs, hg, hv, hF⟩ := hF
  refine rz_putf dX11_init_86 fl_X11_38 (Or.inr rfl) hg hv ?_
  refine rz_aload_n dX11_init_89 rfl (show _ = some (some (vo x0)) from rfl) ?_
  refine rz_bipush (v := 19) dX11_init_90 (by decide) (by decide) ?_
  refine ez_wide (mc := 23 + 1) (ms := 9843 + (19 : Int).toNat) (Nat.le_of_ble_eq_true rfl) (by decide +kernel) ?_
  refine rz_newa dX11_init_92 rfl (by decide) k_155 (by decide) (by decide) ?_
  replace hF := nwO_e hF
  replace hF := wrF_e hF
  obtain ⟨fs, hg, hv, hF⟩ := hF
  refine rz_putf dX11_init_94 fl_X11_41 (Or.inr rfl) hg hv ?_
  refine rz_aload_n dX11_init_97 rfl (show _ = some (some (vo x0)) from rfl) ?_
  refine rz_iconst dX11_init_98 rfl (by decide) ?_
  refine ez_wide (mc := 22 + 1) (ms := 9839 + (4 : Int).toNat) (Nat.le_of_ble_eq_true rfl) (by decide +kernel) ?_
  refine rz_newa dX11_init_99 rfl (by decide) k_155 (by decide) (by decide) ?_
  replace hF := nwO_e hF
  replace hF := wrF_e hF
  obtain ⟨fs, hg, hv, hF⟩ := hF
  refine rz_putf dX11_init_101 fl_X11_44 (Or.inr rfl) hg hv ?_
  refine rz_aload_n dX11_init_104 rfl (show _ = some (some (vo x0)) from rfl) ?_
  refine rz_iconst dX11_init_105 rfl (by decide) ?_
  refine ez_wide (mc := 21 + 1) (ms := 9835 + (4 : Int).toNat) (Nat.le_of_ble_eq_true rfl) (by decide +kernel) ?_
  refine rz_newa dX11_init_106 rfl (by decide) k_155 (by decide) (by decide) ?_
  replace hF := nwO_e hF
  refine rz_dup dX11_init_108 (by rintro ⟨_, q⟩; cases q) ?_
  refine rz_iconst dX11_init_109 rfl (by decide) ?_
  refine rz_iconst dX11_init_110 rfl (by decide) ?_
  replace hF := stI_e hF
  obtain ⟨xs, hg, h0, h1, hF⟩ := hF
  refine rz_iast dX11_init_111 hg h0 h1 ?_
  refine rz_dup dX11_init_112 (by rintro ⟨_, q⟩; cases q) ?_
  refine rz_iconst dX11_init_113 rfl (by decide) ?_
  refine rz_iconst dX11_init_114 rfl (by decide) ?_
  replace hF := stI_e hF
  obtain ⟨xs, hg, h0, h1, hF⟩ := hF
  refine rz_iast dX11_init_115 hg h0 h1 ?_
  refine rz_dup dX11_init_116 (by rintro ⟨_, q⟩; cases q) ?_
  refine rz_iconst dX11_init_117 rfl (by decide) ?_
  refine rz_iconst dX11_init_118 rfl (by decide) ?_
  replace hF := stI_e hF
  obtain ⟨xs, hg, h0, h1, hF⟩ := hF
  refine rz_iast dX11_init_119 hg h0 h1 ?_
  refine rz_dup dX11_init_120 (by rintro ⟨_, q⟩; cases q) ?_
  refine rz_iconst dX11_init_121 rfl (by decide) ?_
  refine rz_iconst dX11_init_122 rfl (by decide) ?_
  replace hF := stI_e hF
  obtain ⟨xs, hg, h0, h1, hF⟩ := hF
  refine rz_iast dX11_init_123 hg h0 h1 ?_
  replace hF := wrF_e hF
  obtain ⟨fs, hg, hv, hF⟩ := hF
  refine rz_putf dX11_init_124 fl_X11_47 (Or.inr rfl) hg hv ?_
  refine rz_aload_n dX11_init_127 rfl (show _ = some (some (vo x0)) from rfl) ?_
  refine rz_iconst dX11_init_128 rfl (by decide) ?_
  refine ez_wide (mc := 20 + 1) (ms := 9831 + (4 : Int).toNat) (Nat.le_of_ble_eq_true rfl) (by decide +kernel) ?_
  refine rz_newa dX11_init_129 rfl (by decide) k_155 (by decide) (by decide) ?_
  replace hF := nwO_e hF
  replace hF := wrF_e hF
  obtain ⟨fs, hg, hv, hF⟩ := hF
  refine rz_putf dX11_init_131 fl_X11_50 (Or.inr rfl) hg hv ?_
  refine rz_aload_n dX11_init_134 rfl (show _ = some (some (vo x0)) from rfl) ?_
  refine rz_sipush (v := 144) dX11_init_135 (by decide) (by decide) ?_
  refine ez_wide (mc := 19 + 1) (ms := 9687 + (144 : Int).toNat) (Nat.le_of_ble_eq_true rfl) (by decide +kernel) ?_
  refine rz_newa dX11_init_138 rfl (by decide) k_1238 (by decide) (by decide) ?_
  replace hF := nwO_e hF
  replace hF := wrF_e hF
  obtain ⟨fs, hg, hv, hF⟩ := hF
  refine rz_putf dX11_init_140 fl_X11_53 (Or.inr rfl) hg hv ?_
  refine rz_aload_n dX11_init_143 rfl (show _ = some (some (vo x0)) from rfl) ?_
  refine rz_sipush (v := 300) dX11_init_144 (by decide) (by decide) ?_
  refine ez_wide (mc := 18 + 1) (ms := 9387 + (300 : Int).toNat) (Nat.le_of_ble_eq_true rfl) (by decide +kernel) ?_
  refine rz_newa dX11_init_147 rfl (by decide) k_155 (by decide) (by decide) ?_
  replace hF := nwO_e hF
  replace hF := wrF_e hF
  obtain ⟨fs, hg, hv, hF⟩ := hF
  refine rz_putf dX11_init_149 fl_X11_56 (Or.inr rfl) hg hv ?_
  refine rz_aload_n dX11_init_152 rfl (show _ = some (some (vo x0)) from rfl) ?_
  refine rz_iconst dX11_init_153 rfl (by decide) ?_
  refine ez_wide (mc := 17 + 1) (ms := 9384 + (3 : Int).toNat) (Nat.le_of_ble_eq_true rfl) (by decide +kernel) ?_
  refine rz_newa dX11_init_154 rfl (by decide) k_155 (by decide) (by decide) ?_
  replace hF := nwO_e hF
  replace hF := wrF_e hF
  obtain ⟨fs, hg, hv, hF⟩ := hF
  refine rz_putf dX11_init_156 fl_X11_59 (Or.inr rfl) hg hv ?_
  refine rz_aload_n dX11_init_159 rfl (show _ = some (some (vo x0)) from rfl) ?_
  refine rz_iconst dX11_init_160 rfl (by decide) ?_
  refine ez_wide (mc := 16 + 1) (ms := 9381 + (3 : Int).toNat) (Nat.le_of_ble_eq_true rfl) (by decide +kernel) ?_
  refine rz_newa dX11_init_161 rfl (by decide) k_155 (by decide) (by decide) ?_
  replace hF := nwO_e hF
  replace hF := wrF_e hF
  obtain ⟨fs, hg, hv, hF⟩ := hF
  refine rz_putf dX11_init_163 fl_X11_62 (Or.inr rfl) hg hv ?_
  refine rz_aload_n dX11_init_166 rfl (show _ = some (some (vo x0)) from rfl) ?_
  refine rz_iconst dX11_init_167 rfl (by decide) ?_
  refine ez_wide (mc := 15 + 1) (ms := 9378 + (3 : Int).toNat) (Nat.le_of_ble_eq_true rfl) (by decide +kernel) ?_
  refine rz_newa dX11_init_168 rfl (by decide) k_155 (by decide) (by decide) ?_
  replace hF := nwO_e hF
  replace hF := wrF_e hF
  obtain ⟨fs, hg, hv, hF⟩ := hF
  refine rz_putf dX11_init_170 fl_X11_65 (Or.inr rfl) hg hv ?_
  refine rz_aload_n dX11_init_173 rfl (show _ = some (some (vo x0)) from rfl) ?_
  refine rz_iconst dX11_init_174 rfl (by decide) ?_
  refine ez_wide (mc := 14 + 1) (ms := 9375 + (3 : Int).toNat) (Nat.le_of_ble_eq_true rfl) (by decide +kernel) ?_
  refine rz_newa dX11_init_175 rfl (by decide) k_155 (by decide) (by decide) ?_
  replace hF := nwO_e hF
  replace hF := wrF_e hF
  obtain ⟨fs, hg, hv, hF⟩ := hF
  refine rz_putf dX11_init_177 fl_X11_68 (Or.inr rfl) hg hv ?_
  refine rz_aload_n dX11_init_180 rfl (show _ = some (some (vo x0)) from rfl) ?_
  refine rz_bipush (v := 57) dX11_init_181 (by decide) (by decide) ?_
  refine ez_wide (mc := 13 + 1) (ms := 9318 + (57 : Int).toNat) (Nat.le_of_ble_eq_true rfl) (by decide +kernel) ?_
  refine rz_newa dX11_init_183 rfl (by decide) k_155 (by decide) (by decide) ?_
  replace hF := nwO_e hF
  replace hF := wrF_e hF
  obtain ⟨fs, hg, hv, hF⟩ := hF
  refine rz_putf dX11_init_185 fl_X11_71 (Or.inr rfl) hg hv ?_
  refine rz_aload_n dX11_init_188 rfl (show _ = some (some (vo x0)) from rfl) ?_
  refine rz_bipush (v := 30) dX11_init_189 (by decide) (by decide) ?_
  refine ez_wide (mc := 12 + 1) (ms := 9288 + (30 : Int).toNat) (Nat.le_of_ble_eq_true rfl) (by decide +kernel) ?_
  refine rz_newa dX11_init_191 rfl (by decide) k_155 (by decide) (by decide) ?_
  replace hF := nwO_e hF
  replace hF := wrF_e hF
  obtain ⟨fs, hg, hv, hF⟩ := hF
  refine rz_putf dX11_init_193 fl_X11_74 (Or.inr rfl) hg hv ?_
  refine rz_aload_n dX11_init_196 rfl (show _ = some (some (vo x0)) from rfl) ?_
  refine rz_bipush (v := 30) dX11_init_197 (by decide) (by decide) ?_
  refine ez_wide (mc := 11 + 1) (ms := 9258 + (30 : Int).toNat) (Nat.le_of_ble_eq_true rfl) (by decide +kernel) ?_
  refine rz_newa dX11_init_199 rfl (by decide) k_155 (by decide) (by decide) ?_
  replace hF := nwO_e hF
  replace hF := wrF_e hF
  obtain ⟨fs, hg, hv, hF⟩ := hF
  refine rz_putf dX11_init_201 fl_X11_77 (Or.inr rfl) hg hv ?_
  refine rz_aload_n dX11_init_204 rfl (show _ = some (some (vo x0)) from rfl) ?_
  refine rz_bipush (v := 30) dX11_init_205 (by decide) (by decide) ?_
  refine ez_wide (mc := 10 + 1) (ms := 9228 + (30 : Int).toNat) (Nat.le_of_ble_eq_true rfl) (by decide +kernel) ?_
  refine rz_newa dX11_init_207 rfl (by decide) k_155 (by decide) (by decide) ?_
  replace hF := nwO_e hF
  replace hF := wrF_e hF
  obtain ⟨fs, hg, hv, hF⟩ := hF
  refine rz_putf dX11_init_209 fl_X11_80 (Or.inr rfl) hg hv ?_
  refine rz_aload_n dX11_init_212 rfl (show _ = some (some (vo x0)) from rfl) ?_
  refine rz_bipush (v := 30) dX11_init_213 (by decide) (by decide) ?_
  refine ez_wide (mc := 9 + 1) (ms := 9198 + (30 : Int).toNat) (Nat.le_of_ble_eq_true rfl) (by decide +kernel) ?_
  refine rz_newa dX11_init_215 rfl (by decide) k_155 (by decide) (by decide) ?_
  replace hF := nwO_e hF
  replace hF := wrF_e hF
  obtain ⟨fs, hg, hv, hF⟩ := hF
  refine rz_putf dX11_init_217 fl_X11_83 (Or.inr rfl) hg hv ?_
  refine rz_aload_n dX11_init_220 rfl (show _ = some (some (vo x0)) from rfl) ?_
  refine rz_bipush (v := 20) dX11_init_221 (by decide) (by decide) ?_
  refine ez_wide (mc := 8 + 1) (ms := 9178 + (20 : Int).toNat) (Nat.le_of_ble_eq_true rfl) (by decide +kernel) ?_
  refine rz_newa dX11_init_223 rfl (by decide) k_155 (by decide) (by decide) ?_
  replace hF := nwO_e hF
  replace hF := wrF_e hF
  obtain ⟨fs, hg, hv, hF⟩ := hF
  refine rz_putf dX11_init_225 fl_X11_86 (Or.inr rfl) hg hv ?_
  refine rz_aload_n dX11_init_228 rfl (show _ = some (some (vo x0)) from rfl) ?_
  refine rz_sipush (v := 240) dX11_init_229 (by decide) (by decide) ?_
  refine ez_wide (mc := 7 + 1) (ms := 8938 + (240 : Int).toNat) (Nat.le_of_ble_eq_true rfl) (by decide +kernel) ?_
  refine rz_newa dX11_init_232 rfl (by decide) k_155 (by decide) (by decide) ?_
  replace hF := nwO_e hF
  replace hF := wrF_e hF
  obtain ⟨fs, hg, hv, hF⟩ := hF
  refine rz_putf dX11_init_234 fl_X11_89 (Or.inr rfl) hg hv ?_
  refine rz_aload_n dX11_init_237 rfl (show _ = some (some (vo x0)) from rfl) ?_
  refine rz_bipush (v := 12) dX11_init_238 (by decide) (by decide) ?_
  refine ez_wide (mc := 6 + 1) (ms := 8926 + (12 : Int).toNat) (Nat.le_of_ble_eq_true rfl) (by decide +kernel) ?_
  refine rz_newa dX11_init_240 rfl (by decide) k_155 (by decide) (by decide) ?_
  replace hF := nwO_e hF
  replace hF := wrF_e hF
  obtain ⟨fs, hg, hv, hF⟩ := hF
  refine rz_putf dX11_init_242 fl_X11_92 (Or.inr rfl) hg hv ?_
  refine rz_aload_n dX11_init_245 rfl (show _ = some (some (vo x0)) from rfl) ?_
  refine rz_bipush (v := 8) dX11_init_246 (by decide) (by decide) ?_
  refine ez_wide (mc := 5 + 1) (ms := 8918 + (8 : Int).toNat) (Nat.le_of_ble_eq_true rfl) (by decide +kernel) ?_
  refine rz_newa dX11_init_248 rfl (by decide) k_155 (by decide) (by decide) ?_
  replace hF := nwO_e hF
  replace hF := wrF_e hF
  obtain ⟨fs, hg, hv, hF⟩ := hF
  refine rz_putf dX11_init_250 fl_X11_95 (Or.inr rfl) hg hv ?_
  refine rz_aload_n dX11_init_253 rfl (show _ = some (some (vo x0)) from rfl) ?_
  refine rz_bipush (v := 96) dX11_init_254 (by decide) (by decide) ?_
  refine ez_wide (mc := 4 + 1) (ms := 8822 + (96 : Int).toNat) (Nat.le_of_ble_eq_true rfl) (by decide +kernel) ?_
  refine rz_newa dX11_init_256 rfl (by decide) k_155 (by decide) (by decide) ?_
  replace hF := nwO_e hF
  replace hF := wrF_e hF
  obtain ⟨fs, hg, hv, hF⟩ := hF
  refine rz_putf dX11_init_258 fl_X11_98 (Or.inr rfl) hg hv ?_
  refine rz_aload_n dX11_init_261 rfl (show _ = some (some (vo x0)) from rfl) ?_
  refine rz_sipush (v := 7619) dX11_init_262 (by decide) (by decide) ?_
  refine ez_wide (mc := 3 + 1) (ms := 1203 + (7619 : Int).toNat) (Nat.le_of_ble_eq_true rfl) (by decide +kernel) ?_
  refine rz_newa dX11_init_265 rfl (by decide) k_155 (by decide) (by decide) ?_
  replace hF := nwO_e hF
  replace hF := wrF_e hF
  obtain ⟨fs, hg, hv, hF⟩ := hF
  refine rz_putf dX11_init_267 fl_X11_101 (Or.inr rfl) hg hv ?_
  refine rz_aload_n dX11_init_270 rfl (show _ = some (some (vo x0)) from rfl) ?_
  refine rz_sipush (v := 401) dX11_init_271 (by decide) (by decide) ?_
  refine ez_wide (mc := 2 + 1) (ms := 802 + (401 : Int).toNat) (Nat.le_of_ble_eq_true rfl) (by decide +kernel) ?_
  refine rz_newa dX11_init_274 rfl (by decide) k_155 (by decide) (by decide) ?_
  replace hF := nwO_e hF
  replace hF := wrF_e hF
  obtain ⟨fs, hg, hv, hF⟩ := hF
  refine rz_putf dX11_init_276 fl_X11_104 (Or.inr rfl) hg hv ?_
  refine rz_aload_n dX11_init_279 rfl (show _ = some (some (vo x0)) from rfl) ?_
  refine rz_sipush (v := 401) dX11_init_280 (by decide) (by decide) ?_
  refine ez_wide (mc := 1 + 1) (ms := 401 + (401 : Int).toNat) (Nat.le_of_ble_eq_true rfl) (by decide +kernel) ?_
  refine rz_newa dX11_init_283 rfl (by decide) k_155 (by decide) (by decide) ?_
  replace hF := nwO_e hF
  replace hF := wrF_e hF
  obtain ⟨fs, hg, hv, hF⟩ := hF
  refine rz_putf dX11_init_285 fl_X11_107 (Or.inr rfl) hg hv ?_
  refine rz_aload_n dX11_init_288 rfl (show _ = some (some (vo x0)) from rfl) ?_
  refine rz_sipush (v := 401) dX11_init_289 (by decide) (by decide) ?_
  refine ez_wide (mc := 0 + 1) (ms := 0 + (401 : Int).toNat) (Nat.le_of_ble_eq_true rfl) (by decide +kernel) ?_
  refine rz_newa dX11_init_292 rfl (by decide) k_155 (by decide) (by decide) ?_
  replace hF := nwO_e hF
  replace hF := wrF_e hF
  obtain ⟨fs, hg, hv, hF⟩ := hF
  refine rz_putf dX11_init_294 fl_X11_110 (Or.inr rfl) hg hv ?_
  exact rz_vret dX11_init_297 trivial hF
theorem vX11_in {G : az_G} {d : Nat} {x0 : Int} {x2 : Int} {x4 : Int} {h : az_H} {Q : Option az_V → az_H → Prop} (hF : (if x0 < x2 then Q (some (vi 0)) h else (if x4 < x0 then Q (some (vi 0)) h else Q (some (vi 1)) h))) : cz G mX11_in d 0 0 [vl x0, vl x2, vl x4] h Q := by
  refine cz_of (ls := [some (vl x0), none, some (vl x2), none, some (vl x4), none]) (by decide +kernel) (Nat.le_of_ble_eq_true rfl) rfl ?_
  refine rz_lload_n dX11_in_0 rfl (show _ = some (some (vl x0)) from rfl) ?_
  refine rz_lload_n dX11_in_1 rfl (show _ = some (some (vl x2)) from rfl) ?_
  refine rz_lcmp dX11_in_2 ?_
  refine rz_if_lt (tgt := 17) dX11_in_3 (by decide) (fun c => ?_) (fun c => ?_)
  · replace hF := ite_t hF (lC_lt.mp c)
    refine rz_iconst dX11_in_17 rfl (by decide) ?_
    exact rz_iret dX11_in_18 (Or.inl rfl) hF
  · replace hF := ite_f hF (fun q => c (lC_lt.mpr q))
    refine rz_lload_n dX11_in_6 rfl (show _ = some (some (vl x0)) from rfl) ?_
    refine rz_lload dX11_in_7 (show _ = some (some (vl x4)) from rfl) ?_
    refine rz_lcmp dX11_in_9 ?_
    refine rz_if_gt (tgt := 17) dX11_in_10 (by decide) (fun c => ?_) (fun c => ?_)
    · replace hF := ite_t hF (lC_gt.mp c)
      refine rz_iconst dX11_in_17 rfl (by decide) ?_
      exact rz_iret dX11_in_18 (Or.inl rfl) hF
    · replace hF := ite_f hF (fun q => c (lC_gt.mpr q))
      refine rz_iconst dX11_in_13 rfl (by decide) ?_
      refine rz_goto (tgt := 18) dX11_in_14 (by decide) ?_
      exact rz_iret dX11_in_18 (Or.inr rfl) hF
theorem vX11_isText {G : az_G} {d : Nat} {x0 : Int} {h : az_H} {Q : Option az_V → az_H → Prop} (hF : cz G mX11_in d 0 0 [vl (bUshr x0 24), vl 32, vl 126] h (fun v h1 => atI v (fun r2 => (if r2 = 0 then Q (some (vi 0)) h1 else cz G mX11_in d 0 0 [vl (bAnd (bUshr x0 16) 255), vl 32, vl 126] h1 (fun v h3 => atI v (fun r4 => (if r4 = 0 then Q (some (vi 0)) h3 else cz G mX11_in d 0 0 [vl (bAnd (bUshr x0 8) 255), vl 32, vl 126] h3 (fun v h5 => atI v (fun r6 => (if r6 = 0 then Q (some (vi 0)) h5 else cz G mX11_in d 0 0 [vl (bAnd x0 255), vl 32, vl 126] h5 (fun v h7 => atI v (fun r8 => (if r8 = 0 then Q (some (vi 0)) h7 else Q (some (vi 1)) h7))))))))))))) : cz G mX11_isText (d + 1) 0 0 [vi x0] h Q := by
  refine cz_of (ls := [some (vi x0)]) (by decide +kernel) (Nat.le_of_ble_eq_true rfl) rfl ?_
  refine rz_iload_n dX11_isText_0 rfl (show _ = some (some (vi x0)) from rfl) ?_
  refine rz_bipush (v := 24) dX11_isText_1 (by decide) (by decide) ?_
  refine rz_iushr dX11_isText_3 ?_
  refine rz_i2l dX11_isText_4 ?_
  refine rz_ldc2 (v := 32) dX11_isText_5 k_1246 (by decide) ?_
  refine rz_ldc2 (v := 126) dX11_isText_8 k_1247 (by decide) ?_
  refine rz_callS (mc' := 0) (ms' := 0) (mc := 0) (ms := 0) (st := []) dX11_isText_11 cS_X11_117 rfl rfl (Nat.le_of_ble_eq_true rfl) hF (fun v h1 hG => ?_)
  clear hF
  revert hG
  intro hF
  replace hF := atI_e hF
  obtain ⟨r2, rfl, hF⟩ := hF
  refine rz_if_eq (tgt := 81) dX11_isText_14 (by decide) (fun c => ?_) (fun c => ?_)
  · replace hF := ite_t hF c
    refine rz_iconst dX11_isText_81 rfl (by decide) ?_
    exact rz_iret dX11_isText_82 (Or.inl rfl) hF
  · replace hF := ite_f hF c
    refine rz_iload_n dX11_isText_17 rfl (show _ = some (some (vi x0)) from rfl) ?_
    refine rz_bipush (v := 16) dX11_isText_18 (by decide) (by decide) ?_
    refine rz_iushr dX11_isText_20 ?_
    refine rz_sipush (v := 255) dX11_isText_21 (by decide) (by decide) ?_
    refine rz_iand dX11_isText_24 ?_
    refine rz_i2l dX11_isText_25 ?_
    refine rz_ldc2 (v := 32) dX11_isText_26 k_1246 (by decide) ?_
    refine rz_ldc2 (v := 126) dX11_isText_29 k_1247 (by decide) ?_
    refine rz_callS (mc' := 0) (ms' := 0) (mc := 0) (ms := 0) (st := []) dX11_isText_32 cS_X11_117 rfl rfl (Nat.le_of_ble_eq_true rfl) hF (fun v h3 hG => ?_)
    clear hF
    revert hG
    intro hF
    replace hF := atI_e hF
    obtain ⟨r4, rfl, hF⟩ := hF
    refine rz_if_eq (tgt := 81) dX11_isText_35 (by decide) (fun c => ?_) (fun c => ?_)
    · replace hF := ite_t hF c
      refine rz_iconst dX11_isText_81 rfl (by decide) ?_
      exact rz_iret dX11_isText_82 (Or.inl rfl) hF
    · replace hF := ite_f hF c
      refine rz_iload_n dX11_isText_38 rfl (show _ = some (some (vi x0)) from rfl) ?_
      refine rz_bipush (v := 8) dX11_isText_39 (by decide) (by decide) ?_
      refine rz_iushr dX11_isText_41 ?_
      refine rz_sipush (v := 255) dX11_isText_42 (by decide) (by decide) ?_
      refine rz_iand dX11_isText_45 ?_
      refine rz_i2l dX11_isText_46 ?_
      refine rz_ldc2 (v := 32) dX11_isText_47 k_1246 (by decide) ?_
      refine rz_ldc2 (v := 126) dX11_isText_50 k_1247 (by decide) ?_
      refine rz_callS (mc' := 0) (ms' := 0) (mc := 0) (ms := 0) (st := []) dX11_isText_53 cS_X11_117 rfl rfl (Nat.le_of_ble_eq_true rfl) hF (fun v h5 hG => ?_)
      clear hF
      revert hG
      intro hF
      replace hF := atI_e hF
      obtain ⟨r6, rfl, hF⟩ := hF
      refine rz_if_eq (tgt := 81) dX11_isText_56 (by decide) (fun c => ?_) (fun c => ?_)
      · replace hF := ite_t hF c
        refine rz_iconst dX11_isText_81 rfl (by decide) ?_
        exact rz_iret dX11_isText_82 (Or.inl rfl) hF
      · replace hF := ite_f hF c
        refine rz_iload_n dX11_isText_59 rfl (show _ = some (some (vi x0)) from rfl) ?_
        refine rz_sipush (v := 255) dX11_isText_60 (by decide) (by decide) ?_
        refine rz_iand dX11_isText_63 ?_
        refine rz_i2l dX11_isText_64 ?_
        refine rz_ldc2 (v := 32) dX11_isText_65 k_1246 (by decide) ?_
        refine rz_ldc2 (v := 126) dX11_isText_68 k_1247 (by decide) ?_
        refine rz_callS (mc' := 0) (ms' := 0) (mc := 0) (ms := 0) (st := []) dX11_isText_71 cS_X11_117 rfl rfl (Nat.le_of_ble_eq_true rfl) hF (fun v h7 hG => ?_)
        clear hF
        revert hG
        intro hF
        replace hF := atI_e hF
        obtain ⟨r8, rfl, hF⟩ := hF
        refine rz_if_eq (tgt := 81) dX11_isText_74 (by decide) (fun c => ?_) (fun c => ?_)
        · replace hF := ite_t hF c
          refine rz_iconst dX11_isText_81 rfl (by decide) ?_
          exact rz_iret dX11_isText_82 (Or.inl rfl) hF
        · replace hF := ite_f hF c
          refine rz_iconst dX11_isText_77 rfl (by decide) ?_
          refine rz_goto (tgt := 82) dX11_isText_78 (by decide) ?_
          exact rz_iret dX11_isText_82 (Or.inr rfl) hF
def pX11_feed_50 (G : az_G) (d : Nat) (x0 : Nat) (x1 : Int) (x2 : Int) (x3 : Int) (x4 : Int) (x5 : Int) (h : az_H) (Q : Option az_V → az_H → Prop) : Prop := ez G mX11_feed (d + 1) 0 0 50 [some (vo x0), some (vi x1), some (vi x2), some (vi x3), some (vi x4), some (vi x5), none] [] h Q
def pX11_feed_91 (G : az_G) (d : Nat) (x0 : Nat) (x1 : Int) (x2 : Int) (x3 : Int) (x4 : Int) (x5 : Int) (s0 : Int) (h : az_H) (Q : Option az_V → az_H → Prop) : Prop := ez G mX11_feed (d + 1) 0 0 91 [some (vo x0), some (vi x1), some (vi x2), some (vi x3), some (vi x4), some (vi x5), none] [vi s0] h Q
theorem vX11_feed_91 {G : az_G} {d : Nat} {x0 : Nat} {x1 : Int} {x2 : Int} {x3 : Int} {x4 : Int} {x5 : Int} {s0 : Int} {h : az_H} {Q : Option az_V → az_H → Prop} (hF : rdO h x0 11 0 (fun o1 => rdI h x0 11 1 (fun f2 => stI h o1 .int (w32 (f2 + x5)) (bAnd (bUshr s0 (w32 (24 - (w32 (8 * (bRem x5 4)))))) 255) (fun h3 => pX11_feed_50 G d x0 x1 x2 x3 x4 (w32 (x5 + 1)) h3 Q)))) : pX11_feed_91 G d x0 x1 x2 x3 x4 x5 s0 h Q := by
  unfold pX11_feed_91
  refine rz_istore (ls' := [some (vo x0), some (vi x1), some (vi x2), some (vi x3), some (vi x4), some (vi x5), some (vi s0)]) dX11_feed_91 (Nat.le_of_ble_eq_true rfl) rfl ?_
  refine rz_aload_n dX11_feed_93 rfl (show _ = some (some (vo x0)) from rfl) ?_
  replace hF := rdO_e hF
  obtain ⟨fs, o1, hg, hv, hF⟩ := hF
  refine rz_getf dX11_feed_94 fl_X11_7 hg hv ?_
  refine rz_aload_n dX11_feed_97 rfl (show _ = some (some (vo x0)) from rfl) ?_
  replace hF := rdI_e hF
  obtain ⟨fs, f2, hg, hv, hF⟩ := hF
  refine rz_getf dX11_feed_98 fl_X11_125 hg hv ?_
  refine rz_iload dX11_feed_101 (show _ = some (some (vi x5)) from rfl) ?_
  refine rz_iadd dX11_feed_103 ?_
  refine rz_iload dX11_feed_104 (show _ = some (some (vi s0)) from rfl) ?_
  refine rz_bipush (v := 24) dX11_feed_106 (by decide) (by decide) ?_
  refine rz_bipush (v := 8) dX11_feed_108 (by decide) (by decide) ?_
  refine rz_iload dX11_feed_110 (show _ = some (some (vi x5)) from rfl) ?_
  refine rz_iconst dX11_feed_112 rfl (by decide) ?_
  refine rz_irem dX11_feed_113 (by decide) ?_
  refine rz_imul dX11_feed_114 ?_
  refine rz_isub dX11_feed_115 ?_
  refine rz_iushr dX11_feed_116 ?_
  refine rz_sipush (v := 255) dX11_feed_117 (by decide) (by decide) ?_
  refine rz_iand dX11_feed_120 ?_
  replace hF := stI_e hF
  obtain ⟨xs, hg, h0, h1, hF⟩ := hF
  refine rz_iast dX11_feed_121 hg h0 h1 ?_
  refine rz_iinc (ls' := [some (vo x0), some (vi x1), some (vi x2), some (vi x3), some (vi x4), some (vi (w32 (x5 + 1))), some (vi s0)]) dX11_feed_122 rfl (Nat.le_of_ble_eq_true rfl) rfl ?_
  refine rz_goto (tgt := 50) dX11_feed_125 (by decide) ?_
  refine ez_kp [true, true, true, true, true, true, false] rfl ?_
  exact hF
theorem vX11_feed_50 {G : az_G} {d : Nat} {x0 : Nat} {x1 : Int} {x2 : Int} {x3 : Int} {x4 : Int} {x5 : Int} {h : az_H} {Q : Option az_V → az_H → Prop} (hF : (if 16 ≤ x5 then rdI h x0 11 1 (fun f1 => wrF h x0 11 1 (.int) (vi (w32 (f1 + 16))) (fun h2 => rdI h2 x0 11 1 (fun f3 => Q (some (vi f3)) h2))) else (if 4 ≤ x5 then (if 8 ≤ x5 then (if 12 ≤ x5 then pX11_feed_91 G d x0 x1 x2 x3 x4 x5 x4 h Q else pX11_feed_91 G d x0 x1 x2 x3 x4 x5 x3 h Q) else pX11_feed_91 G d x0 x1 x2 x3 x4 x5 x2 h Q) else pX11_feed_91 G d x0 x1 x2 x3 x4 x5 x1 h Q))) : pX11_feed_50 G d x0 x1 x2 x3 x4 x5 h Q := by
  unfold pX11_feed_50
  refine rz_iload dX11_feed_50 (show _ = some (some (vi x5)) from rfl) ?_
  refine rz_bipush (v := 16) dX11_feed_52 (by decide) (by decide) ?_
  refine rz_icmp_ge (tgt := 128) dX11_feed_54 (by decide) (fun c => ?_) (fun c => ?_)
  · replace hF := ite_t hF c
    refine rz_aload_n dX11_feed_128 rfl (show _ = some (some (vo x0)) from rfl) ?_
    refine rz_dup dX11_feed_129 (by rintro ⟨_, q⟩; cases q) ?_
    replace hF := rdI_e hF
    obtain ⟨fs, f1, hg, hv, hF⟩ := hF
    refine rz_getf dX11_feed_130 fl_X11_125 hg hv ?_
    refine rz_bipush (v := 16) dX11_feed_133 (by decide) (by decide) ?_
    refine rz_iadd dX11_feed_135 ?_
    replace hF := wrF_e hF
    obtain ⟨fs, hg, hv, hF⟩ := hF
    refine rz_putf dX11_feed_136 fl_X11_125 (Or.inl rfl) hg hv ?_
    refine rz_aload_n dX11_feed_139 rfl (show _ = some (some (vo x0)) from rfl) ?_
    replace hF := rdI_e hF
    obtain ⟨fs, f3, hg, hv, hF⟩ := hF
    refine rz_getf dX11_feed_140 fl_X11_125 hg hv ?_
    exact rz_iret dX11_feed_143 trivial hF
  · replace hF := ite_f hF c
    refine rz_iload dX11_feed_57 (show _ = some (some (vi x5)) from rfl) ?_
    refine rz_iconst dX11_feed_59 rfl (by decide) ?_
    refine rz_icmp_ge (tgt := 67) dX11_feed_60 (by decide) (fun c => ?_) (fun c => ?_)
    · replace hF := ite_t hF c
      refine rz_iload dX11_feed_67 (show _ = some (some (vi x5)) from rfl) ?_
      refine rz_bipush (v := 8) dX11_feed_69 (by decide) (by decide) ?_
      refine rz_icmp_ge (tgt := 78) dX11_feed_71 (by decide) (fun c => ?_) (fun c => ?_)
      · replace hF := ite_t hF c
        refine rz_iload dX11_feed_78 (show _ = some (some (vi x5)) from rfl) ?_
        refine rz_bipush (v := 12) dX11_feed_80 (by decide) (by decide) ?_
        refine rz_icmp_ge (tgt := 89) dX11_feed_82 (by decide) (fun c => ?_) (fun c => ?_)
        · replace hF := ite_t hF c
          refine rz_iload dX11_feed_89 (show _ = some (some (vi x4)) from rfl) ?_
          exact hF
        · replace hF := ite_f hF c
          refine rz_iload_n dX11_feed_85 rfl (show _ = some (some (vi x3)) from rfl) ?_
          refine rz_goto (tgt := 91) dX11_feed_86 (by decide) ?_
          exact hF
      · replace hF := ite_f hF c
        refine rz_iload_n dX11_feed_74 rfl (show _ = some (some (vi x2)) from rfl) ?_
        refine rz_goto (tgt := 91) dX11_feed_75 (by decide) ?_
        exact hF
    · replace hF := ite_f hF c
      refine rz_iload_n dX11_feed_63 rfl (show _ = some (some (vi x1)) from rfl) ?_
      refine rz_goto (tgt := 91) dX11_feed_64 (by decide) ?_
      exact hF
theorem vX11_feed {G : az_G} {d : Nat} {x0 : Nat} {x1 : Int} {x2 : Int} {x3 : Int} {x4 : Int} {h : az_H} {Q : Option az_V → az_H → Prop} (hF : cz G mX11_isText d 0 0 [vi x1] h (fun v h1 => atI v (fun r2 => (if r2 = 0 then Q (some (vi ((-1)))) h1 else cz G mX11_isText d 0 0 [vi x2] h1 (fun v h3 => atI v (fun r4 => (if r4 = 0 then Q (some (vi ((-1)))) h3 else cz G mX11_isText d 0 0 [vi x3] h3 (fun v h5 => atI v (fun r6 => (if r6 = 0 then Q (some (vi ((-1)))) h5 else cz G mX11_isText d 0 0 [vi x4] h5 (fun v h7 => atI v (fun r8 => (if r8 = 0 then Q (some (vi ((-1)))) h7 else rdI h7 x0 11 1 (fun f9 => (if w32 (f9 + 16) ≤ 208 then pX11_feed_50 G d x0 x1 x2 x3 x4 0 h7 Q else Q (some (vi ((-3)))) h7))))))))))))))) : cz G mX11_feed (d + 1) 0 0 [vo x0, vi x1, vi x2, vi x3, vi x4] h Q := by
  refine cz_of (ls := [some (vo x0), some (vi x1), some (vi x2), some (vi x3), some (vi x4), none, none]) (by decide +kernel) (Nat.le_of_ble_eq_true rfl) rfl ?_
  refine rz_iload_n dX11_feed_0 rfl (show _ = some (some (vi x1)) from rfl) ?_
  refine rz_callS (mc' := 0) (ms' := 0) (mc := 0) (ms := 0) (st := []) dX11_feed_1 cS_X11_121 rfl rfl (Nat.le_of_ble_eq_true rfl) hF (fun v h1 hG => ?_)
  clear hF
  revert hG
  intro hF
  replace hF := atI_e hF
  obtain ⟨r2, rfl, hF⟩ := hF
  refine rz_if_eq (tgt := 29) dX11_feed_4 (by decide) (fun c => ?_) (fun c => ?_)
  · replace hF := ite_t hF c
    refine rz_iconst dX11_feed_29 rfl (by decide) ?_
    exact rz_iret dX11_feed_30 trivial hF
  · replace hF := ite_f hF c
    refine rz_iload_n dX11_feed_7 rfl (show _ = some (some (vi x2)) from rfl) ?_
    refine rz_callS (mc' := 0) (ms' := 0) (mc := 0) (ms := 0) (st := []) dX11_feed_8 cS_X11_121 rfl rfl (Nat.le_of_ble_eq_true rfl) hF (fun v h3 hG => ?_)
    clear hF
    revert hG
    intro hF
    replace hF := atI_e hF
    obtain ⟨r4, rfl, hF⟩ := hF
    refine rz_if_eq (tgt := 29) dX11_feed_11 (by decide) (fun c => ?_) (fun c => ?_)
    · replace hF := ite_t hF c
      refine rz_iconst dX11_feed_29 rfl (by decide) ?_
      exact rz_iret dX11_feed_30 trivial hF
    · replace hF := ite_f hF c
      refine rz_iload_n dX11_feed_14 rfl (show _ = some (some (vi x3)) from rfl) ?_
      refine rz_callS (mc' := 0) (ms' := 0) (mc := 0) (ms := 0) (st := []) dX11_feed_15 cS_X11_121 rfl rfl (Nat.le_of_ble_eq_true rfl) hF (fun v h5 hG => ?_)
      clear hF
      revert hG
      intro hF
      replace hF := atI_e hF
      obtain ⟨r6, rfl, hF⟩ := hF
      refine rz_if_eq (tgt := 29) dX11_feed_18 (by decide) (fun c => ?_) (fun c => ?_)
      · replace hF := ite_t hF c
        refine rz_iconst dX11_feed_29 rfl (by decide) ?_
        exact rz_iret dX11_feed_30 trivial hF
      · replace hF := ite_f hF c
        refine rz_iload dX11_feed_21 (show _ = some (some (vi x4)) from rfl) ?_
        refine rz_callS (mc' := 0) (ms' := 0) (mc := 0) (ms := 0) (st := []) dX11_feed_23 cS_X11_121 rfl rfl (Nat.le_of_ble_eq_true rfl) hF (fun v h7 hG => ?_)
        clear hF
        revert hG
        intro hF
        replace hF := atI_e hF
        obtain ⟨r8, rfl, hF⟩ := hF
        refine rz_if_ne (tgt := 31) dX11_feed_26 (by decide) (fun c => ?_) (fun c => ?_)
        · replace hF := ite_f hF c
          refine rz_aload_n dX11_feed_31 rfl (show _ = some (some (vo x0)) from rfl) ?_
          replace hF := rdI_e hF
          obtain ⟨fs, f9, hg, hv, hF⟩ := hF
          refine rz_getf dX11_feed_32 fl_X11_125 hg hv ?_
          refine rz_bipush (v := 16) dX11_feed_35 (by decide) (by decide) ?_
          refine rz_iadd dX11_feed_37 ?_
          refine rz_sipush (v := 208) dX11_feed_38 (by decide) (by decide) ?_
          refine rz_icmp_le (tgt := 47) dX11_feed_41 (by decide) (fun c => ?_) (fun c => ?_)
          · replace hF := ite_t hF c
            refine rz_iconst dX11_feed_47 rfl (by decide) ?_
            refine rz_istore (ls' := [some (vo x0), some (vi x1), some (vi x2), some (vi x3), some (vi x4), some (vi 0), none]) dX11_feed_48 (Nat.le_of_ble_eq_true rfl) rfl ?_
            exact hF
          · replace hF := ite_f hF c
            refine rz_bipush (v := (-3)) dX11_feed_44 (by decide) (by decide) ?_
            exact rz_iret dX11_feed_46 trivial hF
        · replace hF := ite_t hF c
          refine rz_iconst dX11_feed_29 rfl (by decide) ?_
          exact rz_iret dX11_feed_30 trivial hF
theorem vX11_cut {G : az_G} {d : Nat} {x0 : Nat} {x1 : Int} {h : az_H} {Q : Option az_V → az_H → Prop} (hF : rdI h x0 11 1 (fun f1 => cz G mX11_in d 0 0 [vl x1, vl 0, vl f1] h (fun v h2 => atI v (fun r3 => (if r3 = 0 then Q (some (vi ((-1)))) h2 else rdI h2 x0 11 1 (fun f4 => wrF h2 x0 11 1 (.int) (vi (w32 (f4 - x1))) (fun h5 => rdI h5 x0 11 1 (fun f6 => Q (some (vi f6)) h5)))))))) : cz G mX11_cut (d + 1) 0 0 [vo x0, vi x1] h Q := by
  refine cz_of (ls := [some (vo x0), some (vi x1)]) (by decide +kernel) (Nat.le_of_ble_eq_true rfl) rfl ?_
  refine rz_iload_n dX11_cut_0 rfl (show _ = some (some (vi x1)) from rfl) ?_
  refine rz_i2l dX11_cut_1 ?_
  refine rz_lconst (v := 0) dX11_cut_2 (by decide) (by decide) ?_
  refine rz_aload_n dX11_cut_3 rfl (show _ = some (some (vo x0)) from rfl) ?_
  replace hF := rdI_e hF
  obtain ⟨fs, f1, hg, hv, hF⟩ := hF
  refine rz_getf dX11_cut_4 fl_X11_125 hg hv ?_
  refine rz_i2l dX11_cut_7 ?_
  refine rz_callS (mc' := 0) (ms' := 0) (mc := 0) (ms := 0) (st := []) dX11_cut_8 cS_X11_117 rfl rfl (Nat.le_of_ble_eq_true rfl) hF (fun v h2 hG => ?_)
  clear hF
  revert hG
  intro hF
  replace hF := atI_e hF
  obtain ⟨r3, rfl, hF⟩ := hF
  refine rz_if_ne (tgt := 16) dX11_cut_11 (by decide) (fun c => ?_) (fun c => ?_)
  · replace hF := ite_f hF c
    refine rz_aload_n dX11_cut_16 rfl (show _ = some (some (vo x0)) from rfl) ?_
    refine rz_dup dX11_cut_17 (by rintro ⟨_, q⟩; cases q) ?_
    replace hF := rdI_e hF
    obtain ⟨fs, f4, hg, hv, hF⟩ := hF
    refine rz_getf dX11_cut_18 fl_X11_125 hg hv ?_
    refine rz_iload_n dX11_cut_21 rfl (show _ = some (some (vi x1)) from rfl) ?_
    refine rz_isub dX11_cut_22 ?_
    replace hF := wrF_e hF
    obtain ⟨fs, hg, hv, hF⟩ := hF
    refine rz_putf dX11_cut_23 fl_X11_125 (Or.inl rfl) hg hv ?_
    refine rz_aload_n dX11_cut_26 rfl (show _ = some (some (vo x0)) from rfl) ?_
    replace hF := rdI_e hF
    obtain ⟨fs, f6, hg, hv, hF⟩ := hF
    refine rz_getf dX11_cut_27 fl_X11_125 hg hv ?_
    exact rz_iret dX11_cut_30 trivial hF
  · replace hF := ite_t hF c
    refine rz_iconst dX11_cut_14 rfl (by decide) ?_
    exact rz_iret dX11_cut_15 trivial hF
theorem vX11_at {G : az_G} {d : Nat} {x0 : Nat} {x1 : Int} {h : az_H} {Q : Option az_V → az_H → Prop} (hF : rdI h x0 11 1 (fun f1 => (if f1 ≤ x1 then Q (some (vi 0)) h else rdO h x0 11 0 (fun o2 => ldI h o2 (.int) x1 (fun e3 => Q (some (vi e3)) h))))) : cz G mX11_at d 0 0 [vo x0, vi x1] h Q := by
  refine cz_of (ls := [some (vo x0), some (vi x1)]) (by decide +kernel) (Nat.le_of_ble_eq_true rfl) rfl ?_
  refine rz_iload_n dX11_at_0 rfl (show _ = some (some (vi x1)) from rfl) ?_
  refine rz_aload_n dX11_at_1 rfl (show _ = some (some (vo x0)) from rfl) ?_
  replace hF := rdI_e hF
  obtain ⟨fs, f1, hg, hv, hF⟩ := hF
  refine rz_getf dX11_at_2 fl_X11_125 hg hv ?_
  refine rz_icmp_ge (tgt := 17) dX11_at_5 (by decide) (fun c => ?_) (fun c => ?_)
  · replace hF := ite_t hF c
    refine rz_iconst dX11_at_17 rfl (by decide) ?_
    exact rz_iret dX11_at_18 trivial hF
  · replace hF := ite_f hF c
    refine rz_aload_n dX11_at_8 rfl (show _ = some (some (vo x0)) from rfl) ?_
    replace hF := rdO_e hF
    obtain ⟨fs, o2, hg, hv, hF⟩ := hF
    refine rz_getf dX11_at_9 fl_X11_7 hg hv ?_
    refine rz_iload_n dX11_at_12 rfl (show _ = some (some (vi x1)) from rfl) ?_
    replace hF := ldI_e hF
    obtain ⟨xs, hg, h0, h1, hF⟩ := hF
    refine rz_iald dX11_at_13 hg h0 h1 ?_
    generalize xs.getD _ 0 = e3 at hF ⊢
    refine rz_goto (tgt := 18) dX11_at_14 (by decide) ?_
    exact rz_iret dX11_at_18 trivial hF
theorem vX11_isLetter {G : az_G} {d : Nat} {x0 : Int} {h : az_H} {Q : Option az_V → az_H → Prop} (hF : cz G mX11_in d 0 0 [vl x0, vl 97, vl 122] h (fun v h1 => atI v (fun r2 => (if r2 = 0 then cz G mX11_in d 0 0 [vl x0, vl 65, vl 90] h1 (fun v h3 => atI v (fun r4 => (if r4 = 0 then Q (some (vi 0)) h3 else Q (some (vi 1)) h3))) else Q (some (vi 1)) h1)))) : cz G mX11_isLetter (d + 1) 0 0 [vi x0] h Q := by
  refine cz_of (ls := [some (vi x0)]) (by decide +kernel) (Nat.le_of_ble_eq_true rfl) rfl ?_
  refine rz_iload_n dX11_isLetter_0 rfl (show _ = some (some (vi x0)) from rfl) ?_
  refine rz_i2l dX11_isLetter_1 ?_
  refine rz_ldc2 (v := 97) dX11_isLetter_2 k_1275 (by decide) ?_
  refine rz_ldc2 (v := 122) dX11_isLetter_5 k_1276 (by decide) ?_
  refine rz_callS (mc' := 0) (ms' := 0) (mc := 0) (ms := 0) (st := []) dX11_isLetter_8 cS_X11_117 rfl rfl (Nat.le_of_ble_eq_true rfl) hF (fun v h1 hG => ?_)
  clear hF
  revert hG
  intro hF
  replace hF := atI_e hF
  obtain ⟨r2, rfl, hF⟩ := hF
  refine rz_if_ne (tgt := 28) dX11_isLetter_11 (by decide) (fun c => ?_) (fun c => ?_)
  · replace hF := ite_f hF c
    refine rz_iconst dX11_isLetter_28 rfl (by decide) ?_
    refine rz_goto (tgt := 33) dX11_isLetter_29 (by decide) ?_
    exact rz_iret dX11_isLetter_33 (Or.inr rfl) hF
  · replace hF := ite_t hF c
    refine rz_iload_n dX11_isLetter_14 rfl (show _ = some (some (vi x0)) from rfl) ?_
    refine rz_i2l dX11_isLetter_15 ?_
    refine rz_ldc2 (v := 65) dX11_isLetter_16 k_1277 (by decide) ?_
    refine rz_ldc2 (v := 90) dX11_isLetter_19 k_1278 (by decide) ?_
    refine rz_callS (mc' := 0) (ms' := 0) (mc := 0) (ms := 0) (st := []) dX11_isLetter_22 cS_X11_117 rfl rfl (Nat.le_of_ble_eq_true rfl) hF (fun v h3 hG => ?_)
    clear hF
    revert hG
    intro hF
    replace hF := atI_e hF
    obtain ⟨r4, rfl, hF⟩ := hF
    refine rz_if_eq (tgt := 32) dX11_isLetter_25 (by decide) (fun c => ?_) (fun c => ?_)
    · replace hF := ite_t hF c
      refine rz_iconst dX11_isLetter_32 rfl (by decide) ?_
      exact rz_iret dX11_isLetter_33 (Or.inl rfl) hF
    · replace hF := ite_f hF c
      refine rz_iconst dX11_isLetter_28 rfl (by decide) ?_
      refine rz_goto (tgt := 33) dX11_isLetter_29 (by decide) ?_
      exact rz_iret dX11_isLetter_33 (Or.inr rfl) hF
theorem vX11_isFigure {G : az_G} {d : Nat} {x0 : Int} {h : az_H} {Q : Option az_V → az_H → Prop} (hF : cz G mX11_in d 0 0 [vl x0, vl 48, vl 57] h (fun v h1 => atI v (fun r2 => (az_fit (.boolean) (vi r2) ∧ Q (some (vi r2)) h1)))) : cz G mX11_isFigure (d + 1) 0 0 [vi x0] h Q := by
  refine cz_of (ls := [some (vi x0)]) (by decide +kernel) (Nat.le_of_ble_eq_true rfl) rfl ?_
  refine rz_iload_n dX11_isFigure_0 rfl (show _ = some (some (vi x0)) from rfl) ?_
  refine rz_i2l dX11_isFigure_1 ?_
  refine rz_ldc2 (v := 48) dX11_isFigure_2 k_1282 (by decide) ?_
  refine rz_ldc2 (v := 57) dX11_isFigure_5 k_1283 (by decide) ?_
  refine rz_callS (mc' := 0) (ms' := 0) (mc := 0) (ms := 0) (st := []) dX11_isFigure_8 cS_X11_117 rfl rfl (Nat.le_of_ble_eq_true rfl) hF (fun v h1 hG => ?_)
  clear hF
  revert hG
  intro hF
  replace hF := atI_e hF
  obtain ⟨r2, rfl, hF⟩ := hF
  exact rz_iret dX11_isFigure_11 hF.1 hF.2
def pX11_next_0 (G : az_G) (d : Nat) (x0 : Nat) (h : az_H) (Q : Option az_V → az_H → Prop) : Prop := ez G mX11_next (d + 1) 0 0 0 [some (vo x0), none, none] [] h Q
def pX11_next_69 (G : az_G) (d : Nat) (x0 : Nat) (h : az_H) (Q : Option az_V → az_H → Prop) : Prop := ez G mX11_next (d + 1) 0 0 69 [some (vo x0), none, none] [] h Q
def pX11_next_96 (G : az_G) (d : Nat) (x0 : Nat) (h : az_H) (Q : Option az_V → az_H → Prop) : Prop := ez G mX11_next (d + 1) 0 0 96 [some (vo x0), none, none] [] h Q
def pX11_next_138 (G : az_G) (d : Nat) (x0 : Nat) (x2 : Int) (h : az_H) (Q : Option az_V → az_H → Prop) : Prop := ez G mX11_next (d + 1) 0 0 138 [some (vo x0), none, some (vi x2)] [] h Q
def pX11_next_202 (G : az_G) (d : Nat) (x0 : Nat) (h : az_H) (Q : Option az_V → az_H → Prop) : Prop := ez G mX11_next (d + 1) 0 0 202 [some (vo x0), none, none] [] h Q
theorem vX11_next_202 {G : az_G} {d : Nat} {x0 : Nat} {h : az_H} {Q : Option az_V → az_H → Prop} (hF : rdI h x0 11 4 (fun f1 => rcv h x0 11 (cz G mX11_at d 0 0 [vo x0, vi f1] h (fun v h2 => atI v (fun r3 => cz G mX11_isFigure d 0 0 [vi r3] h2 (fun v h4 => atI v (fun r5 => (if r5 = 0 then rdI h4 x0 11 4 (fun f6 => rdI h4 x0 11 3 (fun f7 => (if w32 (f6 - f7) ≤ 9 then wrF h4 x0 11 2 (.int) (vi 2) (fun h8 => Q none h8) else wrF h4 x0 11 2 (.int) (vi 3) (fun h9 => Q none h9)))) else rdI h4 x0 11 4 (fun f10 => rdI h4 x0 11 3 (fun f11 => (if 9 ≤ w32 (f10 - f11) then rdI h4 x0 11 6 (fun f12 => wrF h4 x0 11 6 (.int) (vi f12) (fun h13 => rdI h13 x0 11 4 (fun f14 => wrF h13 x0 11 4 (.int) (vi (w32 (f14 + 1))) (fun h15 => pX11_next_202 G d x0 h15 Q)))) else rdI h4 x0 11 6 (fun f16 => rdI h4 x0 11 4 (fun f17 => rcv h4 x0 11 (cz G mX11_at d 0 0 [vo x0, vi f17] h4 (fun v h18 => atI v (fun r19 => wrF h18 x0 11 6 (.int) (vi (w32 ((w32 ((w32 (10 * f16)) + r19)) - 48))) (fun h20 => rdI h20 x0 11 4 (fun f21 => wrF h20 x0 11 4 (.int) (vi (w32 (f21 + 1))) (fun h22 => pX11_next_202 G d x0 h22 Q))))))))))))))))))) : pX11_next_202 G d x0 h Q := by
  unfold pX11_next_202
  refine rz_aload_n dX11_next_202 rfl (show _ = some (some (vo x0)) from rfl) ?_
  refine rz_aload_n dX11_next_203 rfl (show _ = some (some (vo x0)) from rfl) ?_
  replace hF := rdI_e hF
  obtain ⟨fs, f1, hg, hv, hF⟩ := hF
  refine rz_getf dX11_next_204 fl_X11_141 hg hv ?_
  replace hF := rcv_e hF
  obtain ⟨fs, hg, hF⟩ := hF
  refine rz_callV (mc' := 0) (ms' := 0) (mc := 0) (ms := 0) (st := []) dX11_next_207 cV_X11_144 rfl hg ⟨_, _, rfl⟩ rfl (Nat.le_of_ble_eq_true rfl) hF (fun v h2 hG => ?_)
  clear hF
  revert hG
  intro hF
  replace hF := atI_e hF
  obtain ⟨r3, rfl, hF⟩ := hF
  refine rz_callS (mc' := 0) (ms' := 0) (mc := 0) (ms := 0) (st := []) dX11_next_210 cS_X11_157 rfl rfl (Nat.le_of_ble_eq_true rfl) hF (fun v h4 hG => ?_)
  clear hF
  revert hG
  intro hF
  replace hF := atI_e hF
  obtain ⟨r5, rfl, hF⟩ := hF
  refine rz_if_eq (tgt := 273) dX11_next_213 (by decide) (fun c => ?_) (fun c => ?_)
  · replace hF := ite_t hF c
    refine rz_aload_n dX11_next_273 rfl (show _ = some (some (vo x0)) from rfl) ?_
    refine rz_aload_n dX11_next_274 rfl (show _ = some (some (vo x0)) from rfl) ?_
    replace hF := rdI_e hF
    obtain ⟨fs, f6, hg, hv, hF⟩ := hF
    refine rz_getf dX11_next_275 fl_X11_141 hg hv ?_
    refine rz_aload_n dX11_next_278 rfl (show _ = some (some (vo x0)) from rfl) ?_
    replace hF := rdI_e hF
    obtain ⟨fs, f7, hg, hv, hF⟩ := hF
    refine rz_getf dX11_next_279 fl_X11_148 hg hv ?_
    refine rz_isub dX11_next_282 ?_
    refine rz_bipush (v := 9) dX11_next_283 (by decide) (by decide) ?_
    refine rz_icmp_le (tgt := 292) dX11_next_285 (by decide) (fun c => ?_) (fun c => ?_)
    · replace hF := ite_t hF c
      refine rz_iconst dX11_next_292 rfl (by decide) ?_
      replace hF := wrF_e hF
      obtain ⟨fs, hg, hv, hF⟩ := hF
      refine rz_putf dX11_next_293 fl_X11_151 (Or.inl rfl) hg hv ?_
      refine rz_goto (tgt := 412) dX11_next_296 (by decide) ?_
      exact rz_vret dX11_next_412 trivial hF
    · replace hF := ite_f hF c
      refine rz_iconst dX11_next_288 rfl (by decide) ?_
      refine rz_goto (tgt := 293) dX11_next_289 (by decide) ?_
      replace hF := wrF_e hF
      obtain ⟨fs, hg, hv, hF⟩ := hF
      refine rz_putf dX11_next_293 fl_X11_151 (Or.inl rfl) hg hv ?_
      refine rz_goto (tgt := 412) dX11_next_296 (by decide) ?_
      exact rz_vret dX11_next_412 trivial hF
  · replace hF := ite_f hF c
    refine rz_aload_n dX11_next_216 rfl (show _ = some (some (vo x0)) from rfl) ?_
    refine rz_aload_n dX11_next_217 rfl (show _ = some (some (vo x0)) from rfl) ?_
    replace hF := rdI_e hF
    obtain ⟨fs, f10, hg, hv, hF⟩ := hF
    refine rz_getf dX11_next_218 fl_X11_141 hg hv ?_
    refine rz_aload_n dX11_next_221 rfl (show _ = some (some (vo x0)) from rfl) ?_
    replace hF := rdI_e hF
    obtain ⟨fs, f11, hg, hv, hF⟩ := hF
    refine rz_getf dX11_next_222 fl_X11_148 hg hv ?_
    refine rz_isub dX11_next_225 ?_
    refine rz_bipush (v := 9) dX11_next_226 (by decide) (by decide) ?_
    refine rz_icmp_ge (tgt := 253) dX11_next_228 (by decide) (fun c => ?_) (fun c => ?_)
    · replace hF := ite_t hF c
      refine rz_aload_n dX11_next_253 rfl (show _ = some (some (vo x0)) from rfl) ?_
      replace hF := rdI_e hF
      obtain ⟨fs, f12, hg, hv, hF⟩ := hF
      refine rz_getf dX11_next_254 fl_X11_163 hg hv ?_
      replace hF := wrF_e hF
      obtain ⟨fs, hg, hv, hF⟩ := hF
      refine rz_putf dX11_next_257 fl_X11_163 (Or.inl rfl) hg hv ?_
      refine rz_aload_n dX11_next_260 rfl (show _ = some (some (vo x0)) from rfl) ?_
      refine rz_dup dX11_next_261 (by rintro ⟨_, q⟩; cases q) ?_
      replace hF := rdI_e hF
      obtain ⟨fs, f14, hg, hv, hF⟩ := hF
      refine rz_getf dX11_next_262 fl_X11_141 hg hv ?_
      refine rz_iconst dX11_next_265 rfl (by decide) ?_
      refine rz_iadd dX11_next_266 ?_
      replace hF := wrF_e hF
      obtain ⟨fs, hg, hv, hF⟩ := hF
      refine rz_putf dX11_next_267 fl_X11_141 (Or.inl rfl) hg hv ?_
      refine rz_goto (tgt := 202) dX11_next_270 (by decide) ?_
      exact hF
    · replace hF := ite_f hF c
      refine rz_bipush (v := 10) dX11_next_231 (by decide) (by decide) ?_
      refine rz_aload_n dX11_next_233 rfl (show _ = some (some (vo x0)) from rfl) ?_
      replace hF := rdI_e hF
      obtain ⟨fs, f16, hg, hv, hF⟩ := hF
      refine rz_getf dX11_next_234 fl_X11_163 hg hv ?_
      refine rz_imul dX11_next_237 ?_
      refine rz_aload_n dX11_next_238 rfl (show _ = some (some (vo x0)) from rfl) ?_
      refine rz_aload_n dX11_next_239 rfl (show _ = some (some (vo x0)) from rfl) ?_
      replace hF := rdI_e hF
      obtain ⟨fs, f17, hg, hv, hF⟩ := hF
      refine rz_getf dX11_next_240 fl_X11_141 hg hv ?_
      replace hF := rcv_e hF
      obtain ⟨fs, hg, hF⟩ := hF
      refine rz_callV (mc' := 0) (ms' := 0) (mc := 0) (ms := 0) (st := [vi (w32 (10 * f16)), vo x0]) dX11_next_243 cV_X11_144 rfl hg ⟨_, _, rfl⟩ rfl (Nat.le_of_ble_eq_true rfl) hF (fun v h18 hG => ?_)
      clear hF
      revert hG
      intro hF
      replace hF := atI_e hF
      obtain ⟨r19, rfl, hF⟩ := hF
      refine rz_iadd dX11_next_246 ?_
      refine rz_bipush (v := 48) dX11_next_247 (by decide) (by decide) ?_
      refine rz_isub dX11_next_249 ?_
      refine rz_goto (tgt := 257) dX11_next_250 (by decide) ?_
      replace hF := wrF_e hF
      obtain ⟨fs, hg, hv, hF⟩ := hF
      refine rz_putf dX11_next_257 fl_X11_163 (Or.inl rfl) hg hv ?_
      refine rz_aload_n dX11_next_260 rfl (show _ = some (some (vo x0)) from rfl) ?_
      refine rz_dup dX11_next_261 (by rintro ⟨_, q⟩; cases q) ?_
      replace hF := rdI_e hF
      obtain ⟨fs, f21, hg, hv, hF⟩ := hF
      refine rz_getf dX11_next_262 fl_X11_141 hg hv ?_
      refine rz_iconst dX11_next_265 rfl (by decide) ?_
      refine rz_iadd dX11_next_266 ?_
      replace hF := wrF_e hF
      obtain ⟨fs, hg, hv, hF⟩ := hF
      refine rz_putf dX11_next_267 fl_X11_141 (Or.inl rfl) hg hv ?_
      refine rz_goto (tgt := 202) dX11_next_270 (by decide) ?_
      exact hF
theorem vX11_next_138 {G : az_G} {d : Nat} {x0 : Nat} {x2 : Int} {h : az_H} {Q : Option az_V → az_H → Prop} (hF : rdI h x0 11 4 (fun f1 => (if f1 ≤ x2 then Q none h else rdI h x0 11 4 (fun f2 => rdI h x0 11 3 (fun f3 => (if w32 (f2 - f3) ≤ 4 then rdI h x0 11 5 (fun f4 => rdO h x0 11 0 (fun o5 => ldI h o5 (.int) x2 (fun e6 => wrF h x0 11 5 (.int) (vi (bOr (bShl f4 8) e6)) (fun h7 => pX11_next_138 G d x0 (w32 (x2 + 1)) h7 Q)))) else wrF h x0 11 5 (.int) (vi ((-1))) (fun h8 => pX11_next_138 G d x0 (w32 (x2 + 1)) h8 Q))))))) : pX11_next_138 G d x0 x2 h Q := by
  unfold pX11_next_138
  refine rz_iload_n dX11_next_138 rfl (show _ = some (some (vi x2)) from rfl) ?_
  refine rz_aload_n dX11_next_139 rfl (show _ = some (some (vo x0)) from rfl) ?_
  replace hF := rdI_e hF
  obtain ⟨fs, f1, hg, hv, hF⟩ := hF
  refine rz_getf dX11_next_140 fl_X11_141 hg hv ?_
  refine rz_icmp_ge (tgt := 187) dX11_next_143 (by decide) (fun c => ?_) (fun c => ?_)
  · replace hF := ite_t hF c
    refine rz_goto (tgt := 412) dX11_next_187 (by decide) ?_
    exact rz_vret dX11_next_412 trivial hF
  · replace hF := ite_f hF c
    refine rz_aload_n dX11_next_146 rfl (show _ = some (some (vo x0)) from rfl) ?_
    refine rz_aload_n dX11_next_147 rfl (show _ = some (some (vo x0)) from rfl) ?_
    replace hF := rdI_e hF
    obtain ⟨fs, f2, hg, hv, hF⟩ := hF
    refine rz_getf dX11_next_148 fl_X11_141 hg hv ?_
    refine rz_aload_n dX11_next_151 rfl (show _ = some (some (vo x0)) from rfl) ?_
    replace hF := rdI_e hF
    obtain ⟨fs, f3, hg, hv, hF⟩ := hF
    refine rz_getf dX11_next_152 fl_X11_148 hg hv ?_
    refine rz_isub dX11_next_155 ?_
    refine rz_iconst dX11_next_156 rfl (by decide) ?_
    refine rz_icmp_le (tgt := 164) dX11_next_157 (by decide) (fun c => ?_) (fun c => ?_)
    · replace hF := ite_t hF c
      refine rz_aload_n dX11_next_164 rfl (show _ = some (some (vo x0)) from rfl) ?_
      replace hF := rdI_e hF
      obtain ⟨fs, f4, hg, hv, hF⟩ := hF
      refine rz_getf dX11_next_165 fl_X11_160 hg hv ?_
      refine rz_bipush (v := 8) dX11_next_168 (by decide) (by decide) ?_
      refine rz_ishl dX11_next_170 ?_
      refine rz_aload_n dX11_next_171 rfl (show _ = some (some (vo x0)) from rfl) ?_
      replace hF := rdO_e hF
      obtain ⟨fs, o5, hg, hv, hF⟩ := hF
      refine rz_getf dX11_next_172 fl_X11_7 hg hv ?_
      refine rz_iload_n dX11_next_175 rfl (show _ = some (some (vi x2)) from rfl) ?_
      replace hF := ldI_e hF
      obtain ⟨xs, hg, h0, h1, hF⟩ := hF
      refine rz_iald dX11_next_176 hg h0 h1 ?_
      generalize xs.getD _ 0 = e6 at hF ⊢
      refine rz_ior dX11_next_177 ?_
      replace hF := wrF_e hF
      obtain ⟨fs, hg, hv, hF⟩ := hF
      refine rz_putf dX11_next_178 fl_X11_160 (Or.inl rfl) hg hv ?_
      refine rz_iinc (ls' := [some (vo x0), none, some (vi (w32 (x2 + 1)))]) dX11_next_181 rfl (Nat.le_of_ble_eq_true rfl) rfl ?_
      refine rz_goto (tgt := 138) dX11_next_184 (by decide) ?_
      exact hF
    · replace hF := ite_f hF c
      refine rz_iconst dX11_next_160 rfl (by decide) ?_
      refine rz_goto (tgt := 178) dX11_next_161 (by decide) ?_
      replace hF := wrF_e hF
      obtain ⟨fs, hg, hv, hF⟩ := hF
      refine rz_putf dX11_next_178 fl_X11_160 (Or.inl rfl) hg hv ?_
      refine rz_iinc (ls' := [some (vo x0), none, some (vi (w32 (x2 + 1)))]) dX11_next_181 rfl (Nat.le_of_ble_eq_true rfl) rfl ?_
      refine rz_goto (tgt := 138) dX11_next_184 (by decide) ?_
      exact hF
theorem vX11_next_96 {G : az_G} {d : Nat} {x0 : Nat} {h : az_H} {Q : Option az_V → az_H → Prop} (hF : rdI h x0 11 4 (fun f1 => rcv h x0 11 (cz G mX11_at d 0 0 [vo x0, vi f1] h (fun v h2 => atI v (fun r3 => cz G mX11_isFigure d 0 0 [vi r3] h2 (fun v h4 => atI v (fun r5 => (if r5 = 0 then wrF h4 x0 11 2 (.int) (vi 1) (fun h6 => wrF h6 x0 11 5 (.int) (vi 0) (fun h7 => rdI h7 x0 11 3 (fun f8 => pX11_next_138 G d x0 f8 h7 Q))) else rdI h4 x0 11 4 (fun f9 => wrF h4 x0 11 4 (.int) (vi (w32 (f9 + 1))) (fun h10 => pX11_next_96 G d x0 h10 Q)))))))))) : pX11_next_96 G d x0 h Q := by
  unfold pX11_next_96
  refine rz_aload_n dX11_next_96 rfl (show _ = some (some (vo x0)) from rfl) ?_
  refine rz_aload_n dX11_next_97 rfl (show _ = some (some (vo x0)) from rfl) ?_
  replace hF := rdI_e hF
  obtain ⟨fs, f1, hg, hv, hF⟩ := hF
  refine rz_getf dX11_next_98 fl_X11_141 hg hv ?_
  replace hF := rcv_e hF
  obtain ⟨fs, hg, hF⟩ := hF
  refine rz_callV (mc' := 0) (ms' := 0) (mc := 0) (ms := 0) (st := []) dX11_next_101 cV_X11_144 rfl hg ⟨_, _, rfl⟩ rfl (Nat.le_of_ble_eq_true rfl) hF (fun v h2 hG => ?_)
  clear hF
  revert hG
  intro hF
  replace hF := atI_e hF
  obtain ⟨r3, rfl, hF⟩ := hF
  refine rz_callS (mc' := 0) (ms' := 0) (mc := 0) (ms := 0) (st := []) dX11_next_104 cS_X11_157 rfl rfl (Nat.le_of_ble_eq_true rfl) hF (fun v h4 hG => ?_)
  clear hF
  revert hG
  intro hF
  replace hF := atI_e hF
  obtain ⟨r5, rfl, hF⟩ := hF
  refine rz_if_eq (tgt := 123) dX11_next_107 (by decide) (fun c => ?_) (fun c => ?_)
  · replace hF := ite_t hF c
    refine rz_aload_n dX11_next_123 rfl (show _ = some (some (vo x0)) from rfl) ?_
    refine rz_iconst dX11_next_124 rfl (by decide) ?_
    replace hF := wrF_e hF
    obtain ⟨fs, hg, hv, hF⟩ := hF
    refine rz_putf dX11_next_125 fl_X11_151 (Or.inl rfl) hg hv ?_
    refine rz_aload_n dX11_next_128 rfl (show _ = some (some (vo x0)) from rfl) ?_
    refine rz_iconst dX11_next_129 rfl (by decide) ?_
    replace hF := wrF_e hF
    obtain ⟨fs, hg, hv, hF⟩ := hF
    refine rz_putf dX11_next_130 fl_X11_160 (Or.inl rfl) hg hv ?_
    refine rz_aload_n dX11_next_133 rfl (show _ = some (some (vo x0)) from rfl) ?_
    replace hF := rdI_e hF
    obtain ⟨fs, f8, hg, hv, hF⟩ := hF
    refine rz_getf dX11_next_134 fl_X11_148 hg hv ?_
    refine rz_istore_n (ls' := [some (vo x0), none, some (vi f8)]) dX11_next_137 rfl (Nat.le_of_ble_eq_true rfl) rfl ?_
    exact hF
  · replace hF := ite_f hF c
    refine rz_aload_n dX11_next_110 rfl (show _ = some (some (vo x0)) from rfl) ?_
    refine rz_dup dX11_next_111 (by rintro ⟨_, q⟩; cases q) ?_
    replace hF := rdI_e hF
    obtain ⟨fs, f9, hg, hv, hF⟩ := hF
    refine rz_getf dX11_next_112 fl_X11_141 hg hv ?_
    refine rz_iconst dX11_next_115 rfl (by decide) ?_
    refine rz_iadd dX11_next_116 ?_
    replace hF := wrF_e hF
    obtain ⟨fs, hg, hv, hF⟩ := hF
    refine rz_putf dX11_next_117 fl_X11_141 (Or.inl rfl) hg hv ?_
    refine rz_goto (tgt := 96) dX11_next_120 (by decide) ?_
    exact hF
theorem vX11_next_69 {G : az_G} {d : Nat} {x0 : Nat} {h : az_H} {Q : Option az_V → az_H → Prop} (hF : rdI h x0 11 4 (fun f1 => rcv h x0 11 (cz G mX11_at d 0 0 [vo x0, vi f1] h (fun v h2 => atI v (fun r3 => cz G mX11_isLetter d 0 0 [vi r3] h2 (fun v h4 => atI v (fun r5 => (if r5 = 0 then pX11_next_96 G d x0 h4 Q else rdI h4 x0 11 4 (fun f6 => wrF h4 x0 11 4 (.int) (vi (w32 (f6 + 1))) (fun h7 => pX11_next_69 G d x0 h7 Q)))))))))) : pX11_next_69 G d x0 h Q := by
  unfold pX11_next_69
  refine rz_aload_n dX11_next_69 rfl (show _ = some (some (vo x0)) from rfl) ?_
  refine rz_aload_n dX11_next_70 rfl (show _ = some (some (vo x0)) from rfl) ?_
  replace hF := rdI_e hF
  obtain ⟨fs, f1, hg, hv, hF⟩ := hF
  refine rz_getf dX11_next_71 fl_X11_141 hg hv ?_
  replace hF := rcv_e hF
  obtain ⟨fs, hg, hF⟩ := hF
  refine rz_callV (mc' := 0) (ms' := 0) (mc := 0) (ms := 0) (st := []) dX11_next_74 cV_X11_144 rfl hg ⟨_, _, rfl⟩ rfl (Nat.le_of_ble_eq_true rfl) hF (fun v h2 hG => ?_)
  clear hF
  revert hG
  intro hF
  replace hF := atI_e hF
  obtain ⟨r3, rfl, hF⟩ := hF
  refine rz_callS (mc' := 0) (ms' := 0) (mc := 0) (ms := 0) (st := []) dX11_next_77 cS_X11_154 rfl rfl (Nat.le_of_ble_eq_true rfl) hF (fun v h4 hG => ?_)
  clear hF
  revert hG
  intro hF
  replace hF := atI_e hF
  obtain ⟨r5, rfl, hF⟩ := hF
  refine rz_if_eq (tgt := 96) dX11_next_80 (by decide) (fun c => ?_) (fun c => ?_)
  · replace hF := ite_t hF c
    exact hF
  · replace hF := ite_f hF c
    refine rz_aload_n dX11_next_83 rfl (show _ = some (some (vo x0)) from rfl) ?_
    refine rz_dup dX11_next_84 (by rintro ⟨_, q⟩; cases q) ?_
    replace hF := rdI_e hF
    obtain ⟨fs, f6, hg, hv, hF⟩ := hF
    refine rz_getf dX11_next_85 fl_X11_141 hg hv ?_
    refine rz_iconst dX11_next_88 rfl (by decide) ?_
    refine rz_iadd dX11_next_89 ?_
    replace hF := wrF_e hF
    obtain ⟨fs, hg, hv, hF⟩ := hF
    refine rz_putf dX11_next_90 fl_X11_141 (Or.inl rfl) hg hv ?_
    refine rz_goto (tgt := 69) dX11_next_93 (by decide) ?_
    exact hF
theorem vX11_next_0 {G : az_G} {d : Nat} {x0 : Nat} {h : az_H} {Q : Option az_V → az_H → Prop} (hF : rdI h x0 11 4 (fun f1 => rcv h x0 11 (cz G mX11_at d 0 0 [vo x0, vi f1] h (fun v h2 => atI v (fun r3 => (if r3 = 32 then rdI h2 x0 11 4 (fun f34 => wrF h2 x0 11 4 (.int) (vi (w32 (f34 + 1))) (fun h35 => pX11_next_0 G d x0 h35 Q)) else rdI h2 x0 11 4 (fun f4 => wrF h2 x0 11 3 (.int) (vi f4) (fun h5 => rdI h5 x0 11 3 (fun f6 => rcv h5 x0 11 (cz G mX11_at d 0 0 [vo x0, vi f6] h5 (fun v h7 => atI v (fun r8 => rdI h7 x0 11 3 (fun f9 => rdI h7 x0 11 1 (fun f10 => (if f9 = f10 then wrF h7 x0 11 2 (.int) (vi 0) (fun h33 => Q none h33) else cz G mX11_isLetter d 0 0 [vi r8] h7 (fun v h11 => atI v (fun r12 => (if r12 = 0 then cz G mX11_isFigure d 0 0 [vi r8] h11 (fun v h13 => atI v (fun r14 => (if r14 = 0 then rdI h13 x0 11 4 (fun f15 => wrF h13 x0 11 4 (.int) (vi (w32 (f15 + 1))) (fun h16 => (if r8 = 43 then wrF h16 x0 11 2 (.int) (vi r8) (fun h17 => Q none h17) else (if r8 = 45 then wrF h16 x0 11 2 (.int) (vi r8) (fun h18 => Q none h18) else (if r8 = 42 then wrF h16 x0 11 2 (.int) (vi r8) (fun h19 => Q none h19) else (if r8 = 47 then wrF h16 x0 11 2 (.int) (vi r8) (fun h20 => Q none h20) else (if r8 = 60 then wrF h16 x0 11 2 (.int) (vi r8) (fun h21 => Q none h21) else (if r8 = 61 then wrF h16 x0 11 2 (.int) (vi r8) (fun h22 => Q none h22) else (if r8 = 38 then wrF h16 x0 11 2 (.int) (vi r8) (fun h23 => Q none h23) else (if r8 = 124 then wrF h16 x0 11 2 (.int) (vi r8) (fun h24 => Q none h24) else (if r8 = 33 then wrF h16 x0 11 2 (.int) (vi r8) (fun h25 => Q none h25) else (if r8 = 40 then wrF h16 x0 11 2 (.int) (vi r8) (fun h26 => Q none h26) else (if r8 = 41 then wrF h16 x0 11 2 (.int) (vi r8) (fun h27 => Q none h27) else (if r8 = 123 then wrF h16 x0 11 2 (.int) (vi r8) (fun h28 => Q none h28) else (if r8 = 125 then wrF h16 x0 11 2 (.int) (vi r8) (fun h29 => Q none h29) else (if r8 = 59 then wrF h16 x0 11 2 (.int) (vi r8) (fun h31 => Q none h31) else wrF h16 x0 11 2 (.int) (vi 3) (fun h30 => Q none h30))))))))))))))))) else wrF h13 x0 11 6 (.int) (vi 0) (fun h32 => pX11_next_202 G d x0 h32 Q)))) else pX11_next_69 G d x0 h11 Q)))))))))))))))))) : pX11_next_0 G d x0 h Q := by
  unfold pX11_next_0
  refine rz_aload_n dX11_next_0 rfl (show _ = some (some (vo x0)) from rfl) ?_
  refine rz_aload_n dX11_next_1 rfl (show _ = some (some (vo x0)) from rfl) ?_
  replace hF := rdI_e hF
  obtain ⟨fs, f1, hg, hv, hF⟩ := hF
  refine rz_getf dX11_next_2 fl_X11_141 hg hv ?_
  replace hF := rcv_e hF
  obtain ⟨fs, hg, hF⟩ := hF
  refine rz_callV (mc' := 0) (ms' := 0) (mc := 0) (ms := 0) (st := []) dX11_next_5 cV_X11_144 rfl hg ⟨_, _, rfl⟩ rfl (Nat.le_of_ble_eq_true rfl) hF (fun v h2 hG => ?_)
  clear hF
  revert hG
  intro hF
  replace hF := atI_e hF
  obtain ⟨r3, rfl, hF⟩ := hF
  refine rz_bipush (v := 32) dX11_next_8 (by decide) (by decide) ?_
  refine rz_icmp_ne (tgt := 26) dX11_next_10 (by decide) (fun c => ?_) (fun c => ?_)
  · replace hF := ite_f hF c
    refine rz_aload_n dX11_next_26 rfl (show _ = some (some (vo x0)) from rfl) ?_
    refine rz_aload_n dX11_next_27 rfl (show _ = some (some (vo x0)) from rfl) ?_
    replace hF := rdI_e hF
    obtain ⟨fs, f4, hg, hv, hF⟩ := hF
    refine rz_getf dX11_next_28 fl_X11_141 hg hv ?_
    replace hF := wrF_e hF
    obtain ⟨fs, hg, hv, hF⟩ := hF
    refine rz_putf dX11_next_31 fl_X11_148 (Or.inl rfl) hg hv ?_
    refine rz_aload_n dX11_next_34 rfl (show _ = some (some (vo x0)) from rfl) ?_
    refine rz_aload_n dX11_next_35 rfl (show _ = some (some (vo x0)) from rfl) ?_
    replace hF := rdI_e hF
    obtain ⟨fs, f6, hg, hv, hF⟩ := hF
    refine rz_getf dX11_next_36 fl_X11_148 hg hv ?_
    replace hF := rcv_e hF
    obtain ⟨fs, hg, hF⟩ := hF
    refine rz_callV (mc' := 0) (ms' := 0) (mc := 0) (ms := 0) (st := []) dX11_next_39 cV_X11_144 rfl hg ⟨_, _, rfl⟩ rfl (Nat.le_of_ble_eq_true rfl) hF (fun v h7 hG => ?_)
    clear hF
    revert hG
    intro hF
    replace hF := atI_e hF
    obtain ⟨r8, rfl, hF⟩ := hF
    refine rz_istore_n (ls' := [some (vo x0), some (vi r8), none]) dX11_next_42 rfl (Nat.le_of_ble_eq_true rfl) rfl ?_
    refine rz_aload_n dX11_next_43 rfl (show _ = some (some (vo x0)) from rfl) ?_
    replace hF := rdI_e hF
    obtain ⟨fs, f9, hg, hv, hF⟩ := hF
    refine rz_getf dX11_next_44 fl_X11_148 hg hv ?_
    refine rz_aload_n dX11_next_47 rfl (show _ = some (some (vo x0)) from rfl) ?_
    replace hF := rdI_e hF
    obtain ⟨fs, f10, hg, hv, hF⟩ := hF
    refine rz_getf dX11_next_48 fl_X11_125 hg hv ?_
    refine rz_icmp_ne (tgt := 62) dX11_next_51 (by decide) (fun c => ?_) (fun c => ?_)
    · replace hF := ite_f hF c
      refine rz_iload_n dX11_next_62 rfl (show _ = some (some (vi r8)) from rfl) ?_
      refine rz_callS (mc' := 0) (ms' := 0) (mc := 0) (ms := 0) (st := []) dX11_next_63 cS_X11_154 rfl rfl (Nat.le_of_ble_eq_true rfl) hF (fun v h11 hG => ?_)
      clear hF
      revert hG
      intro hF
      replace hF := atI_e hF
      obtain ⟨r12, rfl, hF⟩ := hF
      refine rz_if_eq (tgt := 190) dX11_next_66 (by decide) (fun c => ?_) (fun c => ?_)
      · replace hF := ite_t hF c
        refine rz_iload_n dX11_next_190 rfl (show _ = some (some (vi r8)) from rfl) ?_
        refine rz_callS (mc' := 0) (ms' := 0) (mc := 0) (ms := 0) (st := []) dX11_next_191 cS_X11_157 rfl rfl (Nat.le_of_ble_eq_true rfl) hF (fun v h13 hG => ?_)
        clear hF
        revert hG
        intro hF
        replace hF := atI_e hF
        obtain ⟨r14, rfl, hF⟩ := hF
        refine rz_if_eq (tgt := 299) dX11_next_194 (by decide) (fun c => ?_) (fun c => ?_)
        · replace hF := ite_t hF c
          refine rz_aload_n dX11_next_299 rfl (show _ = some (some (vo x0)) from rfl) ?_
          refine rz_dup dX11_next_300 (by rintro ⟨_, q⟩; cases q) ?_
          replace hF := rdI_e hF
          obtain ⟨fs, f15, hg, hv, hF⟩ := hF
          refine rz_getf dX11_next_301 fl_X11_141 hg hv ?_
          refine rz_iconst dX11_next_304 rfl (by decide) ?_
          refine rz_iadd dX11_next_305 ?_
          replace hF := wrF_e hF
          obtain ⟨fs, hg, hv, hF⟩ := hF
          refine rz_putf dX11_next_306 fl_X11_141 (Or.inl rfl) hg hv ?_
          refine rz_iload_n dX11_next_309 rfl (show _ = some (some (vi r8)) from rfl) ?_
          refine rz_bipush (v := 43) dX11_next_310 (by decide) (by decide) ?_
          refine rz_icmp_eq (tgt := 393) dX11_next_312 (by decide) (fun c => ?_) (fun c => ?_)
          · replace hF := ite_t hF c
            refine rz_iconst dX11_next_393 rfl (by decide) ?_
            refine rz_goto (tgt := 398) dX11_next_394 (by decide) ?_
            refine rz_istore_n (ls' := [some (vo x0), some (vi r8), some (vi 1)]) dX11_next_398 rfl (Nat.le_of_ble_eq_true rfl) rfl ?_
            refine rz_aload_n dX11_next_399 rfl (show _ = some (some (vo x0)) from rfl) ?_
            refine rz_iload_n dX11_next_400 rfl (show _ = some (some (vi 1)) from rfl) ?_
            refine rz_if_eq (tgt := 408) dX11_next_401 (by decide) (fun c => absurd c (by decide)) (fun c => ?_)
            refine rz_iload_n dX11_next_404 rfl (show _ = some (some (vi r8)) from rfl) ?_
            refine rz_goto (tgt := 409) dX11_next_405 (by decide) ?_
            replace hF := wrF_e hF
            obtain ⟨fs, hg, hv, hF⟩ := hF
            refine rz_putf dX11_next_409 fl_X11_151 (Or.inl rfl) hg hv ?_
            exact rz_vret dX11_next_412 trivial hF
          · replace hF := ite_f hF c
            refine rz_iload_n dX11_next_315 rfl (show _ = some (some (vi r8)) from rfl) ?_
            refine rz_bipush (v := 45) dX11_next_316 (by decide) (by decide) ?_
            refine rz_icmp_eq (tgt := 393) dX11_next_318 (by decide) (fun c => ?_) (fun c => ?_)
            · replace hF := ite_t hF c
              refine rz_iconst dX11_next_393 rfl (by decide) ?_
              refine rz_goto (tgt := 398) dX11_next_394 (by decide) ?_
              refine rz_istore_n (ls' := [some (vo x0), some (vi r8), some (vi 1)]) dX11_next_398 rfl (Nat.le_of_ble_eq_true rfl) rfl ?_
              refine rz_aload_n dX11_next_399 rfl (show _ = some (some (vo x0)) from rfl) ?_
              refine rz_iload_n dX11_next_400 rfl (show _ = some (some (vi 1)) from rfl) ?_
              refine rz_if_eq (tgt := 408) dX11_next_401 (by decide) (fun c => absurd c (by decide)) (fun c => ?_)
              refine rz_iload_n dX11_next_404 rfl (show _ = some (some (vi r8)) from rfl) ?_
              refine rz_goto (tgt := 409) dX11_next_405 (by decide) ?_
              replace hF := wrF_e hF
              obtain ⟨fs, hg, hv, hF⟩ := hF
              refine rz_putf dX11_next_409 fl_X11_151 (Or.inl rfl) hg hv ?_
              exact rz_vret dX11_next_412 trivial hF
            · replace hF := ite_f hF c
              refine rz_iload_n dX11_next_321 rfl (show _ = some (some (vi r8)) from rfl) ?_
              refine rz_bipush (v := 42) dX11_next_322 (by decide) (by decide) ?_
              refine rz_icmp_eq (tgt := 393) dX11_next_324 (by decide) (fun c => ?_) (fun c => ?_)
              · replace hF := ite_t hF c
                refine rz_iconst dX11_next_393 rfl (by decide) ?_
                refine rz_goto (tgt := 398) dX11_next_394 (by decide) ?_
                refine rz_istore_n (ls' := [some (vo x0), some (vi r8), some (vi 1)]) dX11_next_398 rfl (Nat.le_of_ble_eq_true rfl) rfl ?_
                refine rz_aload_n dX11_next_399 rfl (show _ = some (some (vo x0)) from rfl) ?_
                refine rz_iload_n dX11_next_400 rfl (show _ = some (some (vi 1)) from rfl) ?_
                refine rz_if_eq (tgt := 408) dX11_next_401 (by decide) (fun c => absurd c (by decide)) (fun c => ?_)
                refine rz_iload_n dX11_next_404 rfl (show _ = some (some (vi r8)) from rfl) ?_
                refine rz_goto (tgt := 409) dX11_next_405 (by decide) ?_
                replace hF := wrF_e hF
                obtain ⟨fs, hg, hv, hF⟩ := hF
                refine rz_putf dX11_next_409 fl_X11_151 (Or.inl rfl) hg hv ?_
                exact rz_vret dX11_next_412 trivial hF
              · replace hF := ite_f hF c
                refine rz_iload_n dX11_next_327 rfl (show _ = some (some (vi r8)) from rfl) ?_
                refine rz_bipush (v := 47) dX11_next_328 (by decide) (by decide) ?_
                refine rz_icmp_eq (tgt := 393) dX11_next_330 (by decide) (fun c => ?_) (fun c => ?_)
                · replace hF := ite_t hF c
                  refine rz_iconst dX11_next_393 rfl (by decide) ?_
                  refine rz_goto (tgt := 398) dX11_next_394 (by decide) ?_
                  refine rz_istore_n (ls' := [some (vo x0), some (vi r8), some (vi 1)]) dX11_next_398 rfl (Nat.le_of_ble_eq_true rfl) rfl ?_
                  refine rz_aload_n dX11_next_399 rfl (show _ = some (some (vo x0)) from rfl) ?_
                  refine rz_iload_n dX11_next_400 rfl (show _ = some (some (vi 1)) from rfl) ?_
                  refine rz_if_eq (tgt := 408) dX11_next_401 (by decide) (fun c => absurd c (by decide)) (fun c => ?_)
                  refine rz_iload_n dX11_next_404 rfl (show _ = some (some (vi r8)) from rfl) ?_
                  refine rz_goto (tgt := 409) dX11_next_405 (by decide) ?_
                  replace hF := wrF_e hF
                  obtain ⟨fs, hg, hv, hF⟩ := hF
                  refine rz_putf dX11_next_409 fl_X11_151 (Or.inl rfl) hg hv ?_
                  exact rz_vret dX11_next_412 trivial hF
                · replace hF := ite_f hF c
                  refine rz_iload_n dX11_next_333 rfl (show _ = some (some (vi r8)) from rfl) ?_
                  refine rz_bipush (v := 60) dX11_next_334 (by decide) (by decide) ?_
                  refine rz_icmp_eq (tgt := 393) dX11_next_336 (by decide) (fun c => ?_) (fun c => ?_)
                  · replace hF := ite_t hF c
                    refine rz_iconst dX11_next_393 rfl (by decide) ?_
                    refine rz_goto (tgt := 398) dX11_next_394 (by decide) ?_
                    refine rz_istore_n (ls' := [some (vo x0), some (vi r8), some (vi 1)]) dX11_next_398 rfl (Nat.le_of_ble_eq_true rfl) rfl ?_
                    refine rz_aload_n dX11_next_399 rfl (show _ = some (some (vo x0)) from rfl) ?_
                    refine rz_iload_n dX11_next_400 rfl (show _ = some (some (vi 1)) from rfl) ?_
                    refine rz_if_eq (tgt := 408) dX11_next_401 (by decide) (fun c => absurd c (by decide)) (fun c => ?_)
                    refine rz_iload_n dX11_next_404 rfl (show _ = some (some (vi r8)) from rfl) ?_
                    refine rz_goto (tgt := 409) dX11_next_405 (by decide) ?_
                    replace hF := wrF_e hF
                    obtain ⟨fs, hg, hv, hF⟩ := hF
                    refine rz_putf dX11_next_409 fl_X11_151 (Or.inl rfl) hg hv ?_
                    exact rz_vret dX11_next_412 trivial hF
                  · replace hF := ite_f hF c
                    refine rz_iload_n dX11_next_339 rfl (show _ = some (some (vi r8)) from rfl) ?_
                    refine rz_bipush (v := 61) dX11_next_340 (by decide) (by decide) ?_
                    refine rz_icmp_eq (tgt := 393) dX11_next_342 (by decide) (fun c => ?_) (fun c => ?_)
                    · replace hF := ite_t hF c
                      refine rz_iconst dX11_next_393 rfl (by decide) ?_
                      refine rz_goto (tgt := 398) dX11_next_394 (by decide) ?_
                      refine rz_istore_n (ls' := [some (vo x0), some (vi r8), some (vi 1)]) dX11_next_398 rfl (Nat.le_of_ble_eq_true rfl) rfl ?_
                      refine rz_aload_n dX11_next_399 rfl (show _ = some (some (vo x0)) from rfl) ?_
                      refine rz_iload_n dX11_next_400 rfl (show _ = some (some (vi 1)) from rfl) ?_
                      refine rz_if_eq (tgt := 408) dX11_next_401 (by decide) (fun c => absurd c (by decide)) (fun c => ?_)
                      refine rz_iload_n dX11_next_404 rfl (show _ = some (some (vi r8)) from rfl) ?_
                      refine rz_goto (tgt := 409) dX11_next_405 (by decide) ?_
                      replace hF := wrF_e hF
                      obtain ⟨fs, hg, hv, hF⟩ := hF
                      refine rz_putf dX11_next_409 fl_X11_151 (Or.inl rfl) hg hv ?_
                      exact rz_vret dX11_next_412 trivial hF
                    · replace hF := ite_f hF c
                      refine rz_iload_n dX11_next_345 rfl (show _ = some (some (vi r8)) from rfl) ?_
                      refine rz_bipush (v := 38) dX11_next_346 (by decide) (by decide) ?_
                      refine rz_icmp_eq (tgt := 393) dX11_next_348 (by decide) (fun c => ?_) (fun c => ?_)
                      · replace hF := ite_t hF c
                        refine rz_iconst dX11_next_393 rfl (by decide) ?_
                        refine rz_goto (tgt := 398) dX11_next_394 (by decide) ?_
                        refine rz_istore_n (ls' := [some (vo x0), some (vi r8), some (vi 1)]) dX11_next_398 rfl (Nat.le_of_ble_eq_true rfl) rfl ?_
                        refine rz_aload_n dX11_next_399 rfl (show _ = some (some (vo x0)) from rfl) ?_
                        refine rz_iload_n dX11_next_400 rfl (show _ = some (some (vi 1)) from rfl) ?_
                        refine rz_if_eq (tgt := 408) dX11_next_401 (by decide) (fun c => absurd c (by decide)) (fun c => ?_)
                        refine rz_iload_n dX11_next_404 rfl (show _ = some (some (vi r8)) from rfl) ?_
                        refine rz_goto (tgt := 409) dX11_next_405 (by decide) ?_
                        replace hF := wrF_e hF
                        obtain ⟨fs, hg, hv, hF⟩ := hF
                        refine rz_putf dX11_next_409 fl_X11_151 (Or.inl rfl) hg hv ?_
                        exact rz_vret dX11_next_412 trivial hF
                      · replace hF := ite_f hF c
                        refine rz_iload_n dX11_next_351 rfl (show _ = some (some (vi r8)) from rfl) ?_
                        refine rz_bipush (v := 124) dX11_next_352 (by decide) (by decide) ?_
                        refine rz_icmp_eq (tgt := 393) dX11_next_354 (by decide) (fun c => ?_) (fun c => ?_)
                        · replace hF := ite_t hF c
                          refine rz_iconst dX11_next_393 rfl (by decide) ?_
                          refine rz_goto (tgt := 398) dX11_next_394 (by decide) ?_
                          refine rz_istore_n (ls' := [some (vo x0), some (vi r8), some (vi 1)]) dX11_next_398 rfl (Nat.le_of_ble_eq_true rfl) rfl ?_
                          refine rz_aload_n dX11_next_399 rfl (show _ = some (some (vo x0)) from rfl) ?_
                          refine rz_iload_n dX11_next_400 rfl (show _ = some (some (vi 1)) from rfl) ?_
                          refine rz_if_eq (tgt := 408) dX11_next_401 (by decide) (fun c => absurd c (by decide)) (fun c => ?_)
                          refine rz_iload_n dX11_next_404 rfl (show _ = some (some (vi r8)) from rfl) ?_
                          refine rz_goto (tgt := 409) dX11_next_405 (by decide) ?_
                          replace hF := wrF_e hF
                          obtain ⟨fs, hg, hv, hF⟩ := hF
                          refine rz_putf dX11_next_409 fl_X11_151 (Or.inl rfl) hg hv ?_
                          exact rz_vret dX11_next_412 trivial hF
                        · replace hF := ite_f hF c
                          refine rz_iload_n dX11_next_357 rfl (show _ = some (some (vi r8)) from rfl) ?_
                          refine rz_bipush (v := 33) dX11_next_358 (by decide) (by decide) ?_
                          refine rz_icmp_eq (tgt := 393) dX11_next_360 (by decide) (fun c => ?_) (fun c => ?_)
                          · replace hF := ite_t hF c
                            refine rz_iconst dX11_next_393 rfl (by decide) ?_
                            refine rz_goto (tgt := 398) dX11_next_394 (by decide) ?_
                            refine rz_istore_n (ls' := [some (vo x0), some (vi r8), some (vi 1)]) dX11_next_398 rfl (Nat.le_of_ble_eq_true rfl) rfl ?_
                            refine rz_aload_n dX11_next_399 rfl (show _ = some (some (vo x0)) from rfl) ?_
                            refine rz_iload_n dX11_next_400 rfl (show _ = some (some (vi 1)) from rfl) ?_
                            refine rz_if_eq (tgt := 408) dX11_next_401 (by decide) (fun c => absurd c (by decide)) (fun c => ?_)
                            refine rz_iload_n dX11_next_404 rfl (show _ = some (some (vi r8)) from rfl) ?_
                            refine rz_goto (tgt := 409) dX11_next_405 (by decide) ?_
                            replace hF := wrF_e hF
                            obtain ⟨fs, hg, hv, hF⟩ := hF
                            refine rz_putf dX11_next_409 fl_X11_151 (Or.inl rfl) hg hv ?_
                            exact rz_vret dX11_next_412 trivial hF
                          · replace hF := ite_f hF c
                            refine rz_iload_n dX11_next_363 rfl (show _ = some (some (vi r8)) from rfl) ?_
                            refine rz_bipush (v := 40) dX11_next_364 (by decide) (by decide) ?_
                            refine rz_icmp_eq (tgt := 393) dX11_next_366 (by decide) (fun c => ?_) (fun c => ?_)
                            · replace hF := ite_t hF c
                              refine rz_iconst dX11_next_393 rfl (by decide) ?_
                              refine rz_goto (tgt := 398) dX11_next_394 (by decide) ?_
                              refine rz_istore_n (ls' := [some (vo x0), some (vi r8), some (vi 1)]) dX11_next_398 rfl (Nat.le_of_ble_eq_true rfl) rfl ?_
                              refine rz_aload_n dX11_next_399 rfl (show _ = some (some (vo x0)) from rfl) ?_
                              refine rz_iload_n dX11_next_400 rfl (show _ = some (some (vi 1)) from rfl) ?_
                              refine rz_if_eq (tgt := 408) dX11_next_401 (by decide) (fun c => absurd c (by decide)) (fun c => ?_)
                              refine rz_iload_n dX11_next_404 rfl (show _ = some (some (vi r8)) from rfl) ?_
                              refine rz_goto (tgt := 409) dX11_next_405 (by decide) ?_
                              replace hF := wrF_e hF
                              obtain ⟨fs, hg, hv, hF⟩ := hF
                              refine rz_putf dX11_next_409 fl_X11_151 (Or.inl rfl) hg hv ?_
                              exact rz_vret dX11_next_412 trivial hF
                            · replace hF := ite_f hF c
                              refine rz_iload_n dX11_next_369 rfl (show _ = some (some (vi r8)) from rfl) ?_
                              refine rz_bipush (v := 41) dX11_next_370 (by decide) (by decide) ?_
                              refine rz_icmp_eq (tgt := 393) dX11_next_372 (by decide) (fun c => ?_) (fun c => ?_)
                              · replace hF := ite_t hF c
                                refine rz_iconst dX11_next_393 rfl (by decide) ?_
                                refine rz_goto (tgt := 398) dX11_next_394 (by decide) ?_
                                refine rz_istore_n (ls' := [some (vo x0), some (vi r8), some (vi 1)]) dX11_next_398 rfl (Nat.le_of_ble_eq_true rfl) rfl ?_
                                refine rz_aload_n dX11_next_399 rfl (show _ = some (some (vo x0)) from rfl) ?_
                                refine rz_iload_n dX11_next_400 rfl (show _ = some (some (vi 1)) from rfl) ?_
                                refine rz_if_eq (tgt := 408) dX11_next_401 (by decide) (fun c => absurd c (by decide)) (fun c => ?_)
                                refine rz_iload_n dX11_next_404 rfl (show _ = some (some (vi r8)) from rfl) ?_
                                refine rz_goto (tgt := 409) dX11_next_405 (by decide) ?_
                                replace hF := wrF_e hF
                                obtain ⟨fs, hg, hv, hF⟩ := hF
                                refine rz_putf dX11_next_409 fl_X11_151 (Or.inl rfl) hg hv ?_
                                exact rz_vret dX11_next_412 trivial hF
                              · replace hF := ite_f hF c
                                refine rz_iload_n dX11_next_375 rfl (show _ = some (some (vi r8)) from rfl) ?_
                                refine rz_bipush (v := 123) dX11_next_376 (by decide) (by decide) ?_
                                refine rz_icmp_eq (tgt := 393) dX11_next_378 (by decide) (fun c => ?_) (fun c => ?_)
                                · replace hF := ite_t hF c
                                  refine rz_iconst dX11_next_393 rfl (by decide) ?_
                                  refine rz_goto (tgt := 398) dX11_next_394 (by decide) ?_
                                  refine rz_istore_n (ls' := [some (vo x0), some (vi r8), some (vi 1)]) dX11_next_398 rfl (Nat.le_of_ble_eq_true rfl) rfl ?_
                                  refine rz_aload_n dX11_next_399 rfl (show _ = some (some (vo x0)) from rfl) ?_
                                  refine rz_iload_n dX11_next_400 rfl (show _ = some (some (vi 1)) from rfl) ?_
                                  refine rz_if_eq (tgt := 408) dX11_next_401 (by decide) (fun c => absurd c (by decide)) (fun c => ?_)
                                  refine rz_iload_n dX11_next_404 rfl (show _ = some (some (vi r8)) from rfl) ?_
                                  refine rz_goto (tgt := 409) dX11_next_405 (by decide) ?_
                                  replace hF := wrF_e hF
                                  obtain ⟨fs, hg, hv, hF⟩ := hF
                                  refine rz_putf dX11_next_409 fl_X11_151 (Or.inl rfl) hg hv ?_
                                  exact rz_vret dX11_next_412 trivial hF
                                · replace hF := ite_f hF c
                                  refine rz_iload_n dX11_next_381 rfl (show _ = some (some (vi r8)) from rfl) ?_
                                  refine rz_bipush (v := 125) dX11_next_382 (by decide) (by decide) ?_
                                  refine rz_icmp_eq (tgt := 393) dX11_next_384 (by decide) (fun c => ?_) (fun c => ?_)
                                  · replace hF := ite_t hF c
                                    refine rz_iconst dX11_next_393 rfl (by decide) ?_
                                    refine rz_goto (tgt := 398) dX11_next_394 (by decide) ?_
                                    refine rz_istore_n (ls' := [some (vo x0), some (vi r8), some (vi 1)]) dX11_next_398 rfl (Nat.le_of_ble_eq_true rfl) rfl ?_
                                    refine rz_aload_n dX11_next_399 rfl (show _ = some (some (vo x0)) from rfl) ?_
                                    refine rz_iload_n dX11_next_400 rfl (show _ = some (some (vi 1)) from rfl) ?_
                                    refine rz_if_eq (tgt := 408) dX11_next_401 (by decide) (fun c => absurd c (by decide)) (fun c => ?_)
                                    refine rz_iload_n dX11_next_404 rfl (show _ = some (some (vi r8)) from rfl) ?_
                                    refine rz_goto (tgt := 409) dX11_next_405 (by decide) ?_
                                    replace hF := wrF_e hF
                                    obtain ⟨fs, hg, hv, hF⟩ := hF
                                    refine rz_putf dX11_next_409 fl_X11_151 (Or.inl rfl) hg hv ?_
                                    exact rz_vret dX11_next_412 trivial hF
                                  · replace hF := ite_f hF c
                                    refine rz_iload_n dX11_next_387 rfl (show _ = some (some (vi r8)) from rfl) ?_
                                    refine rz_bipush (v := 59) dX11_next_388 (by decide) (by decide) ?_
                                    refine rz_icmp_ne (tgt := 397) dX11_next_390 (by decide) (fun c => ?_) (fun c => ?_)
                                    · replace hF := ite_f hF c
                                      refine rz_iconst dX11_next_397 rfl (by decide) ?_
                                      refine rz_istore_n (ls' := [some (vo x0), some (vi r8), some (vi 0)]) dX11_next_398 rfl (Nat.le_of_ble_eq_true rfl) rfl ?_
                                      refine rz_aload_n dX11_next_399 rfl (show _ = some (some (vo x0)) from rfl) ?_
                                      refine rz_iload_n dX11_next_400 rfl (show _ = some (some (vi 0)) from rfl) ?_
                                      refine rz_if_eq (tgt := 408) dX11_next_401 (by decide) (fun c => ?_) (fun c => absurd c (by decide))
                                      refine rz_iconst dX11_next_408 rfl (by decide) ?_
                                      replace hF := wrF_e hF
                                      obtain ⟨fs, hg, hv, hF⟩ := hF
                                      refine rz_putf dX11_next_409 fl_X11_151 (Or.inl rfl) hg hv ?_
                                      exact rz_vret dX11_next_412 trivial hF
                                    · replace hF := ite_t hF c
                                      refine rz_iconst dX11_next_393 rfl (by decide) ?_
                                      refine rz_goto (tgt := 398) dX11_next_394 (by decide) ?_
                                      refine rz_istore_n (ls' := [some (vo x0), some (vi r8), some (vi 1)]) dX11_next_398 rfl (Nat.le_of_ble_eq_true rfl) rfl ?_
                                      refine rz_aload_n dX11_next_399 rfl (show _ = some (some (vo x0)) from rfl) ?_
                                      refine rz_iload_n dX11_next_400 rfl (show _ = some (some (vi 1)) from rfl) ?_
                                      refine rz_if_eq (tgt := 408) dX11_next_401 (by decide) (fun c => absurd c (by decide)) (fun c => ?_)
                                      refine rz_iload_n dX11_next_404 rfl (show _ = some (some (vi r8)) from rfl) ?_
                                      refine rz_goto (tgt := 409) dX11_next_405 (by decide) ?_
                                      replace hF := wrF_e hF
                                      obtain ⟨fs, hg, hv, hF⟩ := hF
                                      refine rz_putf dX11_next_409 fl_X11_151 (Or.inl rfl) hg hv ?_
                                      exact rz_vret dX11_next_412 trivial hF
        · replace hF := ite_f hF c
          refine rz_aload_n dX11_next_197 rfl (show _ = some (some (vo x0)) from rfl) ?_
          refine rz_iconst dX11_next_198 rfl (by decide) ?_
          replace hF := wrF_e hF
          obtain ⟨fs, hg, hv, hF⟩ := hF
          refine rz_putf dX11_next_199 fl_X11_163 (Or.inl rfl) hg hv ?_
          refine ez_kp [true, false, false] rfl ?_
          exact hF
      · replace hF := ite_f hF c
        refine ez_kp [true, false, false] rfl ?_
        exact hF
    · replace hF := ite_t hF c
      refine rz_aload_n dX11_next_54 rfl (show _ = some (some (vo x0)) from rfl) ?_
      refine rz_iconst dX11_next_55 rfl (by decide) ?_
      replace hF := wrF_e hF
      obtain ⟨fs, hg, hv, hF⟩ := hF
      refine rz_putf dX11_next_56 fl_X11_151 (Or.inl rfl) hg hv ?_
      refine rz_goto (tgt := 412) dX11_next_59 (by decide) ?_
      exact rz_vret dX11_next_412 trivial hF
  · replace hF := ite_t hF c
    refine rz_aload_n dX11_next_13 rfl (show _ = some (some (vo x0)) from rfl) ?_
    refine rz_dup dX11_next_14 (by rintro ⟨_, q⟩; cases q) ?_
    replace hF := rdI_e hF
    obtain ⟨fs, f34, hg, hv, hF⟩ := hF
    refine rz_getf dX11_next_15 fl_X11_141 hg hv ?_
    refine rz_iconst dX11_next_18 rfl (by decide) ?_
    refine rz_iadd dX11_next_19 ?_
    replace hF := wrF_e hF
    obtain ⟨fs, hg, hv, hF⟩ := hF
    refine rz_putf dX11_next_20 fl_X11_141 (Or.inl rfl) hg hv ?_
    refine rz_goto (tgt := 0) dX11_next_23 (by decide) ?_
    exact hF
theorem vX11_next {G : az_G} {d : Nat} {x0 : Nat} {h : az_H} {Q : Option az_V → az_H → Prop} (hF : pX11_next_0 G d x0 h Q) : cz G mX11_next (d + 1) 0 0 [vo x0] h Q := by
  refine cz_of (ls := [some (vo x0), none, none]) (by decide +kernel) (Nat.le_of_ble_eq_true rfl) rfl ?_
  exact hF
theorem vX11_step {G : az_G} {d : Nat} {x0 : Nat} {x1 : Int} {x2 : Int} {h : az_H} {Q : Option az_V → az_H → Prop} (hF : rdO h x0 11 10 (fun o1 => ldI h o1 (.int) 14 (fun e2 => rdO h x0 11 7 (fun o3 => stI h o3 .int (w32 (4200 + e2)) x1 (fun h4 => rdO h4 x0 11 8 (fun o5 => stI h4 o5 .int (w32 (4200 + e2)) x2 (fun h6 => rdO h6 x0 11 10 (fun o7 => ldI h6 o7 (.int) 14 (fun e8 => stI h6 o7 .int 14 (w32 (e8 + 1)) (fun h9 => Q none h9)))))))))) : cz G mX11_step d 0 0 [vo x0, vi x1, vi x2] h Q := by
  refine cz_of (ls := [some (vo x0), some (vi x1), some (vi x2), none]) (by decide +kernel) (Nat.le_of_ble_eq_true rfl) rfl ?_
  refine rz_sipush (v := 4200) dX11_step_0 (by decide) (by decide) ?_
  refine rz_aload_n dX11_step_3 rfl (show _ = some (some (vo x0)) from rfl) ?_
  replace hF := rdO_e hF
  obtain ⟨fs, o1, hg, hv, hF⟩ := hF
  refine rz_getf dX11_step_4 fl_X11_22 hg hv ?_
  refine rz_bipush (v := 14) dX11_step_7 (by decide) (by decide) ?_
  replace hF := ldI_e hF
  obtain ⟨xs, hg, h0, h1, hF⟩ := hF
  refine rz_iald dX11_step_9 hg h0 h1 ?_
  generalize xs.getD _ 0 = e2 at hF ⊢
  refine rz_iadd dX11_step_10 ?_
  refine rz_istore_n (ls' := [some (vo x0), some (vi x1), some (vi x2), some (vi (w32 (4200 + e2)))]) dX11_step_11 rfl (Nat.le_of_ble_eq_true rfl) rfl ?_
  refine rz_aload_n dX11_step_12 rfl (show _ = some (some (vo x0)) from rfl) ?_
  replace hF := rdO_e hF
  obtain ⟨fs, o3, hg, hv, hF⟩ := hF
  refine rz_getf dX11_step_13 fl_X11_13 hg hv ?_
  refine rz_iload_n dX11_step_16 rfl (show _ = some (some (vi (w32 (4200 + e2)))) from rfl) ?_
  refine rz_iload_n dX11_step_17 rfl (show _ = some (some (vi x1)) from rfl) ?_
  replace hF := stI_e hF
  obtain ⟨xs, hg, h0, h1, hF⟩ := hF
  refine rz_iast dX11_step_18 hg h0 h1 ?_
  refine rz_aload_n dX11_step_19 rfl (show _ = some (some (vo x0)) from rfl) ?_
  replace hF := rdO_e hF
  obtain ⟨fs, o5, hg, hv, hF⟩ := hF
  refine rz_getf dX11_step_20 fl_X11_16 hg hv ?_
  refine rz_iload_n dX11_step_23 rfl (show _ = some (some (vi (w32 (4200 + e2)))) from rfl) ?_
  refine rz_iload_n dX11_step_24 rfl (show _ = some (some (vi x2)) from rfl) ?_
  replace hF := stI_e hF
  obtain ⟨xs, hg, h0, h1, hF⟩ := hF
  refine rz_iast dX11_step_25 hg h0 h1 ?_
  refine rz_aload_n dX11_step_26 rfl (show _ = some (some (vo x0)) from rfl) ?_
  replace hF := rdO_e hF
  obtain ⟨fs, o7, hg, hv, hF⟩ := hF
  refine rz_getf dX11_step_27 fl_X11_22 hg hv ?_
  refine rz_bipush (v := 14) dX11_step_30 (by decide) (by decide) ?_
  refine rz_dup2_11 dX11_step_32 (by rintro ⟨_, q⟩; cases q) (by rintro ⟨_, q⟩; cases q) ?_
  replace hF := ldI_e hF
  obtain ⟨xs, hg, h0, h1, hF⟩ := hF
  refine rz_iald dX11_step_33 hg h0 h1 ?_
  generalize xs.getD _ 0 = e8 at hF ⊢
  refine rz_iconst dX11_step_34 rfl (by decide) ?_
  refine rz_iadd dX11_step_35 ?_
  replace hF := stI_e hF
  obtain ⟨xs, hg, h0, h1, hF⟩ := hF
  refine rz_iast dX11_step_36 hg h0 h1 ?_
  exact rz_vret dX11_step_37 trivial hF
theorem vX11_need {G : az_G} {d : Nat} {x0 : Nat} {x1 : Int} {h : az_H} {Q : Option az_V → az_H → Prop} (hF : rdI h x0 11 14 (fun f1 => (if f1 = 0 then rdI h x0 11 2 (fun f5 => (if f5 = x1 then wrF h x0 11 14 (.boolean) (vi 0) (fun h6 => rdI h6 x0 11 14 (fun f7 => (if f7 = 0 then rcv h6 x0 11 (cz G mX11_next d 0 0 [vo x0] h6 (fun v h8 => atV v (Q none h8))) else Q none h6))) else wrF h x0 11 14 (.boolean) (vi 1) (fun h9 => rdI h9 x0 11 14 (fun f10 => (if f10 = 0 then rcv h9 x0 11 (cz G mX11_next d 0 0 [vo x0] h9 (fun v h11 => atV v (Q none h11))) else Q none h9))))) else wrF h x0 11 14 (.boolean) (vi 1) (fun h2 => rdI h2 x0 11 14 (fun f3 => (if f3 = 0 then rcv h2 x0 11 (cz G mX11_next d 0 0 [vo x0] h2 (fun v h4 => atV v (Q none h4))) else Q none h2)))))) : cz G mX11_need (d + 1) 0 0 [vo x0, vi x1] h Q := by
  refine cz_of (ls := [some (vo x0), some (vi x1)]) (by decide +kernel) (Nat.le_of_ble_eq_true rfl) rfl ?_
  refine rz_aload_n dX11_need_0 rfl (show _ = some (some (vo x0)) from rfl) ?_
  refine rz_aload_n dX11_need_1 rfl (show _ = some (some (vo x0)) from rfl) ?_
  replace hF := rdI_e hF
  obtain ⟨fs, f1, hg, hv, hF⟩ := hF
  refine rz_getf dX11_need_2 fl_X11_166 hg hv ?_
  refine rz_if_ne (tgt := 16) dX11_need_5 (by decide) (fun c => ?_) (fun c => ?_)
  · replace hF := ite_f hF c
    refine rz_iconst dX11_need_16 rfl (by decide) ?_
    refine rz_goto (tgt := 21) dX11_need_17 (by decide) ?_
    replace hF := wrF_e hF
    obtain ⟨fs, hg, hv, hF⟩ := hF
    refine rz_putf dX11_need_21 fl_X11_166 (Or.inl rfl) hg hv ?_
    refine rz_aload_n dX11_need_24 rfl (show _ = some (some (vo x0)) from rfl) ?_
    replace hF := rdI_e hF
    obtain ⟨fs, f3, hg, hv, hF⟩ := hF
    refine rz_getf dX11_need_25 fl_X11_166 hg hv ?_
    refine rz_if_ne (tgt := 35) dX11_need_28 (by decide) (fun c => ?_) (fun c => ?_)
    · replace hF := ite_f hF c
      exact rz_vret dX11_need_35 trivial hF
    · replace hF := ite_t hF c
      refine rz_aload_n dX11_need_31 rfl (show _ = some (some (vo x0)) from rfl) ?_
      replace hF := rcv_e hF
      obtain ⟨fs, hg, hF⟩ := hF
      refine rz_callV (mc' := 0) (ms' := 0) (mc := 0) (ms := 0) (st := []) dX11_need_32 cV_X11_170 rfl hg ⟨_, _, rfl⟩ rfl (Nat.le_of_ble_eq_true rfl) hF (fun v h4 hG => ?_)
      clear hF
      revert hG
      intro hF
      replace hF := atV_e hF
      obtain ⟨rfl, hF⟩ := hF
      exact rz_vret dX11_need_35 trivial hF
  · replace hF := ite_t hF c
    refine rz_aload_n dX11_need_8 rfl (show _ = some (some (vo x0)) from rfl) ?_
    replace hF := rdI_e hF
    obtain ⟨fs, f5, hg, hv, hF⟩ := hF
    refine rz_getf dX11_need_9 fl_X11_151 hg hv ?_
    refine rz_iload_n dX11_need_12 rfl (show _ = some (some (vi x1)) from rfl) ?_
    refine rz_icmp_eq (tgt := 20) dX11_need_13 (by decide) (fun c => ?_) (fun c => ?_)
    · replace hF := ite_t hF c
      refine rz_iconst dX11_need_20 rfl (by decide) ?_
      replace hF := wrF_e hF
      obtain ⟨fs, hg, hv, hF⟩ := hF
      refine rz_putf dX11_need_21 fl_X11_166 (Or.inl rfl) hg hv ?_
      refine rz_aload_n dX11_need_24 rfl (show _ = some (some (vo x0)) from rfl) ?_
      replace hF := rdI_e hF
      obtain ⟨fs, f7, hg, hv, hF⟩ := hF
      refine rz_getf dX11_need_25 fl_X11_166 hg hv ?_
      refine rz_if_ne (tgt := 35) dX11_need_28 (by decide) (fun c => ?_) (fun c => ?_)
      · replace hF := ite_f hF c
        exact rz_vret dX11_need_35 trivial hF
      · replace hF := ite_t hF c
        refine rz_aload_n dX11_need_31 rfl (show _ = some (some (vo x0)) from rfl) ?_
        replace hF := rcv_e hF
        obtain ⟨fs, hg, hF⟩ := hF
        refine rz_callV (mc' := 0) (ms' := 0) (mc := 0) (ms := 0) (st := []) dX11_need_32 cV_X11_170 rfl hg ⟨_, _, rfl⟩ rfl (Nat.le_of_ble_eq_true rfl) hF (fun v h8 hG => ?_)
        clear hF
        revert hG
        intro hF
        replace hF := atV_e hF
        obtain ⟨rfl, hF⟩ := hF
        exact rz_vret dX11_need_35 trivial hF
    · replace hF := ite_f hF c
      refine rz_iconst dX11_need_16 rfl (by decide) ?_
      refine rz_goto (tgt := 21) dX11_need_17 (by decide) ?_
      replace hF := wrF_e hF
      obtain ⟨fs, hg, hv, hF⟩ := hF
      refine rz_putf dX11_need_21 fl_X11_166 (Or.inl rfl) hg hv ?_
      refine rz_aload_n dX11_need_24 rfl (show _ = some (some (vo x0)) from rfl) ?_
      replace hF := rdI_e hF
      obtain ⟨fs, f10, hg, hv, hF⟩ := hF
      refine rz_getf dX11_need_25 fl_X11_166 hg hv ?_
      refine rz_if_ne (tgt := 35) dX11_need_28 (by decide) (fun c => ?_) (fun c => ?_)
      · replace hF := ite_f hF c
        exact rz_vret dX11_need_35 trivial hF
      · replace hF := ite_t hF c
        refine rz_aload_n dX11_need_31 rfl (show _ = some (some (vo x0)) from rfl) ?_
        replace hF := rcv_e hF
        obtain ⟨fs, hg, hF⟩ := hF
        refine rz_callV (mc' := 0) (ms' := 0) (mc := 0) (ms := 0) (st := []) dX11_need_32 cV_X11_170 rfl hg ⟨_, _, rfl⟩ rfl (Nat.le_of_ble_eq_true rfl) hF (fun v h11 hG => ?_)
        clear hF
        revert hG
        intro hF
        replace hF := atV_e hF
        obtain ⟨rfl, hF⟩ := hF
        exact rz_vret dX11_need_35 trivial hF
