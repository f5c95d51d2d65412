theorem vX11_states {G : az_G} {d : Nat} {x0 : Nat} {h : az_H} {Q : Option az_V → az_H → Prop} (hF : rdI h x0 11 53 (fun f1 => Q (some (vi f1)) h)) : cz G mX11_states d 0 0 [vo x0] h Q := by
  refine cz_of (ls := [some (vo x0)]) (by decide +kernel) (Nat.le_of_ble_eq_true rfl) rfl ?_
  refine rz_aload_n dX11_states_0 rfl (show _ = some (some (vo x0)) from rfl) ?_
  replace hF := rdI_e hF
  obtain ⟨fs, f1, hg, hv, hF⟩ := hF
  refine rz_getf dX11_states_1 fl_X11_358 hg hv ?_
  exact rz_iret dX11_states_4 trivial hF
theorem vX11_drawn {G : az_G} {d : Nat} {x0 : Nat} {h : az_H} {Q : Option az_V → az_H → Prop} (hF : rdI h x0 11 58 (fun f1 => wrF h x0 11 58 (.int) (vi (w32 ((w32 (f1 * 1103515245)) + 12345))) (fun h2 => rdI h2 x0 11 58 (fun f3 => Q (some (vi (bUshr f3 16))) h2)))) : cz G mX11_drawn d 0 0 [vo x0] h Q := by
  refine cz_of (ls := [some (vo x0)]) (by decide +kernel) (Nat.le_of_ble_eq_true rfl) rfl ?_
  refine rz_aload_n dX11_drawn_0 rfl (show _ = some (some (vo x0)) from rfl) ?_
  refine rz_aload_n dX11_drawn_1 rfl (show _ = some (some (vo x0)) from rfl) ?_
  replace hF := rdI_e hF
  obtain ⟨fs, f1, hg, hv, hF⟩ := hF
  refine rz_getf dX11_drawn_2 fl_X11_370 hg hv ?_
  refine rz_ldcw (v := 1103515245) dX11_drawn_5 k_1480 (by decide) ?_
  refine rz_imul dX11_drawn_8 ?_
  refine rz_sipush (v := 12345) dX11_drawn_9 (by decide) (by decide) ?_
  refine rz_iadd dX11_drawn_12 ?_
  replace hF := wrF_e hF
  obtain ⟨fs, hg, hv, hF⟩ := hF
  refine rz_putf dX11_drawn_13 fl_X11_370 (Or.inl rfl) hg hv ?_
  refine rz_aload_n dX11_drawn_16 rfl (show _ = some (some (vo x0)) from rfl) ?_
  replace hF := rdI_e hF
  obtain ⟨fs, f3, hg, hv, hF⟩ := hF
  refine rz_getf dX11_drawn_17 fl_X11_370 hg hv ?_
  refine rz_bipush (v := 16) dX11_drawn_20 (by decide) (by decide) ?_
  refine rz_iushr dX11_drawn_22 ?_
  exact rz_iret dX11_drawn_23 trivial hF
def pX11_drawRow_45 (G : az_G) (d : Nat) (x0 : Nat) (x2 : Int) (x3 : Int) (h : az_H) (Q : Option az_V → az_H → Prop) : Prop := ez G mX11_drawRow (d + 1) 0 0 45 [some (vo x0), none, some (vi x2), some (vi x3)] [] h Q
def pX11_drawRow_88 (G : az_G) (d : Nat) (x0 : Nat) (x2 : Int) (x3 : Int) (h : az_H) (Q : Option az_V → az_H → Prop) : Prop := ez G mX11_drawRow (d + 1) 0 0 88 [some (vo x0), none, some (vi x2), some (vi x3)] [] h Q
theorem vX11_drawRow_88 {G : az_G} {d : Nat} {x0 : Nat} {x2 : Int} {x3 : Int} {h : az_H} {Q : Option az_V → az_H → Prop} (hF : (if x2 ≤ x3 then Q none h else rdI h x0 11 48 (fun f1 => (if 12 ≤ f1 then Q none h else rdO h x0 11 49 (fun o2 => rdI h x0 11 48 (fun f3 => rcv h x0 11 (cz G mX11_drawn d 0 0 [vo x0] h (fun v h4 => atI v (fun r5 => rdI h4 x0 11 40 (fun f6 => (f6 ≠ 0 ∧ stI h4 o2 .int f3 (bRem r5 f6) (fun h7 => rdI h7 x0 11 48 (fun f8 => wrF h7 x0 11 48 (.int) (vi (w32 (f8 + 1))) (fun h9 => pX11_drawRow_88 G d x0 x2 (w32 (x3 + 1)) h9 Q)))))))))))))) : pX11_drawRow_88 G d x0 x2 x3 h Q := by
  unfold pX11_drawRow_88
  refine rz_iload_n dX11_drawRow_88 rfl (show _ = some (some (vi x3)) from rfl) ?_
  refine rz_iload_n dX11_drawRow_89 rfl (show _ = some (some (vi x2)) from rfl) ?_
  refine rz_icmp_ge (tgt := 136) dX11_drawRow_90 (by decide) (fun c => ?_) (fun c => ?_)
  · replace hF := ite_t hF c
    exact rz_vret dX11_drawRow_136 trivial hF
  · replace hF := ite_f hF c
    refine rz_aload_n dX11_drawRow_93 rfl (show _ = some (some (vo x0)) from rfl) ?_
    replace hF := rdI_e hF
    obtain ⟨fs, f1, hg, hv, hF⟩ := hF
    refine rz_getf dX11_drawRow_94 fl_X11_346 hg hv ?_
    refine rz_bipush (v := 12) dX11_drawRow_97 (by decide) (by decide) ?_
    refine rz_icmp_ge (tgt := 136) dX11_drawRow_99 (by decide) (fun c => ?_) (fun c => ?_)
    · replace hF := ite_t hF c
      exact rz_vret dX11_drawRow_136 trivial hF
    · replace hF := ite_f hF c
      refine rz_aload_n dX11_drawRow_102 rfl (show _ = some (some (vo x0)) from rfl) ?_
      replace hF := rdO_e hF
      obtain ⟨fs, o2, hg, hv, hF⟩ := hF
      refine rz_getf dX11_drawRow_103 fl_X11_92 hg hv ?_
      refine rz_aload_n dX11_drawRow_106 rfl (show _ = some (some (vo x0)) from rfl) ?_
      replace hF := rdI_e hF
      obtain ⟨fs, f3, hg, hv, hF⟩ := hF
      refine rz_getf dX11_drawRow_107 fl_X11_346 hg hv ?_
      refine rz_aload_n dX11_drawRow_110 rfl (show _ = some (some (vo x0)) from rfl) ?_
      replace hF := rcv_e hF
      obtain ⟨fs, hg, hF⟩ := hF
      refine rz_callV (mc' := 0) (ms' := 0) (mc := 0) (ms := 0) (st := [vi f3, vo o2]) dX11_drawRow_111 cV_X11_374 rfl hg ⟨_, _, rfl⟩ rfl (Nat.le_of_ble_eq_true rfl) hF (fun v h4 hG => ?_)
      clear hF
      revert hG
      intro hF
      replace hF := atI_e hF
      obtain ⟨r5, rfl, hF⟩ := hF
      refine rz_aload_n dX11_drawRow_114 rfl (show _ = some (some (vo x0)) from rfl) ?_
      replace hF := rdI_e hF
      obtain ⟨fs, f6, hg, hv, hF⟩ := hF
      refine rz_getf dX11_drawRow_115 fl_X11_337 hg hv ?_
      obtain ⟨hne, hF⟩ := hF
      refine rz_irem dX11_drawRow_118 hne ?_
      replace hF := stI_e hF
      obtain ⟨xs, hg, h0, h1, hF⟩ := hF
      refine rz_iast dX11_drawRow_119 hg h0 h1 ?_
      refine rz_aload_n dX11_drawRow_120 rfl (show _ = some (some (vo x0)) from rfl) ?_
      refine rz_dup dX11_drawRow_121 (by rintro ⟨_, q⟩; cases q) ?_
      replace hF := rdI_e hF
      obtain ⟨fs, f8, hg, hv, hF⟩ := hF
      refine rz_getf dX11_drawRow_122 fl_X11_346 hg hv ?_
      refine rz_iconst dX11_drawRow_125 rfl (by decide) ?_
      refine rz_iadd dX11_drawRow_126 ?_
      replace hF := wrF_e hF
      obtain ⟨fs, hg, hv, hF⟩ := hF
      refine rz_putf dX11_drawRow_127 fl_X11_346 (Or.inl rfl) hg hv ?_
      refine rz_iinc (ls' := [some (vo x0), none, some (vi x2), some (vi (w32 (x3 + 1)))]) dX11_drawRow_130 rfl (Nat.le_of_ble_eq_true rfl) rfl ?_
      refine rz_goto (tgt := 88) dX11_drawRow_133 (by decide) ?_
      exact hF
theorem vX11_drawRow_45 {G : az_G} {d : Nat} {x0 : Nat} {x2 : Int} {x3 : Int} {h : az_H} {Q : Option az_V → az_H → Prop} (hF : rdI h x0 11 48 (fun f1 => (if f1 ≤ x3 then rcv h x0 11 (cz G mX11_drawn d 0 0 [vo x0] h (fun v h2 => atI v (fun r3 => pX11_drawRow_88 G d x0 (w32 (1 + (bRem r3 6))) 0 h2 Q))) else rdO h x0 11 49 (fun o4 => rdO h x0 11 52 (fun o5 => ldI h o5 (.int) (w32 ((w32 (12 * x2)) + x3)) (fun e6 => stI h o4 .int x3 e6 (fun h7 => pX11_drawRow_45 G d x0 x2 (w32 (x3 + 1)) h7 Q))))))) : pX11_drawRow_45 G d x0 x2 x3 h Q := by
  unfold pX11_drawRow_45
  refine rz_iload_n dX11_drawRow_45 rfl (show _ = some (some (vi x3)) from rfl) ?_
  refine rz_aload_n dX11_drawRow_46 rfl (show _ = some (some (vo x0)) from rfl) ?_
  replace hF := rdI_e hF
  obtain ⟨fs, f1, hg, hv, hF⟩ := hF
  refine rz_getf dX11_drawRow_47 fl_X11_346 hg hv ?_
  refine rz_icmp_ge (tgt := 76) dX11_drawRow_50 (by decide) (fun c => ?_) (fun c => ?_)
  · replace hF := ite_t hF c
    refine rz_iconst dX11_drawRow_76 rfl (by decide) ?_
    refine rz_aload_n dX11_drawRow_77 rfl (show _ = some (some (vo x0)) from rfl) ?_
    replace hF := rcv_e hF
    obtain ⟨fs, hg, hF⟩ := hF
    refine rz_callV (mc' := 0) (ms' := 0) (mc := 0) (ms := 0) (st := [vi 1]) dX11_drawRow_78 cV_X11_374 rfl hg ⟨_, _, rfl⟩ rfl (Nat.le_of_ble_eq_true rfl) hF (fun v h2 hG => ?_)
    clear hF
    revert hG
    intro hF
    replace hF := atI_e hF
    obtain ⟨r3, rfl, hF⟩ := hF
    refine rz_bipush (v := 6) dX11_drawRow_81 (by decide) (by decide) ?_
    refine rz_irem dX11_drawRow_83 (by decide) ?_
    refine rz_iadd dX11_drawRow_84 ?_
    refine rz_istore_n (ls' := [some (vo x0), none, some (vi (w32 (1 + (bRem r3 6)))), some (vi x3)]) dX11_drawRow_85 rfl (Nat.le_of_ble_eq_true rfl) rfl ?_
    refine rz_iconst dX11_drawRow_86 rfl (by decide) ?_
    refine rz_istore_n (ls' := [some (vo x0), none, some (vi (w32 (1 + (bRem r3 6)))), some (vi 0)]) dX11_drawRow_87 rfl (Nat.le_of_ble_eq_true rfl) rfl ?_
    exact hF
  · replace hF := ite_f hF c
    refine rz_aload_n dX11_drawRow_53 rfl (show _ = some (some (vo x0)) from rfl) ?_
    replace hF := rdO_e hF
    obtain ⟨fs, o4, hg, hv, hF⟩ := hF
    refine rz_getf dX11_drawRow_54 fl_X11_92 hg hv ?_
    refine rz_iload_n dX11_drawRow_57 rfl (show _ = some (some (vi x3)) from rfl) ?_
    refine rz_aload_n dX11_drawRow_58 rfl (show _ = some (some (vo x0)) from rfl) ?_
    replace hF := rdO_e hF
    obtain ⟨fs, o5, hg, hv, hF⟩ := hF
    refine rz_getf dX11_drawRow_59 fl_X11_98 hg hv ?_
    refine rz_bipush (v := 12) dX11_drawRow_62 (by decide) (by decide) ?_
    refine rz_iload_n dX11_drawRow_64 rfl (show _ = some (some (vi x2)) from rfl) ?_
    refine rz_imul dX11_drawRow_65 ?_
    refine rz_iload_n dX11_drawRow_66 rfl (show _ = some (some (vi x3)) from rfl) ?_
    refine rz_iadd dX11_drawRow_67 ?_
    replace hF := ldI_e hF
    obtain ⟨xs, hg, h0, h1, hF⟩ := hF
    refine rz_iald dX11_drawRow_68 hg h0 h1 ?_
    generalize xs.getD _ 0 = e6 at hF ⊢
    replace hF := stI_e hF
    obtain ⟨xs, hg, h0, h1, hF⟩ := hF
    refine rz_iast dX11_drawRow_69 hg h0 h1 ?_
    refine rz_iinc (ls' := [some (vo x0), none, some (vi x2), some (vi (w32 (x3 + 1)))]) dX11_drawRow_70 rfl (Nat.le_of_ble_eq_true rfl) rfl ?_
    refine rz_goto (tgt := 45) dX11_drawRow_73 (by decide) ?_
    exact hF
theorem vX11_drawRow {G : az_G} {d : Nat} {x0 : Nat} {h : az_H} {Q : Option az_V → az_H → Prop} (hF : rcv h x0 11 (cz G mX11_drawn d 0 0 [vo x0] h (fun v h1 => atI v (fun r2 => wrF h1 x0 11 48 (.int) (vi 0) (fun h3 => rdI h3 x0 11 50 (fun f4 => (if f4 ≤ 0 then rcv h3 x0 11 (cz G mX11_drawn d 0 0 [vo x0] h3 (fun v h5 => atI v (fun r6 => pX11_drawRow_88 G d x0 (w32 (1 + (bRem r6 6))) 0 h5 Q))) else (if bAnd r2 1 = 1 then rdI h3 x0 11 50 (fun f9 => (f9 ≠ 0 ∧ rdO h3 x0 11 51 (fun o10 => ldI h3 o10 (.int) (bRem (bDiv r2 2) f9) (fun e11 => wrF h3 x0 11 48 (.int) (vi e11) (fun h12 => pX11_drawRow_45 G d x0 (bRem (bDiv r2 2) f9) 0 h12 Q))))) else rcv h3 x0 11 (cz G mX11_drawn d 0 0 [vo x0] h3 (fun v h7 => atI v (fun r8 => pX11_drawRow_88 G d x0 (w32 (1 + (bRem r8 6))) 0 h7 Q))))))))))) : cz G mX11_drawRow (d + 1) 0 0 [vo x0] h Q := by
  refine cz_of (ls := [some (vo x0), none, none, none]) (by decide +kernel) (Nat.le_of_ble_eq_true rfl) rfl ?_
  refine rz_aload_n dX11_drawRow_0 rfl (show _ = some (some (vo x0)) from rfl) ?_
  replace hF := rcv_e hF
  obtain ⟨fs, hg, hF⟩ := hF
  refine rz_callV (mc' := 0) (ms' := 0) (mc := 0) (ms := 0) (st := []) dX11_drawRow_1 cV_X11_374 rfl hg ⟨_, _, rfl⟩ rfl (Nat.le_of_ble_eq_true rfl) hF (fun v h1 hG => ?_)
  clear hF
  revert hG
  intro hF
  replace hF := atI_e hF
  obtain ⟨r2, rfl, hF⟩ := hF
  refine rz_istore_n (ls' := [some (vo x0), some (vi r2), none, none]) dX11_drawRow_4 rfl (Nat.le_of_ble_eq_true rfl) rfl ?_
  refine rz_aload_n dX11_drawRow_5 rfl (show _ = some (some (vo x0)) from rfl) ?_
  refine rz_iconst dX11_drawRow_6 rfl (by decide) ?_
  replace hF := wrF_e hF
  obtain ⟨fs, hg, hv, hF⟩ := hF
  refine rz_putf dX11_drawRow_7 fl_X11_346 (Or.inl rfl) hg hv ?_
  refine rz_aload_n dX11_drawRow_10 rfl (show _ = some (some (vo x0)) from rfl) ?_
  replace hF := rdI_e hF
  obtain ⟨fs, f4, hg, hv, hF⟩ := hF
  refine rz_getf dX11_drawRow_11 fl_X11_343 hg hv ?_
  refine rz_if_le (tgt := 76) dX11_drawRow_14 (by decide) (fun c => ?_) (fun c => ?_)
  · replace hF := ite_t hF c
    refine rz_iconst dX11_drawRow_76 rfl (by decide) ?_
    refine rz_aload_n dX11_drawRow_77 rfl (show _ = some (some (vo x0)) from rfl) ?_
    replace hF := rcv_e hF
    obtain ⟨fs, hg, hF⟩ := hF
    refine rz_callV (mc' := 0) (ms' := 0) (mc := 0) (ms := 0) (st := [vi 1]) dX11_drawRow_78 cV_X11_374 rfl hg ⟨_, _, rfl⟩ rfl (Nat.le_of_ble_eq_true rfl) hF (fun v h5 hG => ?_)
    clear hF
    revert hG
    intro hF
    replace hF := atI_e hF
    obtain ⟨r6, rfl, hF⟩ := hF
    refine rz_bipush (v := 6) dX11_drawRow_81 (by decide) (by decide) ?_
    refine rz_irem dX11_drawRow_83 (by decide) ?_
    refine rz_iadd dX11_drawRow_84 ?_
    refine rz_istore_n (ls' := [some (vo x0), some (vi r2), some (vi (w32 (1 + (bRem r6 6)))), none]) dX11_drawRow_85 rfl (Nat.le_of_ble_eq_true rfl) rfl ?_
    refine rz_iconst dX11_drawRow_86 rfl (by decide) ?_
    refine rz_istore_n (ls' := [some (vo x0), some (vi r2), some (vi (w32 (1 + (bRem r6 6)))), some (vi 0)]) dX11_drawRow_87 rfl (Nat.le_of_ble_eq_true rfl) rfl ?_
    refine ez_kp [true, false, true, true] rfl ?_
    exact hF
  · replace hF := ite_f hF c
    refine rz_iload_n dX11_drawRow_17 rfl (show _ = some (some (vi r2)) from rfl) ?_
    refine rz_iconst dX11_drawRow_18 rfl (by decide) ?_
    refine rz_iand dX11_drawRow_19 ?_
    refine rz_iconst dX11_drawRow_20 rfl (by decide) ?_
    refine rz_icmp_ne (tgt := 76) dX11_drawRow_21 (by decide) (fun c => ?_) (fun c => ?_)
    · replace hF := ite_f hF c
      refine rz_iconst dX11_drawRow_76 rfl (by decide) ?_
      refine rz_aload_n dX11_drawRow_77 rfl (show _ = some (some (vo x0)) from rfl) ?_
      replace hF := rcv_e hF
      obtain ⟨fs, hg, hF⟩ := hF
      refine rz_callV (mc' := 0) (ms' := 0) (mc := 0) (ms := 0) (st := [vi 1]) dX11_drawRow_78 cV_X11_374 rfl hg ⟨_, _, rfl⟩ rfl (Nat.le_of_ble_eq_true rfl) hF (fun v h7 hG => ?_)
      clear hF
      revert hG
      intro hF
      replace hF := atI_e hF
      obtain ⟨r8, rfl, hF⟩ := hF
      refine rz_bipush (v := 6) dX11_drawRow_81 (by decide) (by decide) ?_
      refine rz_irem dX11_drawRow_83 (by decide) ?_
      refine rz_iadd dX11_drawRow_84 ?_
      refine rz_istore_n (ls' := [some (vo x0), some (vi r2), some (vi (w32 (1 + (bRem r8 6)))), none]) dX11_drawRow_85 rfl (Nat.le_of_ble_eq_true rfl) rfl ?_
      refine rz_iconst dX11_drawRow_86 rfl (by decide) ?_
      refine rz_istore_n (ls' := [some (vo x0), some (vi r2), some (vi (w32 (1 + (bRem r8 6)))), some (vi 0)]) dX11_drawRow_87 rfl (Nat.le_of_ble_eq_true rfl) rfl ?_
      refine ez_kp [true, false, true, true] rfl ?_
      exact hF
    · replace hF := ite_t hF c
      refine rz_iload_n dX11_drawRow_24 rfl (show _ = some (some (vi r2)) from rfl) ?_
      refine rz_iconst dX11_drawRow_25 rfl (by decide) ?_
      refine rz_idiv dX11_drawRow_26 (by decide) ?_
      refine rz_aload_n dX11_drawRow_27 rfl (show _ = some (some (vo x0)) from rfl) ?_
      replace hF := rdI_e hF
      obtain ⟨fs, f9, hg, hv, hF⟩ := hF
      refine rz_getf dX11_drawRow_28 fl_X11_343 hg hv ?_
      obtain ⟨hne, hF⟩ := hF
      refine rz_irem dX11_drawRow_31 hne ?_
      refine rz_istore_n (ls' := [some (vo x0), some (vi r2), some (vi (bRem (bDiv r2 2) f9)), none]) dX11_drawRow_32 rfl (Nat.le_of_ble_eq_true rfl) rfl ?_
      refine rz_aload_n dX11_drawRow_33 rfl (show _ = some (some (vo x0)) from rfl) ?_
      refine rz_aload_n dX11_drawRow_34 rfl (show _ = some (some (vo x0)) from rfl) ?_
      replace hF := rdO_e hF
      obtain ⟨fs, o10, hg, hv, hF⟩ := hF
      refine rz_getf dX11_drawRow_35 fl_X11_95 hg hv ?_
      refine rz_iload_n dX11_drawRow_38 rfl (show _ = some (some (vi (bRem (bDiv r2 2) f9))) from rfl) ?_
      replace hF := ldI_e hF
      obtain ⟨xs, hg, h0, h1, hF⟩ := hF
      refine rz_iald dX11_drawRow_39 hg h0 h1 ?_
      generalize xs.getD _ 0 = e11 at hF ⊢
      replace hF := wrF_e hF
      obtain ⟨fs, hg, hv, hF⟩ := hF
      refine rz_putf dX11_drawRow_40 fl_X11_346 (Or.inl rfl) hg hv ?_
      refine rz_iconst dX11_drawRow_43 rfl (by decide) ?_
      refine rz_istore_n (ls' := [some (vo x0), some (vi r2), some (vi (bRem (bDiv r2 2) f9)), some (vi 0)]) dX11_drawRow_44 rfl (Nat.le_of_ble_eq_true rfl) rfl ?_
      refine ez_kp [true, false, true, true] rfl ?_
      exact hF
def pX11_draw_49 (G : az_G) (d : Nat) (x0 : Nat) (x1 : Int) (x3 : Int) (x4 : Int) (h : az_H) (Q : Option az_V → az_H → Prop) : Prop := ez G mX11_draw (d + 1) 0 0 49 [some (vo x0), some (vi x1), none, some (vi x3), some (vi x4), none, none] [] h Q
def pX11_draw_99 (G : az_G) (d : Nat) (x0 : Nat) (x1 : Int) (x3 : Int) (x4 : Int) (x5 : Int) (s0 : Int) (s1 : Option Nat) (h : az_H) (Q : Option az_V → az_H → Prop) : Prop := ez G mX11_draw (d + 1) 0 0 99 [some (vo x0), some (vi x1), none, some (vi x3), some (vi x4), some (vi x5), none] [vi s0, vr s1] h Q
def pX11_draw_134 (G : az_G) (d : Nat) (x0 : Nat) (x1 : Int) (x3 : Int) (x4 : Int) (x5 : Int) (x6 : Int) (h : az_H) (Q : Option az_V → az_H → Prop) : Prop := ez G mX11_draw (d + 1) 0 0 134 [some (vo x0), some (vi x1), none, some (vi x3), some (vi x4), some (vi x5), some (vi x6)] [] h Q
theorem vX11_draw_134 {G : az_G} {d : Nat} {x0 : Nat} {x1 : Int} {x3 : Int} {x4 : Int} {x5 : Int} {x6 : Int} {h : az_H} {Q : Option az_V → az_H → Prop} (hF : rdI h x0 11 48 (fun f1 => (if f1 ≤ x6 then rdI h x0 11 50 (fun f2 => wrF h x0 11 50 (.int) (vi (w32 (f2 + 1))) (fun h3 => (if x5 < 0 then pX11_draw_49 G d x0 x1 x3 (w32 (x4 + 1)) h3 Q else rcv h3 x0 11 (cz G mX11_makeLeast d 0 0 [vo x0, vi x1] h3 (fun v h4 => atV v (rcv h4 x0 11 (cz G mX11_keepRow d 0 0 [vo x0] h4 (fun v h5 => atI v (fun r6 => Q (some (vi r6)) h5))))))))) else rdO h x0 11 52 (fun o7 => rdI h x0 11 50 (fun f8 => rdO h x0 11 49 (fun o9 => ldI h o9 (.int) x6 (fun e10 => stI h o7 .int (w32 ((w32 (12 * f8)) + x6)) e10 (fun h11 => pX11_draw_134 G d x0 x1 x3 x4 x5 (w32 (x6 + 1)) h11 Q)))))))) : pX11_draw_134 G d x0 x1 x3 x4 x5 x6 h Q := by
  unfold pX11_draw_134
  refine rz_iload dX11_draw_134 (show _ = some (some (vi x6)) from rfl) ?_
  refine rz_aload_n dX11_draw_136 rfl (show _ = some (some (vo x0)) from rfl) ?_
  replace hF := rdI_e hF
  obtain ⟨fs, f1, hg, hv, hF⟩ := hF
  refine rz_getf dX11_draw_137 fl_X11_346 hg hv ?_
  refine rz_icmp_ge (tgt := 171) dX11_draw_140 (by decide) (fun c => ?_) (fun c => ?_)
  · replace hF := ite_t hF c
    refine rz_aload_n dX11_draw_171 rfl (show _ = some (some (vo x0)) from rfl) ?_
    refine rz_dup dX11_draw_172 (by rintro ⟨_, q⟩; cases q) ?_
    replace hF := rdI_e hF
    obtain ⟨fs, f2, hg, hv, hF⟩ := hF
    refine rz_getf dX11_draw_173 fl_X11_343 hg hv ?_
    refine rz_iconst dX11_draw_176 rfl (by decide) ?_
    refine rz_iadd dX11_draw_177 ?_
    replace hF := wrF_e hF
    obtain ⟨fs, hg, hv, hF⟩ := hF
    refine rz_putf dX11_draw_178 fl_X11_343 (Or.inl rfl) hg hv ?_
    refine rz_iload dX11_draw_181 (show _ = some (some (vi x5)) from rfl) ?_
    refine rz_if_lt (tgt := 196) dX11_draw_183 (by decide) (fun c => ?_) (fun c => ?_)
    · replace hF := ite_t hF c
      refine rz_iinc (ls' := [some (vo x0), some (vi x1), none, some (vi x3), some (vi (w32 (x4 + 1))), some (vi x5), some (vi x6)]) dX11_draw_196 rfl (Nat.le_of_ble_eq_true rfl) rfl ?_
      refine rz_goto (tgt := 49) dX11_draw_199 (by decide) ?_
      refine ez_kp [true, true, false, true, true, false, false] rfl ?_
      exact hF
    · replace hF := ite_f hF c
      refine rz_aload_n dX11_draw_186 rfl (show _ = some (some (vo x0)) from rfl) ?_
      refine rz_iload_n dX11_draw_187 rfl (show _ = some (some (vi x1)) from rfl) ?_
      replace hF := rcv_e hF
      obtain ⟨fs, hg, hF⟩ := hF
      refine rz_callV (mc' := 0) (ms' := 0) (mc := 0) (ms := 0) (st := []) dX11_draw_188 cV_X11_382 rfl hg ⟨_, _, rfl⟩ rfl (Nat.le_of_ble_eq_true rfl) hF (fun v h4 hG => ?_)
      clear hF
      revert hG
      intro hF
      replace hF := atV_e hF
      obtain ⟨rfl, hF⟩ := hF
      refine rz_aload_n dX11_draw_191 rfl (show _ = some (some (vo x0)) from rfl) ?_
      replace hF := rcv_e hF
      obtain ⟨fs, hg, hF⟩ := hF
      refine rz_callV (mc' := 0) (ms' := 0) (mc := 0) (ms := 0) (st := []) dX11_draw_192 cV_X11_367 rfl hg ⟨_, _, rfl⟩ rfl (Nat.le_of_ble_eq_true rfl) hF (fun v h5 hG => ?_)
      clear hF
      revert hG
      intro hF
      replace hF := atI_e hF
      obtain ⟨r6, rfl, hF⟩ := hF
      exact rz_iret dX11_draw_195 trivial hF
  · replace hF := ite_f hF c
    refine rz_aload_n dX11_draw_143 rfl (show _ = some (some (vo x0)) from rfl) ?_
    replace hF := rdO_e hF
    obtain ⟨fs, o7, hg, hv, hF⟩ := hF
    refine rz_getf dX11_draw_144 fl_X11_98 hg hv ?_
    refine rz_bipush (v := 12) dX11_draw_147 (by decide) (by decide) ?_
    refine rz_aload_n dX11_draw_149 rfl (show _ = some (some (vo x0)) from rfl) ?_
    replace hF := rdI_e hF
    obtain ⟨fs, f8, hg, hv, hF⟩ := hF
    refine rz_getf dX11_draw_150 fl_X11_343 hg hv ?_
    refine rz_imul dX11_draw_153 ?_
    refine rz_iload dX11_draw_154 (show _ = some (some (vi x6)) from rfl) ?_
    refine rz_iadd dX11_draw_156 ?_
    refine rz_aload_n dX11_draw_157 rfl (show _ = some (some (vo x0)) from rfl) ?_
    replace hF := rdO_e hF
    obtain ⟨fs, o9, hg, hv, hF⟩ := hF
    refine rz_getf dX11_draw_158 fl_X11_92 hg hv ?_
    refine rz_iload dX11_draw_161 (show _ = some (some (vi x6)) from rfl) ?_
    replace hF := ldI_e hF
    obtain ⟨xs, hg, h0, h1, hF⟩ := hF
    refine rz_iald dX11_draw_163 hg h0 h1 ?_
    generalize xs.getD _ 0 = e10 at hF ⊢
    replace hF := stI_e hF
    obtain ⟨xs, hg, h0, h1, hF⟩ := hF
    refine rz_iast dX11_draw_164 hg h0 h1 ?_
    refine rz_iinc (ls' := [some (vo x0), some (vi x1), none, some (vi x3), some (vi x4), some (vi x5), some (vi (w32 (x6 + 1)))]) dX11_draw_165 rfl (Nat.le_of_ble_eq_true rfl) rfl ?_
    refine rz_goto (tgt := 134) dX11_draw_168 (by decide) ?_
    exact hF
theorem vX11_draw_99 {G : az_G} {d : Nat} {x0 : Nat} {x1 : Int} {x3 : Int} {x4 : Int} {x5 : Int} {s0 : Int} {s1 : Option Nat} {h : az_H} {Q : Option az_V → az_H → Prop} (hF : nnR s1 (fun a1 => wrF h a1 11 48 (.int) (vi s0) (fun h2 => rdI h2 x0 11 30 (fun f3 => (if f3 = 0 then (if x5 < 0 then pX11_draw_49 G d x0 x1 x3 (w32 (x4 + 1)) h2 Q else rcv h2 x0 11 (cz G mX11_makeLeast d 0 0 [vo x0, vi x1] h2 (fun v h4 => atV v (rcv h4 x0 11 (cz G mX11_keepRow d 0 0 [vo x0] h4 (fun v h5 => atI v (fun r6 => Q (some (vi r6)) h5))))))) else rdI h2 x0 11 50 (fun f7 => (if 8 ≤ f7 then (if x5 < 0 then pX11_draw_49 G d x0 x1 x3 (w32 (x4 + 1)) h2 Q else rcv h2 x0 11 (cz G mX11_makeLeast d 0 0 [vo x0, vi x1] h2 (fun v h8 => atV v (rcv h8 x0 11 (cz G mX11_keepRow d 0 0 [vo x0] h8 (fun v h9 => atI v (fun r10 => Q (some (vi r10)) h9))))))) else rdO h2 x0 11 51 (fun o11 => rdI h2 x0 11 50 (fun f12 => rdI h2 x0 11 48 (fun f13 => stI h2 o11 .int f12 f13 (fun h14 => pX11_draw_134 G d x0 x1 x3 x4 x5 0 h14 Q))))))))))) : pX11_draw_99 G d x0 x1 x3 x4 x5 s0 s1 h Q := by
  unfold pX11_draw_99
  replace hF := nnR_e hF
  obtain ⟨a1, ea1, hF⟩ := hF
  subst ea1
  replace hF := wrF_e hF
  obtain ⟨fs, hg, hv, hF⟩ := hF
  refine rz_putf dX11_draw_99 fl_X11_346 (Or.inl rfl) hg hv ?_
  refine rz_aload_n dX11_draw_102 rfl (show _ = some (some (vo x0)) from rfl) ?_
  replace hF := rdI_e hF
  obtain ⟨fs, f3, hg, hv, hF⟩ := hF
  refine rz_getf dX11_draw_103 fl_X11_286 hg hv ?_
  refine rz_if_eq (tgt := 181) dX11_draw_106 (by decide) (fun c => ?_) (fun c => ?_)
  · replace hF := ite_t hF c
    refine rz_iload dX11_draw_181 (show _ = some (some (vi x5)) from rfl) ?_
    refine rz_if_lt (tgt := 196) dX11_draw_183 (by decide) (fun c => ?_) (fun c => ?_)
    · replace hF := ite_t hF c
      refine rz_iinc (ls' := [some (vo x0), some (vi x1), none, some (vi x3), some (vi (w32 (x4 + 1))), some (vi x5), none]) dX11_draw_196 rfl (Nat.le_of_ble_eq_true rfl) rfl ?_
      refine rz_goto (tgt := 49) dX11_draw_199 (by decide) ?_
      refine ez_kp [true, true, false, true, true, false, false] rfl ?_
      exact hF
    · replace hF := ite_f hF c
      refine rz_aload_n dX11_draw_186 rfl (show _ = some (some (vo x0)) from rfl) ?_
      refine rz_iload_n dX11_draw_187 rfl (show _ = some (some (vi x1)) from rfl) ?_
      replace hF := rcv_e hF
      obtain ⟨fs, hg, hF⟩ := hF
      refine rz_callV (mc' := 0) (ms' := 0) (mc := 0) (ms := 0) (st := []) dX11_draw_188 cV_X11_382 rfl hg ⟨_, _, rfl⟩ rfl (Nat.le_of_ble_eq_true rfl) hF (fun v h4 hG => ?_)
      clear hF
      revert hG
      intro hF
      replace hF := atV_e hF
      obtain ⟨rfl, hF⟩ := hF
      refine rz_aload_n dX11_draw_191 rfl (show _ = some (some (vo x0)) from rfl) ?_
      replace hF := rcv_e hF
      obtain ⟨fs, hg, hF⟩ := hF
      refine rz_callV (mc' := 0) (ms' := 0) (mc := 0) (ms := 0) (st := []) dX11_draw_192 cV_X11_367 rfl hg ⟨_, _, rfl⟩ rfl (Nat.le_of_ble_eq_true rfl) hF (fun v h5 hG => ?_)
      clear hF
      revert hG
      intro hF
      replace hF := atI_e hF
      obtain ⟨r6, rfl, hF⟩ := hF
      exact rz_iret dX11_draw_195 trivial hF
  · replace hF := ite_f hF c
    refine rz_aload_n dX11_draw_109 rfl (show _ = some (some (vo x0)) from rfl) ?_
    replace hF := rdI_e hF
    obtain ⟨fs, f7, hg, hv, hF⟩ := hF
    refine rz_getf dX11_draw_110 fl_X11_343 hg hv ?_
    refine rz_bipush (v := 8) dX11_draw_113 (by decide) (by decide) ?_
    refine rz_icmp_ge (tgt := 181) dX11_draw_115 (by decide) (fun c => ?_) (fun c => ?_)
    · replace hF := ite_t hF c
      refine rz_iload dX11_draw_181 (show _ = some (some (vi x5)) from rfl) ?_
      refine rz_if_lt (tgt := 196) dX11_draw_183 (by decide) (fun c => ?_) (fun c => ?_)
      · replace hF := ite_t hF c
        refine rz_iinc (ls' := [some (vo x0), some (vi x1), none, some (vi x3), some (vi (w32 (x4 + 1))), some (vi x5), none]) dX11_draw_196 rfl (Nat.le_of_ble_eq_true rfl) rfl ?_
        refine rz_goto (tgt := 49) dX11_draw_199 (by decide) ?_
        refine ez_kp [true, true, false, true, true, false, false] rfl ?_
        exact hF
      · replace hF := ite_f hF c
        refine rz_aload_n dX11_draw_186 rfl (show _ = some (some (vo x0)) from rfl) ?_
        refine rz_iload_n dX11_draw_187 rfl (show _ = some (some (vi x1)) from rfl) ?_
        replace hF := rcv_e hF
        obtain ⟨fs, hg, hF⟩ := hF
        refine rz_callV (mc' := 0) (ms' := 0) (mc := 0) (ms := 0) (st := []) dX11_draw_188 cV_X11_382 rfl hg ⟨_, _, rfl⟩ rfl (Nat.le_of_ble_eq_true rfl) hF (fun v h8 hG => ?_)
        clear hF
        revert hG
        intro hF
        replace hF := atV_e hF
        obtain ⟨rfl, hF⟩ := hF
        refine rz_aload_n dX11_draw_191 rfl (show _ = some (some (vo x0)) from rfl) ?_
        replace hF := rcv_e hF
        obtain ⟨fs, hg, hF⟩ := hF
        refine rz_callV (mc' := 0) (ms' := 0) (mc := 0) (ms := 0) (st := []) dX11_draw_192 cV_X11_367 rfl hg ⟨_, _, rfl⟩ rfl (Nat.le_of_ble_eq_true rfl) hF (fun v h9 hG => ?_)
        clear hF
        revert hG
        intro hF
        replace hF := atI_e hF
        obtain ⟨r10, rfl, hF⟩ := hF
        exact rz_iret dX11_draw_195 trivial hF
    · replace hF := ite_f hF c
      refine rz_aload_n dX11_draw_118 rfl (show _ = some (some (vo x0)) from rfl) ?_
      replace hF := rdO_e hF
      obtain ⟨fs, o11, hg, hv, hF⟩ := hF
      refine rz_getf dX11_draw_119 fl_X11_95 hg hv ?_
      refine rz_aload_n dX11_draw_122 rfl (show _ = some (some (vo x0)) from rfl) ?_
      replace hF := rdI_e hF
      obtain ⟨fs, f12, hg, hv, hF⟩ := hF
      refine rz_getf dX11_draw_123 fl_X11_343 hg hv ?_
      refine rz_aload_n dX11_draw_126 rfl (show _ = some (some (vo x0)) from rfl) ?_
      replace hF := rdI_e hF
      obtain ⟨fs, f13, hg, hv, hF⟩ := hF
      refine rz_getf dX11_draw_127 fl_X11_346 hg hv ?_
      replace hF := stI_e hF
      obtain ⟨xs, hg, h0, h1, hF⟩ := hF
      refine rz_iast dX11_draw_130 hg h0 h1 ?_
      refine rz_iconst dX11_draw_131 rfl (by decide) ?_
      refine rz_istore (ls' := [some (vo x0), some (vi x1), none, some (vi x3), some (vi x4), some (vi x5), some (vi 0)]) dX11_draw_132 (Nat.le_of_ble_eq_true rfl) rfl ?_
      exact hF
theorem vX11_draw_49 {G : az_G} {d : Nat} {x0 : Nat} {x1 : Int} {x3 : Int} {x4 : Int} {h : az_H} {Q : Option az_V → az_H → Prop} (hF : (if x3 ≤ x4 then Q (some (vi ((-2)))) h else rcv h x0 11 (cz G mX11_drawRow d 0 0 [vo x0] h (fun v h1 => atV v (wrF h1 x0 11 29 (.boolean) (vi 1) (fun h2 => wrF h2 x0 11 30 (.boolean) (vi 0) (fun h3 => rcv h3 x0 11 (cz G mX11_breaksAt d 0 0 [vo x0, vi x1, vi ((-1))] h3 (fun v h4 => atI v (fun r5 => wrF h4 x0 11 29 (.boolean) (vi 0) (fun h6 => (if 0 ≤ r5 then pX11_draw_99 G d x0 x1 x3 x4 r5 (w32 (r5 + 1)) (some x0) h6 Q else rdI h6 x0 11 48 (fun f7 => pX11_draw_99 G d x0 x1 x3 x4 r5 f7 (some x0) h6 Q))))))))))))) : pX11_draw_49 G d x0 x1 x3 x4 h Q := by
  unfold pX11_draw_49
  refine rz_iload dX11_draw_49 (show _ = some (some (vi x4)) from rfl) ?_
  refine rz_iload_n dX11_draw_51 rfl (show _ = some (some (vi x3)) from rfl) ?_
  refine rz_icmp_ge (tgt := 202) dX11_draw_52 (by decide) (fun c => ?_) (fun c => ?_)
  · replace hF := ite_t hF c
    refine rz_bipush (v := (-2)) dX11_draw_202 (by decide) (by decide) ?_
    exact rz_iret dX11_draw_204 trivial hF
  · replace hF := ite_f hF c
    refine rz_aload_n dX11_draw_55 rfl (show _ = some (some (vo x0)) from rfl) ?_
    replace hF := rcv_e hF
    obtain ⟨fs, hg, hF⟩ := hF
    refine rz_callV (mc' := 0) (ms' := 0) (mc := 0) (ms := 0) (st := []) dX11_draw_56 cV_X11_379 rfl hg ⟨_, _, rfl⟩ rfl (Nat.le_of_ble_eq_true rfl) hF (fun v h1 hG => ?_)
    clear hF
    revert hG
    intro hF
    replace hF := atV_e hF
    obtain ⟨rfl, hF⟩ := hF
    refine rz_aload_n dX11_draw_59 rfl (show _ = some (some (vo x0)) from rfl) ?_
    refine rz_iconst dX11_draw_60 rfl (by decide) ?_
    replace hF := wrF_e hF
    obtain ⟨fs, hg, hv, hF⟩ := hF
    refine rz_putf dX11_draw_61 fl_X11_283 (Or.inl rfl) hg hv ?_
    refine rz_aload_n dX11_draw_64 rfl (show _ = some (some (vo x0)) from rfl) ?_
    refine rz_iconst dX11_draw_65 rfl (by decide) ?_
    replace hF := wrF_e hF
    obtain ⟨fs, hg, hv, hF⟩ := hF
    refine rz_putf dX11_draw_66 fl_X11_286 (Or.inl rfl) hg hv ?_
    refine rz_aload_n dX11_draw_69 rfl (show _ = some (some (vo x0)) from rfl) ?_
    refine rz_iload_n dX11_draw_70 rfl (show _ = some (some (vi x1)) from rfl) ?_
    refine rz_iconst dX11_draw_71 rfl (by decide) ?_
    replace hF := rcv_e hF
    obtain ⟨fs, hg, hF⟩ := hF
    refine rz_callV (mc' := 0) (ms' := 0) (mc := 0) (ms := 0) (st := []) dX11_draw_72 cV_X11_352 rfl hg ⟨_, _, rfl⟩ rfl (Nat.le_of_ble_eq_true rfl) hF (fun v h4 hG => ?_)
    clear hF
    revert hG
    intro hF
    replace hF := atI_e hF
    obtain ⟨r5, rfl, hF⟩ := hF
    refine rz_istore (ls' := [some (vo x0), some (vi x1), none, some (vi x3), some (vi x4), some (vi r5), none]) dX11_draw_75 (Nat.le_of_ble_eq_true rfl) rfl ?_
    refine rz_aload_n dX11_draw_77 rfl (show _ = some (some (vo x0)) from rfl) ?_
    refine rz_iconst dX11_draw_78 rfl (by decide) ?_
    replace hF := wrF_e hF
    obtain ⟨fs, hg, hv, hF⟩ := hF
    refine rz_putf dX11_draw_79 fl_X11_283 (Or.inl rfl) hg hv ?_
    refine rz_aload_n dX11_draw_82 rfl (show _ = some (some (vo x0)) from rfl) ?_
    refine rz_iload dX11_draw_83 (show _ = some (some (vi r5)) from rfl) ?_
    refine rz_if_ge (tgt := 95) dX11_draw_85 (by decide) (fun c => ?_) (fun c => ?_)
    · replace hF := ite_t hF c
      refine rz_iload dX11_draw_95 (show _ = some (some (vi r5)) from rfl) ?_
      refine rz_iconst dX11_draw_97 rfl (by decide) ?_
      refine rz_iadd dX11_draw_98 ?_
      exact hF
    · replace hF := ite_f hF c
      refine rz_aload_n dX11_draw_88 rfl (show _ = some (some (vo x0)) from rfl) ?_
      replace hF := rdI_e hF
      obtain ⟨fs, f7, hg, hv, hF⟩ := hF
      refine rz_getf dX11_draw_89 fl_X11_346 hg hv ?_
      refine rz_goto (tgt := 99) dX11_draw_92 (by decide) ?_
      exact hF
theorem vX11_draw {G : az_G} {d : Nat} {x0 : Nat} {x1 : Int} {x2 : Int} {x3 : Int} {h : az_H} {Q : Option az_V → az_H → Prop} (hF : rcv h x0 11 (cz G mX11_isRule d 0 0 [vo x0, vi x1] h (fun v h1 => atI v (fun r2 => (if r2 = 0 then Q (some (vi ((-1)))) h1 else cz G mX11_in d 0 0 [vl x3, vl 1, vl 200] h1 (fun v h3 => atI v (fun r4 => (if r4 = 0 then Q (some (vi ((-1)))) h3 else rdI h3 x0 11 40 (fun f5 => (if f5 = 0 then Q (some (vi ((-1)))) h3 else rdI h3 x0 11 45 (fun f6 => (if f6 = 20 then Q (some (vi ((-3)))) h3 else wrF h3 x0 11 58 (.int) (vi x2) (fun h7 => pX11_draw_49 G d x0 x1 x3 0 h7 Q))))))))))))) : cz G mX11_draw (d + 1) 0 0 [vo x0, vi x1, vi x2, vi x3] h Q := by
  refine cz_of (ls := [some (vo x0), some (vi x1), some (vi x2), some (vi x3), none, none, none]) (by decide +kernel) (Nat.le_of_ble_eq_true rfl) rfl ?_
  refine rz_aload_n dX11_draw_0 rfl (show _ = some (some (vo x0)) from rfl) ?_
  refine rz_iload_n dX11_draw_1 rfl (show _ = some (some (vi x1)) from rfl) ?_
  replace hF := rcv_e hF
  obtain ⟨fs, hg, hF⟩ := hF
  refine rz_callV (mc' := 0) (ms' := 0) (mc := 0) (ms := 0) (st := []) dX11_draw_2 cV_X11_331 rfl hg ⟨_, _, rfl⟩ rfl (Nat.le_of_ble_eq_true rfl) hF (fun v h1 hG => ?_)
  clear hF
  revert hG
  intro hF
  replace hF := atI_e hF
  obtain ⟨r2, rfl, hF⟩ := hF
  refine rz_if_eq (tgt := 27) dX11_draw_5 (by decide) (fun c => ?_) (fun c => ?_)
  · replace hF := ite_t hF c
    refine rz_iconst dX11_draw_27 rfl (by decide) ?_
    exact rz_iret dX11_draw_28 trivial hF
  · replace hF := ite_f hF c
    refine rz_iload_n dX11_draw_8 rfl (show _ = some (some (vi x3)) from rfl) ?_
    refine rz_i2l dX11_draw_9 ?_
    refine rz_lconst (v := 1) dX11_draw_10 (by decide) (by decide) ?_
    refine rz_ldc2 (v := 200) dX11_draw_11 k_1471 (by decide) ?_
    refine rz_callS (mc' := 0) (ms' := 0) (mc := 0) (ms := 0) (st := []) dX11_draw_14 cS_X11_117 rfl rfl (Nat.le_of_ble_eq_true rfl) hF (fun v h3 hG => ?_)
    clear hF
    revert hG
    intro hF
    replace hF := atI_e hF
    obtain ⟨r4, rfl, hF⟩ := hF
    refine rz_if_eq (tgt := 27) dX11_draw_17 (by decide) (fun c => ?_) (fun c => ?_)
    · replace hF := ite_t hF c
      refine rz_iconst dX11_draw_27 rfl (by decide) ?_
      exact rz_iret dX11_draw_28 trivial hF
    · replace hF := ite_f hF c
      refine rz_aload_n dX11_draw_20 rfl (show _ = some (some (vo x0)) from rfl) ?_
      replace hF := rdI_e hF
      obtain ⟨fs, f5, hg, hv, hF⟩ := hF
      refine rz_getf dX11_draw_21 fl_X11_337 hg hv ?_
      refine rz_if_ne (tgt := 29) dX11_draw_24 (by decide) (fun c => ?_) (fun c => ?_)
      · replace hF := ite_f hF c
        refine rz_aload_n dX11_draw_29 rfl (show _ = some (some (vo x0)) from rfl) ?_
        replace hF := rdI_e hF
        obtain ⟨fs, f6, hg, hv, hF⟩ := hF
        refine rz_getf dX11_draw_30 fl_X11_340 hg hv ?_
        refine rz_bipush (v := 20) dX11_draw_33 (by decide) (by decide) ?_
        refine rz_icmp_ne (tgt := 41) dX11_draw_35 (by decide) (fun c => ?_) (fun c => ?_)
        · replace hF := ite_f hF c
          refine rz_aload_n dX11_draw_41 rfl (show _ = some (some (vo x0)) from rfl) ?_
          refine rz_iload_n dX11_draw_42 rfl (show _ = some (some (vi x2)) from rfl) ?_
          replace hF := wrF_e hF
          obtain ⟨fs, hg, hv, hF⟩ := hF
          refine rz_putf dX11_draw_43 fl_X11_370 (Or.inl rfl) hg hv ?_
          refine rz_iconst dX11_draw_46 rfl (by decide) ?_
          refine rz_istore (ls' := [some (vo x0), some (vi x1), some (vi x2), some (vi x3), some (vi 0), none, none]) dX11_draw_47 (Nat.le_of_ble_eq_true rfl) rfl ?_
          refine ez_kp [true, true, false, true, true, false, false] rfl ?_
          exact hF
        · replace hF := ite_t hF c
          refine rz_bipush (v := (-3)) dX11_draw_38 (by decide) (by decide) ?_
          exact rz_iret dX11_draw_40 trivial hF
      · replace hF := ite_t hF c
        refine rz_iconst dX11_draw_27 rfl (by decide) ?_
        exact rz_iret dX11_draw_28 trivial hF
def pX11_row_17 (G : az_G) (d : Nat) (x0 : Nat) (x1 : Int) (x3 : Int) (x4 : Int) (h : az_H) (Q : Option az_V → az_H → Prop) : Prop := ez G mX11_row (d + 1) 0 0 17 [some (vo x0), some (vl x1), none, some (vi x3), some (vi x4)] [] h Q
def pX11_row_70 (G : az_G) (d : Nat) (x0 : Nat) (x1 : Int) (x3 : Int) (x4 : Int) (h : az_H) (Q : Option az_V → az_H → Prop) : Prop := ez G mX11_row (d + 1) 0 0 70 [some (vo x0), some (vl x1), none, some (vi x3), some (vi x4)] [] h Q
theorem vX11_row_70 {G : az_G} {d : Nat} {x0 : Nat} {x1 : Int} {x3 : Int} {x4 : Int} {h : az_H} {Q : Option az_V → az_H → Prop} (hF : (if x3 ≤ x4 then rcv h x0 11 (cz G mX11_keepRow d 0 0 [vo x0] h (fun v h1 => atI v (fun r2 => Q (some (vi r2)) h1))) else rdO h x0 11 49 (fun o3 => stI h o3 .int x4 (w32 (lAnd (lShr x1 (w32 (5 * x4))) 31)) (fun h4 => pX11_row_70 G d x0 x1 x3 (w32 (x4 + 1)) h4 Q)))) : pX11_row_70 G d x0 x1 x3 x4 h Q := by
  unfold pX11_row_70
  refine rz_iload dX11_row_70 (show _ = some (some (vi x4)) from rfl) ?_
  refine rz_iload_n dX11_row_72 rfl (show _ = some (some (vi x3)) from rfl) ?_
  refine rz_icmp_ge (tgt := 100) dX11_row_73 (by decide) (fun c => ?_) (fun c => ?_)
  · replace hF := ite_t hF c
    refine rz_aload_n dX11_row_100 rfl (show _ = some (some (vo x0)) from rfl) ?_
    replace hF := rcv_e hF
    obtain ⟨fs, hg, hF⟩ := hF
    refine rz_callV (mc' := 0) (ms' := 0) (mc := 0) (ms := 0) (st := []) dX11_row_101 cV_X11_367 rfl hg ⟨_, _, rfl⟩ rfl (Nat.le_of_ble_eq_true rfl) hF (fun v h1 hG => ?_)
    clear hF
    revert hG
    intro hF
    replace hF := atI_e hF
    obtain ⟨r2, rfl, hF⟩ := hF
    exact rz_iret dX11_row_104 trivial hF
  · replace hF := ite_f hF c
    refine rz_aload_n dX11_row_76 rfl (show _ = some (some (vo x0)) from rfl) ?_
    replace hF := rdO_e hF
    obtain ⟨fs, o3, hg, hv, hF⟩ := hF
    refine rz_getf dX11_row_77 fl_X11_92 hg hv ?_
    refine rz_iload dX11_row_80 (show _ = some (some (vi x4)) from rfl) ?_
    refine rz_lload_n dX11_row_82 rfl (show _ = some (some (vl x1)) from rfl) ?_
    refine rz_iconst dX11_row_83 rfl (by decide) ?_
    refine rz_iload dX11_row_84 (show _ = some (some (vi x4)) from rfl) ?_
    refine rz_imul dX11_row_86 ?_
    refine rz_lshr dX11_row_87 ?_
    refine rz_ldc2 (v := 31) dX11_row_88 k_1493 (by decide) ?_
    refine rz_land dX11_row_91 ?_
    refine rz_l2i dX11_row_92 ?_
    replace hF := stI_e hF
    obtain ⟨xs, hg, h0, h1, hF⟩ := hF
    refine rz_iast dX11_row_93 hg h0 h1 ?_
    refine rz_iinc (ls' := [some (vo x0), some (vl x1), none, some (vi x3), some (vi (w32 (x4 + 1)))]) dX11_row_94 rfl (Nat.le_of_ble_eq_true rfl) rfl ?_
    refine rz_goto (tgt := 70) dX11_row_97 (by decide) ?_
    exact hF
theorem vX11_row_17 {G : az_G} {d : Nat} {x0 : Nat} {x1 : Int} {x3 : Int} {x4 : Int} {h : az_H} {Q : Option az_V → az_H → Prop} (hF : (if x3 ≤ x4 then rdI h x0 11 45 (fun f1 => (if f1 = 20 then Q (some (vi ((-3)))) h else wrF h x0 11 48 (.int) (vi x3) (fun h2 => pX11_row_70 G d x0 x1 x3 0 h2 Q))) else rdI h x0 11 40 (fun f3 => (if (lAnd (lShr x1 (w32 (5 * x4))) 31) < f3 then pX11_row_17 G d x0 x1 x3 (w32 (x4 + 1)) h Q else Q (some (vi ((-1)))) h)))) : pX11_row_17 G d x0 x1 x3 x4 h Q := by
  unfold pX11_row_17
  refine rz_iload dX11_row_17 (show _ = some (some (vi x4)) from rfl) ?_
  refine rz_iload_n dX11_row_19 rfl (show _ = some (some (vi x3)) from rfl) ?_
  refine rz_icmp_ge (tgt := 50) dX11_row_20 (by decide) (fun c => ?_) (fun c => ?_)
  · replace hF := ite_t hF c
    refine rz_aload_n dX11_row_50 rfl (show _ = some (some (vo x0)) from rfl) ?_
    replace hF := rdI_e hF
    obtain ⟨fs, f1, hg, hv, hF⟩ := hF
    refine rz_getf dX11_row_51 fl_X11_340 hg hv ?_
    refine rz_bipush (v := 20) dX11_row_54 (by decide) (by decide) ?_
    refine rz_icmp_ne (tgt := 62) dX11_row_56 (by decide) (fun c => ?_) (fun c => ?_)
    · replace hF := ite_f hF c
      refine rz_aload_n dX11_row_62 rfl (show _ = some (some (vo x0)) from rfl) ?_
      refine rz_iload_n dX11_row_63 rfl (show _ = some (some (vi x3)) from rfl) ?_
      replace hF := wrF_e hF
      obtain ⟨fs, hg, hv, hF⟩ := hF
      refine rz_putf dX11_row_64 fl_X11_346 (Or.inl rfl) hg hv ?_
      refine rz_iconst dX11_row_67 rfl (by decide) ?_
      refine rz_istore (ls' := [some (vo x0), some (vl x1), none, some (vi x3), some (vi 0)]) dX11_row_68 (Nat.le_of_ble_eq_true rfl) rfl ?_
      exact hF
    · replace hF := ite_t hF c
      refine rz_bipush (v := (-3)) dX11_row_59 (by decide) (by decide) ?_
      exact rz_iret dX11_row_61 trivial hF
  · replace hF := ite_f hF c
    refine rz_lload_n dX11_row_23 rfl (show _ = some (some (vl x1)) from rfl) ?_
    refine rz_iconst dX11_row_24 rfl (by decide) ?_
    refine rz_iload dX11_row_25 (show _ = some (some (vi x4)) from rfl) ?_
    refine rz_imul dX11_row_27 ?_
    refine rz_lshr dX11_row_28 ?_
    refine rz_ldc2 (v := 31) dX11_row_29 k_1493 (by decide) ?_
    refine rz_land dX11_row_32 ?_
    refine rz_aload_n dX11_row_33 rfl (show _ = some (some (vo x0)) from rfl) ?_
    replace hF := rdI_e hF
    obtain ⟨fs, f3, hg, hv, hF⟩ := hF
    refine rz_getf dX11_row_34 fl_X11_337 hg hv ?_
    refine rz_i2l dX11_row_37 ?_
    refine rz_lcmp dX11_row_38 ?_
    refine rz_if_lt (tgt := 44) dX11_row_39 (by decide) (fun c => ?_) (fun c => ?_)
    · replace hF := ite_t hF (lC_lt.mp c)
      refine rz_iinc (ls' := [some (vo x0), some (vl x1), none, some (vi x3), some (vi (w32 (x4 + 1)))]) dX11_row_44 rfl (Nat.le_of_ble_eq_true rfl) rfl ?_
      refine rz_goto (tgt := 17) dX11_row_47 (by decide) ?_
      exact hF
    · replace hF := ite_f hF (fun q => c (lC_lt.mpr q))
      refine rz_iconst dX11_row_42 rfl (by decide) ?_
      exact rz_iret dX11_row_43 trivial hF
theorem vX11_row {G : az_G} {d : Nat} {x0 : Nat} {x1 : Int} {x3 : Int} {h : az_H} {Q : Option az_V → az_H → Prop} (hF : cz G mX11_in d 0 0 [vl x3, vl 1, vl 12] h (fun v h1 => atI v (fun r2 => (if r2 = 0 then Q (some (vi ((-1)))) h1 else pX11_row_17 G d x0 x1 x3 0 h1 Q)))) : cz G mX11_row (d + 1) 0 0 [vo x0, vl x1, vi x3] h Q := by
  refine cz_of (ls := [some (vo x0), some (vl x1), none, some (vi x3), none]) (by decide +kernel) (Nat.le_of_ble_eq_true rfl) rfl ?_
  refine rz_iload_n dX11_row_0 rfl (show _ = some (some (vi x3)) from rfl) ?_
  refine rz_i2l dX11_row_1 ?_
  refine rz_lconst (v := 1) dX11_row_2 (by decide) (by decide) ?_
  refine rz_ldc2 (v := 12) dX11_row_3 k_1446 (by decide) ?_
  refine rz_callS (mc' := 0) (ms' := 0) (mc := 0) (ms := 0) (st := []) dX11_row_6 cS_X11_117 rfl rfl (Nat.le_of_ble_eq_true rfl) hF (fun v h1 hG => ?_)
  clear hF
  revert hG
  intro hF
  replace hF := atI_e hF
  obtain ⟨r2, rfl, hF⟩ := hF
  refine rz_if_ne (tgt := 14) dX11_row_9 (by decide) (fun c => ?_) (fun c => ?_)
  · replace hF := ite_f hF c
    refine rz_iconst dX11_row_14 rfl (by decide) ?_
    refine rz_istore (ls' := [some (vo x0), some (vl x1), none, some (vi x3), some (vi 0)]) dX11_row_15 (Nat.le_of_ble_eq_true rfl) rfl ?_
    exact hF
  · replace hF := ite_t hF c
    refine rz_iconst dX11_row_12 rfl (by decide) ?_
    exact rz_iret dX11_row_13 trivial hF
theorem vX11_isRow {G : az_G} {d : Nat} {x0 : Nat} {x1 : Int} {h : az_H} {Q : Option az_V → az_H → Prop} (hF : rdI h x0 11 45 (fun f1 => cz G mX11_in d 0 0 [vl x1, vl 0, vl (w32 (f1 - 1))] h (fun v h2 => atI v (fun r3 => (az_fit (.boolean) (vi r3) ∧ Q (some (vi r3)) h2))))) : cz G mX11_isRow (d + 1) 0 0 [vo x0, vi x1] h Q := by
  refine cz_of (ls := [some (vo x0), some (vi x1)]) (by decide +kernel) (Nat.le_of_ble_eq_true rfl) rfl ?_
  refine rz_iload_n dX11_isRow_0 rfl (show _ = some (some (vi x1)) from rfl) ?_
  refine rz_i2l dX11_isRow_1 ?_
  refine rz_lconst (v := 0) dX11_isRow_2 (by decide) (by decide) ?_
  refine rz_aload_n dX11_isRow_3 rfl (show _ = some (some (vo x0)) from rfl) ?_
  replace hF := rdI_e hF
  obtain ⟨fs, f1, hg, hv, hF⟩ := hF
  refine rz_getf dX11_isRow_4 fl_X11_340 hg hv ?_
  refine rz_iconst dX11_isRow_7 rfl (by decide) ?_
  refine rz_isub dX11_isRow_8 ?_
  refine rz_i2l dX11_isRow_9 ?_
  refine rz_callS (mc' := 0) (ms' := 0) (mc := 0) (ms := 0) (st := []) dX11_isRow_10 cS_X11_117 rfl rfl (Nat.le_of_ble_eq_true rfl) hF (fun v h2 hG => ?_)
  clear hF
  revert hG
  intro hF
  replace hF := atI_e hF
  obtain ⟨r3, rfl, hF⟩ := hF
  exact rz_iret dX11_isRow_13 hF.1 hF.2
theorem vX11_least {G : az_G} {d : Nat} {x0 : Nat} {x1 : Int} {x2 : Int} {h : az_H} {Q : Option az_V → az_H → Prop} (hF : rcv h x0 11 (cz G mX11_isRow d 0 0 [vo x0, vi x1] h (fun v h1 => atI v (fun r2 => (if r2 = 0 then Q (some (vi ((-1)))) h1 else rcv h1 x0 11 (cz G mX11_isRule d 0 0 [vo x0, vi x2] h1 (fun v h3 => atI v (fun r4 => (if r4 = 0 then Q (some (vi ((-1)))) h3 else rdI h3 x0 11 45 (fun f5 => (if f5 = 20 then Q (some (vi ((-3)))) h3 else rcv h3 x0 11 (cz G mX11_take d 0 0 [vo x0, vi x1] h3 (fun v h6 => atV v (rcv h6 x0 11 (cz G mX11_breaksAt d 0 0 [vo x0, vi x2, vi ((-1))] h6 (fun v h7 => atI v (fun r8 => (if 0 ≤ r8 then rcv h7 x0 11 (cz G mX11_makeLeast d 0 0 [vo x0, vi x2] h7 (fun v h9 => atV v (rcv h9 x0 11 (cz G mX11_keepRow d 0 0 [vo x0] h9 (fun v h10 => atI v (fun r11 => Q (some (vi r11)) h10)))))) else Q (some (vi ((-2)))) h7)))))))))))))))))) : cz G mX11_least (d + 1) 0 0 [vo x0, vi x1, vi x2] h Q := by
  refine cz_of (ls := [some (vo x0), some (vi x1), some (vi x2)]) (by decide +kernel) (Nat.le_of_ble_eq_true rfl) rfl ?_
  refine rz_aload_n dX11_least_0 rfl (show _ = some (some (vo x0)) from rfl) ?_
  refine rz_iload_n dX11_least_1 rfl (show _ = some (some (vi x1)) from rfl) ?_
  replace hF := rcv_e hF
  obtain ⟨fs, hg, hF⟩ := hF
  refine rz_callV (mc' := 0) (ms' := 0) (mc := 0) (ms := 0) (st := []) dX11_least_2 cV_X11_387 rfl hg ⟨_, _, rfl⟩ rfl (Nat.le_of_ble_eq_true rfl) hF (fun v h1 hG => ?_)
  clear hF
  revert hG
  intro hF
  replace hF := atI_e hF
  obtain ⟨r2, rfl, hF⟩ := hF
  refine rz_if_eq (tgt := 16) dX11_least_5 (by decide) (fun c => ?_) (fun c => ?_)
  · replace hF := ite_t hF c
    refine rz_iconst dX11_least_16 rfl (by decide) ?_
    exact rz_iret dX11_least_17 trivial hF
  · replace hF := ite_f hF c
    refine rz_aload_n dX11_least_8 rfl (show _ = some (some (vo x0)) from rfl) ?_
    refine rz_iload_n dX11_least_9 rfl (show _ = some (some (vi x2)) from rfl) ?_
    replace hF := rcv_e hF
    obtain ⟨fs, hg, hF⟩ := hF
    refine rz_callV (mc' := 0) (ms' := 0) (mc := 0) (ms := 0) (st := []) dX11_least_10 cV_X11_331 rfl hg ⟨_, _, rfl⟩ rfl (Nat.le_of_ble_eq_true rfl) hF (fun v h3 hG => ?_)
    clear hF
    revert hG
    intro hF
    replace hF := atI_e hF
    obtain ⟨r4, rfl, hF⟩ := hF
    refine rz_if_ne (tgt := 18) dX11_least_13 (by decide) (fun c => ?_) (fun c => ?_)
    · replace hF := ite_f hF c
      refine rz_aload_n dX11_least_18 rfl (show _ = some (some (vo x0)) from rfl) ?_
      replace hF := rdI_e hF
      obtain ⟨fs, f5, hg, hv, hF⟩ := hF
      refine rz_getf dX11_least_19 fl_X11_340 hg hv ?_
      refine rz_bipush (v := 20) dX11_least_22 (by decide) (by decide) ?_
      refine rz_icmp_ne (tgt := 30) dX11_least_24 (by decide) (fun c => ?_) (fun c => ?_)
      · replace hF := ite_f hF c
        refine rz_aload_n dX11_least_30 rfl (show _ = some (some (vo x0)) from rfl) ?_
        refine rz_iload_n dX11_least_31 rfl (show _ = some (some (vi x1)) from rfl) ?_
        replace hF := rcv_e hF
        obtain ⟨fs, hg, hF⟩ := hF
        refine rz_callV (mc' := 0) (ms' := 0) (mc := 0) (ms := 0) (st := []) dX11_least_32 cV_X11_390 rfl hg ⟨_, _, rfl⟩ rfl (Nat.le_of_ble_eq_true rfl) hF (fun v h6 hG => ?_)
        clear hF
        revert hG
        intro hF
        replace hF := atV_e hF
        obtain ⟨rfl, hF⟩ := hF
        refine rz_aload_n dX11_least_35 rfl (show _ = some (some (vo x0)) from rfl) ?_
        refine rz_iload_n dX11_least_36 rfl (show _ = some (some (vi x2)) from rfl) ?_
        refine rz_iconst dX11_least_37 rfl (by decide) ?_
        replace hF := rcv_e hF
        obtain ⟨fs, hg, hF⟩ := hF
        refine rz_callV (mc' := 0) (ms' := 0) (mc := 0) (ms := 0) (st := []) dX11_least_38 cV_X11_352 rfl hg ⟨_, _, rfl⟩ rfl (Nat.le_of_ble_eq_true rfl) hF (fun v h7 hG => ?_)
        clear hF
        revert hG
        intro hF
        replace hF := atI_e hF
        obtain ⟨r8, rfl, hF⟩ := hF
        refine rz_if_ge (tgt := 47) dX11_least_41 (by decide) (fun c => ?_) (fun c => ?_)
        · replace hF := ite_t hF c
          refine rz_aload_n dX11_least_47 rfl (show _ = some (some (vo x0)) from rfl) ?_
          refine rz_iload_n dX11_least_48 rfl (show _ = some (some (vi x2)) from rfl) ?_
          replace hF := rcv_e hF
          obtain ⟨fs, hg, hF⟩ := hF
          refine rz_callV (mc' := 0) (ms' := 0) (mc := 0) (ms := 0) (st := []) dX11_least_49 cV_X11_382 rfl hg ⟨_, _, rfl⟩ rfl (Nat.le_of_ble_eq_true rfl) hF (fun v h9 hG => ?_)
          clear hF
          revert hG
          intro hF
          replace hF := atV_e hF
          obtain ⟨rfl, hF⟩ := hF
          refine rz_aload_n dX11_least_52 rfl (show _ = some (some (vo x0)) from rfl) ?_
          replace hF := rcv_e hF
          obtain ⟨fs, hg, hF⟩ := hF
          refine rz_callV (mc' := 0) (ms' := 0) (mc := 0) (ms := 0) (st := []) dX11_least_53 cV_X11_367 rfl hg ⟨_, _, rfl⟩ rfl (Nat.le_of_ble_eq_true rfl) hF (fun v h10 hG => ?_)
          clear hF
          revert hG
          intro hF
          replace hF := atI_e hF
          obtain ⟨r11, rfl, hF⟩ := hF
          exact rz_iret dX11_least_56 trivial hF
        · replace hF := ite_f hF c
          refine rz_bipush (v := (-2)) dX11_least_44 (by decide) (by decide) ?_
          exact rz_iret dX11_least_46 trivial hF
      · replace hF := ite_t hF c
        refine rz_bipush (v := (-3)) dX11_least_27 (by decide) (by decide) ?_
        exact rz_iret dX11_least_29 trivial hF
    · replace hF := ite_t hF c
      refine rz_iconst dX11_least_16 rfl (by decide) ?_
      exact rz_iret dX11_least_17 trivial hF
theorem vX11_at_ {G : az_G} {d : Nat} {x0 : Nat} {x1 : Int} {x2 : Int} {h : az_H} {Q : Option az_V → az_H → Prop} (hF : rcv h x0 11 (cz G mX11_isRow d 0 0 [vo x0, vi x1] h (fun v h1 => atI v (fun r2 => (if r2 = 0 then Q (some (vi ((-1)))) h1 else rdO h1 x0 11 46 (fun o3 => ldI h1 o3 (.int) x1 (fun e4 => cz G mX11_in d 0 0 [vl x2, vl ((-1)), vl (w32 (e4 - 1))] h1 (fun v h5 => atI v (fun r6 => (if r6 = 0 then Q (some (vi ((-1)))) h5 else (if 0 ≤ x2 then rdO h5 x0 11 47 (fun o7 => ldI h5 o7 (.int) (w32 ((w32 (12 * x1)) + x2)) (fun e8 => Q (some (vi e8)) h5)) else rdO h5 x0 11 46 (fun o9 => ldI h5 o9 (.int) x1 (fun e10 => Q (some (vi e10)) h5))))))))))))) : cz G mX11_at_ (d + 1) 0 0 [vo x0, vi x1, vi x2] h Q := by
  refine cz_of (ls := [some (vo x0), some (vi x1), some (vi x2)]) (by decide +kernel) (Nat.le_of_ble_eq_true rfl) rfl ?_
  refine rz_aload_n dX11_at__0 rfl (show _ = some (some (vo x0)) from rfl) ?_
  refine rz_iload_n dX11_at__1 rfl (show _ = some (some (vi x1)) from rfl) ?_
  replace hF := rcv_e hF
  obtain ⟨fs, hg, hF⟩ := hF
  refine rz_callV (mc' := 0) (ms' := 0) (mc := 0) (ms := 0) (st := []) dX11_at__2 cV_X11_387 rfl hg ⟨_, _, rfl⟩ rfl (Nat.le_of_ble_eq_true rfl) hF (fun v h1 hG => ?_)
  clear hF
  revert hG
  intro hF
  replace hF := atI_e hF
  obtain ⟨r2, rfl, hF⟩ := hF
  refine rz_if_eq (tgt := 28) dX11_at__5 (by decide) (fun c => ?_) (fun c => ?_)
  · replace hF := ite_t hF c
    refine rz_iconst dX11_at__28 rfl (by decide) ?_
    exact rz_iret dX11_at__29 trivial hF
  · replace hF := ite_f hF c
    refine rz_iload_n dX11_at__8 rfl (show _ = some (some (vi x2)) from rfl) ?_
    refine rz_i2l dX11_at__9 ?_
    refine rz_ldc2 (v := (-1)) dX11_at__10 k_1348 (by decide) ?_
    refine rz_aload_n dX11_at__13 rfl (show _ = some (some (vo x0)) from rfl) ?_
    replace hF := rdO_e hF
    obtain ⟨fs, o3, hg, hv, hF⟩ := hF
    refine rz_getf dX11_at__14 fl_X11_86 hg hv ?_
    refine rz_iload_n dX11_at__17 rfl (show _ = some (some (vi x1)) from rfl) ?_
    replace hF := ldI_e hF
    obtain ⟨xs, hg, h0, h1, hF⟩ := hF
    refine rz_iald dX11_at__18 hg h0 h1 ?_
    generalize xs.getD _ 0 = e4 at hF ⊢
    refine rz_iconst dX11_at__19 rfl (by decide) ?_
    refine rz_isub dX11_at__20 ?_
    refine rz_i2l dX11_at__21 ?_
    refine rz_callS (mc' := 0) (ms' := 0) (mc := 0) (ms := 0) (st := []) dX11_at__22 cS_X11_117 rfl rfl (Nat.le_of_ble_eq_true rfl) hF (fun v h5 hG => ?_)
    clear hF
    revert hG
    intro hF
    replace hF := atI_e hF
    obtain ⟨r6, rfl, hF⟩ := hF
    refine rz_if_ne (tgt := 30) dX11_at__25 (by decide) (fun c => ?_) (fun c => ?_)
    · replace hF := ite_f hF c
      refine rz_iload_n dX11_at__30 rfl (show _ = some (some (vi x2)) from rfl) ?_
      refine rz_if_ge (tgt := 43) dX11_at__31 (by decide) (fun c => ?_) (fun c => ?_)
      · replace hF := ite_t hF c
        refine rz_aload_n dX11_at__43 rfl (show _ = some (some (vo x0)) from rfl) ?_
        replace hF := rdO_e hF
        obtain ⟨fs, o7, hg, hv, hF⟩ := hF
        refine rz_getf dX11_at__44 fl_X11_89 hg hv ?_
        refine rz_bipush (v := 12) dX11_at__47 (by decide) (by decide) ?_
        refine rz_iload_n dX11_at__49 rfl (show _ = some (some (vi x1)) from rfl) ?_
        refine rz_imul dX11_at__50 ?_
        refine rz_iload_n dX11_at__51 rfl (show _ = some (some (vi x2)) from rfl) ?_
        refine rz_iadd dX11_at__52 ?_
        replace hF := ldI_e hF
        obtain ⟨xs, hg, h0, h1, hF⟩ := hF
        refine rz_iald dX11_at__53 hg h0 h1 ?_
        generalize xs.getD _ 0 = e8 at hF ⊢
        exact rz_iret dX11_at__54 trivial hF
      · replace hF := ite_f hF c
        refine rz_aload_n dX11_at__34 rfl (show _ = some (some (vo x0)) from rfl) ?_
        replace hF := rdO_e hF
        obtain ⟨fs, o9, hg, hv, hF⟩ := hF
        refine rz_getf dX11_at__35 fl_X11_86 hg hv ?_
        refine rz_iload_n dX11_at__38 rfl (show _ = some (some (vi x1)) from rfl) ?_
        replace hF := ldI_e hF
        obtain ⟨xs, hg, h0, h1, hF⟩ := hF
        refine rz_iald dX11_at__39 hg h0 h1 ?_
        generalize xs.getD _ 0 = e10 at hF ⊢
        refine rz_goto (tgt := 54) dX11_at__40 (by decide) ?_
        exact rz_iret dX11_at__54 trivial hF
    · replace hF := ite_t hF c
      refine rz_iconst dX11_at__28 rfl (by decide) ?_
      exact rz_iret dX11_at__29 trivial hF
theorem vX11_breaks {G : az_G} {d : Nat} {x0 : Nat} {x1 : Int} {x2 : Int} {h : az_H} {Q : Option az_V → az_H → Prop} (hF : rcv h x0 11 (cz G mX11_isRow d 0 0 [vo x0, vi x1] h (fun v h1 => atI v (fun r2 => (if r2 = 0 then Q (some (vi ((-1)))) h1 else rcv h1 x0 11 (cz G mX11_isRule d 0 0 [vo x0, vi x2] h1 (fun v h3 => atI v (fun r4 => (if r4 = 0 then Q (some (vi ((-1)))) h3 else rcv h3 x0 11 (cz G mX11_take d 0 0 [vo x0, vi x1] h3 (fun v h5 => atV v (rcv h5 x0 11 (cz G mX11_breaksAt d 0 0 [vo x0, vi x2, vi ((-1))] h5 (fun v h6 => atI v (fun r7 => Q (some (vi r7)) h6))))))))))))))) : cz G mX11_breaks (d + 1) 0 0 [vo x0, vi x1, vi x2] h Q := by
  refine cz_of (ls := [some (vo x0), some (vi x1), some (vi x2)]) (by decide +kernel) (Nat.le_of_ble_eq_true rfl) rfl ?_
  refine rz_aload_n dX11_breaks_0 rfl (show _ = some (some (vo x0)) from rfl) ?_
  refine rz_iload_n dX11_breaks_1 rfl (show _ = some (some (vi x1)) from rfl) ?_
  replace hF := rcv_e hF
  obtain ⟨fs, hg, hF⟩ := hF
  refine rz_callV (mc' := 0) (ms' := 0) (mc := 0) (ms := 0) (st := []) dX11_breaks_2 cV_X11_387 rfl hg ⟨_, _, rfl⟩ rfl (Nat.le_of_ble_eq_true rfl) hF (fun v h1 hG => ?_)
  clear hF
  revert hG
  intro hF
  replace hF := atI_e hF
  obtain ⟨r2, rfl, hF⟩ := hF
  refine rz_if_eq (tgt := 16) dX11_breaks_5 (by decide) (fun c => ?_) (fun c => ?_)
  · replace hF := ite_t hF c
    refine rz_iconst dX11_breaks_16 rfl (by decide) ?_
    exact rz_iret dX11_breaks_17 trivial hF
  · replace hF := ite_f hF c
    refine rz_aload_n dX11_breaks_8 rfl (show _ = some (some (vo x0)) from rfl) ?_
    refine rz_iload_n dX11_breaks_9 rfl (show _ = some (some (vi x2)) from rfl) ?_
    replace hF := rcv_e hF
    obtain ⟨fs, hg, hF⟩ := hF
    refine rz_callV (mc' := 0) (ms' := 0) (mc := 0) (ms := 0) (st := []) dX11_breaks_10 cV_X11_331 rfl hg ⟨_, _, rfl⟩ rfl (Nat.le_of_ble_eq_true rfl) hF (fun v h3 hG => ?_)
    clear hF
    revert hG
    intro hF
    replace hF := atI_e hF
    obtain ⟨r4, rfl, hF⟩ := hF
    refine rz_if_ne (tgt := 18) dX11_breaks_13 (by decide) (fun c => ?_) (fun c => ?_)
    · replace hF := ite_f hF c
      refine rz_aload_n dX11_breaks_18 rfl (show _ = some (some (vo x0)) from rfl) ?_
      refine rz_iload_n dX11_breaks_19 rfl (show _ = some (some (vi x1)) from rfl) ?_
      replace hF := rcv_e hF
      obtain ⟨fs, hg, hF⟩ := hF
      refine rz_callV (mc' := 0) (ms' := 0) (mc := 0) (ms := 0) (st := []) dX11_breaks_20 cV_X11_390 rfl hg ⟨_, _, rfl⟩ rfl (Nat.le_of_ble_eq_true rfl) hF (fun v h5 hG => ?_)
      clear hF
      revert hG
      intro hF
      replace hF := atV_e hF
      obtain ⟨rfl, hF⟩ := hF
      refine rz_aload_n dX11_breaks_23 rfl (show _ = some (some (vo x0)) from rfl) ?_
      refine rz_iload_n dX11_breaks_24 rfl (show _ = some (some (vi x2)) from rfl) ?_
      refine rz_iconst dX11_breaks_25 rfl (by decide) ?_
      replace hF := rcv_e hF
      obtain ⟨fs, hg, hF⟩ := hF
      refine rz_callV (mc' := 0) (ms' := 0) (mc := 0) (ms := 0) (st := []) dX11_breaks_26 cV_X11_352 rfl hg ⟨_, _, rfl⟩ rfl (Nat.le_of_ble_eq_true rfl) hF (fun v h6 hG => ?_)
      clear hF
      revert hG
      intro hF
      replace hF := atI_e hF
      obtain ⟨r7, rfl, hF⟩ := hF
      exact rz_iret dX11_breaks_29 trivial hF
    · replace hF := ite_t hF c
      refine rz_iconst dX11_breaks_16 rfl (by decide) ?_
      exact rz_iret dX11_breaks_17 trivial hF
def pX11_profit_35 (G : az_G) (d : Nat) (x0 : Nat) (x2 : Int) (x3 : Int) (h : az_H) (Q : Option az_V → az_H → Prop) : Prop := ez G mX11_profit (d + 1) 0 0 35 [some (vo x0), none, some (vi x2), some (vi x3)] [] h Q
theorem vX11_profit_35 {G : az_G} {d : Nat} {x0 : Nat} {x2 : Int} {x3 : Int} {h : az_H} {Q : Option az_V → az_H → Prop} (hF : rdI h x0 11 48 (fun f1 => (if f1 ≤ x3 then rdO h x0 11 22 (fun o2 => ldI h o2 (.int) (w32 (14 + x2)) (fun e3 => rdO h x0 11 24 (fun o4 => ldI h o4 (.int) x2 (fun e5 => Q (some (vi (w32 (e3 - e5)))) h)))) else rdO h x0 11 49 (fun o6 => ldI h o6 (.int) x3 (fun e7 => rcv h x0 11 (cz G mX11_choose d 0 0 [vo x0, vi e7] h (fun v h8 => atV v (pX11_profit_35 G d x0 x2 (w32 (x3 + 1)) h8 Q)))))))) : pX11_profit_35 G d x0 x2 x3 h Q := by
  unfold pX11_profit_35
  refine rz_iload_n dX11_profit_35 rfl (show _ = some (some (vi x3)) from rfl) ?_
  refine rz_aload_n dX11_profit_36 rfl (show _ = some (some (vo x0)) from rfl) ?_
  replace hF := rdI_e hF
  obtain ⟨fs, f1, hg, hv, hF⟩ := hF
  refine rz_getf dX11_profit_37 fl_X11_346 hg hv ?_
  refine rz_icmp_ge (tgt := 59) dX11_profit_40 (by decide) (fun c => ?_) (fun c => ?_)
  · replace hF := ite_t hF c
    refine rz_aload_n dX11_profit_59 rfl (show _ = some (some (vo x0)) from rfl) ?_
    replace hF := rdO_e hF
    obtain ⟨fs, o2, hg, hv, hF⟩ := hF
    refine rz_getf dX11_profit_60 fl_X11_38 hg hv ?_
    refine rz_bipush (v := 14) dX11_profit_63 (by decide) (by decide) ?_
    refine rz_iload_n dX11_profit_65 rfl (show _ = some (some (vi x2)) from rfl) ?_
    refine rz_iadd dX11_profit_66 ?_
    replace hF := ldI_e hF
    obtain ⟨xs, hg, h0, h1, hF⟩ := hF
    refine rz_iald dX11_profit_67 hg h0 h1 ?_
    generalize xs.getD _ 0 = e3 at hF ⊢
    refine rz_aload_n dX11_profit_68 rfl (show _ = some (some (vo x0)) from rfl) ?_
    replace hF := rdO_e hF
    obtain ⟨fs, o4, hg, hv, hF⟩ := hF
    refine rz_getf dX11_profit_69 fl_X11_44 hg hv ?_
    refine rz_iload_n dX11_profit_72 rfl (show _ = some (some (vi x2)) from rfl) ?_
    replace hF := ldI_e hF
    obtain ⟨xs, hg, h0, h1, hF⟩ := hF
    refine rz_iald dX11_profit_73 hg h0 h1 ?_
    generalize xs.getD _ 0 = e5 at hF ⊢
    refine rz_isub dX11_profit_74 ?_
    exact rz_iret dX11_profit_75 trivial hF
  · replace hF := ite_f hF c
    refine rz_aload_n dX11_profit_43 rfl (show _ = some (some (vo x0)) from rfl) ?_
    refine rz_aload_n dX11_profit_44 rfl (show _ = some (some (vo x0)) from rfl) ?_
    replace hF := rdO_e hF
    obtain ⟨fs, o6, hg, hv, hF⟩ := hF
    refine rz_getf dX11_profit_45 fl_X11_92 hg hv ?_
    refine rz_iload_n dX11_profit_48 rfl (show _ = some (some (vi x3)) from rfl) ?_
    replace hF := ldI_e hF
    obtain ⟨xs, hg, h0, h1, hF⟩ := hF
    refine rz_iald dX11_profit_49 hg h0 h1 ?_
    generalize xs.getD _ 0 = e7 at hF ⊢
    replace hF := rcv_e hF
    obtain ⟨fs, hg, hF⟩ := hF
    refine rz_callV (mc' := 0) (ms' := 0) (mc := 0) (ms := 0) (st := []) dX11_profit_50 cV_X11_349 rfl hg ⟨_, _, rfl⟩ rfl (Nat.le_of_ble_eq_true rfl) hF (fun v h8 hG => ?_)
    clear hF
    revert hG
    intro hF
    replace hF := atV_e hF
    obtain ⟨rfl, hF⟩ := hF
    refine rz_iinc (ls' := [some (vo x0), none, some (vi x2), some (vi (w32 (x3 + 1)))]) dX11_profit_53 rfl (Nat.le_of_ble_eq_true rfl) rfl ?_
    refine rz_goto (tgt := 35) dX11_profit_56 (by decide) ?_
    exact hF
theorem vX11_profit {G : az_G} {d : Nat} {x0 : Nat} {x1 : Int} {x2 : Int} {h : az_H} {Q : Option az_V → az_H → Prop} (hF : rcv h x0 11 (cz G mX11_isRow d 0 0 [vo x0, vi x1] h (fun v h1 => atI v (fun r2 => (if r2 = 0 then Q (some (vi ((-2000000000)))) h1 else cz G mX11_in d 0 0 [vl x2, vl 0, vl 3] h1 (fun v h3 => atI v (fun r4 => (if r4 = 0 then Q (some (vi ((-2000000000)))) h3 else rcv h3 x0 11 (cz G mX11_take d 0 0 [vo x0, vi x1] h3 (fun v h5 => atV v (rcv h5 x0 11 (cz G mX11_toStart d 0 0 [vo x0] h5 (fun v h6 => atV v (pX11_profit_35 G d x0 x2 0 h6 Q)))))))))))))) : cz G mX11_profit (d + 1) 0 0 [vo x0, vi x1, vi x2] h Q := by
  refine cz_of (ls := [some (vo x0), some (vi x1), some (vi x2), none]) (by decide +kernel) (Nat.le_of_ble_eq_true rfl) rfl ?_
  refine rz_aload_n dX11_profit_0 rfl (show _ = some (some (vo x0)) from rfl) ?_
  refine rz_iload_n dX11_profit_1 rfl (show _ = some (some (vi x1)) from rfl) ?_
  replace hF := rcv_e hF
  obtain ⟨fs, hg, hF⟩ := hF
  refine rz_callV (mc' := 0) (ms' := 0) (mc := 0) (ms := 0) (st := []) dX11_profit_2 cV_X11_387 rfl hg ⟨_, _, rfl⟩ rfl (Nat.le_of_ble_eq_true rfl) hF (fun v h1 hG => ?_)
  clear hF
  revert hG
  intro hF
  replace hF := atI_e hF
  obtain ⟨r2, rfl, hF⟩ := hF
  refine rz_if_eq (tgt := 20) dX11_profit_5 (by decide) (fun c => ?_) (fun c => ?_)
  · replace hF := ite_t hF c
    refine rz_ldcw (v := (-2000000000)) dX11_profit_20 k_1518 (by decide) ?_
    exact rz_iret dX11_profit_23 trivial hF
  · replace hF := ite_f hF c
    refine rz_iload_n dX11_profit_8 rfl (show _ = some (some (vi x2)) from rfl) ?_
    refine rz_i2l dX11_profit_9 ?_
    refine rz_lconst (v := 0) dX11_profit_10 (by decide) (by decide) ?_
    refine rz_ldc2 (v := 3) dX11_profit_11 k_1346 (by decide) ?_
    refine rz_callS (mc' := 0) (ms' := 0) (mc := 0) (ms := 0) (st := []) dX11_profit_14 cS_X11_117 rfl rfl (Nat.le_of_ble_eq_true rfl) hF (fun v h3 hG => ?_)
    clear hF
    revert hG
    intro hF
    replace hF := atI_e hF
    obtain ⟨r4, rfl, hF⟩ := hF
    refine rz_if_ne (tgt := 24) dX11_profit_17 (by decide) (fun c => ?_) (fun c => ?_)
    · replace hF := ite_f hF c
      refine rz_aload_n dX11_profit_24 rfl (show _ = some (some (vo x0)) from rfl) ?_
      refine rz_iload_n dX11_profit_25 rfl (show _ = some (some (vi x1)) from rfl) ?_
      replace hF := rcv_e hF
      obtain ⟨fs, hg, hF⟩ := hF
      refine rz_callV (mc' := 0) (ms' := 0) (mc := 0) (ms := 0) (st := []) dX11_profit_26 cV_X11_390 rfl hg ⟨_, _, rfl⟩ rfl (Nat.le_of_ble_eq_true rfl) hF (fun v h5 hG => ?_)
      clear hF
      revert hG
      intro hF
      replace hF := atV_e hF
      obtain ⟨rfl, hF⟩ := hF
      refine rz_aload_n dX11_profit_29 rfl (show _ = some (some (vo x0)) from rfl) ?_
      replace hF := rcv_e hF
      obtain ⟨fs, hg, hF⟩ := hF
      refine rz_callV (mc' := 0) (ms' := 0) (mc := 0) (ms := 0) (st := []) dX11_profit_30 cV_X11_317 rfl hg ⟨_, _, rfl⟩ rfl (Nat.le_of_ble_eq_true rfl) hF (fun v h6 hG => ?_)
      clear hF
      revert hG
      intro hF
      replace hF := atV_e hF
      obtain ⟨rfl, hF⟩ := hF
      refine rz_iconst dX11_profit_33 rfl (by decide) ?_
      refine rz_istore_n (ls' := [some (vo x0), some (vi x1), some (vi x2), some (vi 0)]) dX11_profit_34 rfl (Nat.le_of_ble_eq_true rfl) rfl ?_
      refine ez_kp [true, false, true, true] rfl ?_
      exact hF
    · replace hF := ite_t hF c
      refine rz_ldcw (v := (-2000000000)) dX11_profit_20 k_1518 (by decide) ?_
      exact rz_iret dX11_profit_23 trivial hF
theorem vX11_met {G : az_G} {d : Nat} {x0 : Nat} {x1 : Int} {x2 : Int} {h : az_H} {Q : Option az_V → az_H → Prop} (hF : cz G mX11_in d 0 0 [vl x1, vl 0, vl 5] h (fun v h1 => atI v (fun r2 => (if r2 = 0 then Q (some (vi ((-1)))) h1 else rdO h1 x0 11 12 (fun o3 => ldI h1 o3 (.boolean) x1 (fun e4 => (if e4 = 0 then Q (some (vi ((-1)))) h1 else rdO h1 x0 11 11 (fun o5 => ldI h1 o5 (.int) x1 (fun e6 => cz G mX11_in d 0 0 [vl x2, vl 0, vl (w32 (e6 - 1))] h1 (fun v h7 => atI v (fun r8 => (if r8 = 0 then Q (some (vi ((-1)))) h7 else rdO h7 x0 11 28 (fun o9 => ldI h7 o9 (.boolean) (w32 ((w32 (24 * x1)) + x2)) (fun e10 => (if e10 = 0 then Q (some (vi 0)) h7 else Q (some (vi 1)) h7))))))))))))))) : cz G mX11_met (d + 1) 0 0 [vo x0, vi x1, vi x2] h Q := by
  refine cz_of (ls := [some (vo x0), some (vi x1), some (vi x2)]) (by decide +kernel) (Nat.le_of_ble_eq_true rfl) rfl ?_
  refine rz_iload_n dX11_met_0 rfl (show _ = some (some (vi x1)) from rfl) ?_
  refine rz_i2l dX11_met_1 ?_
  refine rz_lconst (v := 0) dX11_met_2 (by decide) (by decide) ?_
  refine rz_ldc2 (v := 5) dX11_met_3 k_1259 (by decide) ?_
  refine rz_callS (mc' := 0) (ms' := 0) (mc := 0) (ms := 0) (st := []) dX11_met_6 cS_X11_117 rfl rfl (Nat.le_of_ble_eq_true rfl) hF (fun v h1 hG => ?_)
  clear hF
  revert hG
  intro hF
  replace hF := atI_e hF
  obtain ⟨r2, rfl, hF⟩ := hF
  refine rz_if_eq (tgt := 39) dX11_met_9 (by decide) (fun c => ?_) (fun c => ?_)
  · replace hF := ite_t hF c
    refine rz_iconst dX11_met_39 rfl (by decide) ?_
    exact rz_iret dX11_met_40 trivial hF
  · replace hF := ite_f hF c
    refine rz_aload_n dX11_met_12 rfl (show _ = some (some (vo x0)) from rfl) ?_
    replace hF := rdO_e hF
    obtain ⟨fs, o3, hg, hv, hF⟩ := hF
    refine rz_getf dX11_met_13 fl_X11_28 hg hv ?_
    refine rz_iload_n dX11_met_16 rfl (show _ = some (some (vi x1)) from rfl) ?_
    replace hF := ldI_e hF
    obtain ⟨xs, hg, h0, h1, hF⟩ := hF
    refine rz_zald dX11_met_17 hg h0 h1 ?_
    generalize xs.getD _ 0 = e4 at hF ⊢
    refine rz_if_eq (tgt := 39) dX11_met_18 (by decide) (fun c => ?_) (fun c => ?_)
    · replace hF := ite_t hF c
      refine rz_iconst dX11_met_39 rfl (by decide) ?_
      exact rz_iret dX11_met_40 trivial hF
    · replace hF := ite_f hF c
      refine rz_iload_n dX11_met_21 rfl (show _ = some (some (vi x2)) from rfl) ?_
      refine rz_i2l dX11_met_22 ?_
      refine rz_lconst (v := 0) dX11_met_23 (by decide) (by decide) ?_
      refine rz_aload_n dX11_met_24 rfl (show _ = some (some (vo x0)) from rfl) ?_
      replace hF := rdO_e hF
      obtain ⟨fs, o5, hg, hv, hF⟩ := hF
      refine rz_getf dX11_met_25 fl_X11_25 hg hv ?_
      refine rz_iload_n dX11_met_28 rfl (show _ = some (some (vi x1)) from rfl) ?_
      replace hF := ldI_e hF
      obtain ⟨xs, hg, h0, h1, hF⟩ := hF
      refine rz_iald dX11_met_29 hg h0 h1 ?_
      generalize xs.getD _ 0 = e6 at hF ⊢
      refine rz_iconst dX11_met_30 rfl (by decide) ?_
      refine rz_isub dX11_met_31 ?_
      refine rz_i2l dX11_met_32 ?_
      refine rz_callS (mc' := 0) (ms' := 0) (mc := 0) (ms := 0) (st := []) dX11_met_33 cS_X11_117 rfl rfl (Nat.le_of_ble_eq_true rfl) hF (fun v h7 hG => ?_)
      clear hF
      revert hG
      intro hF
      replace hF := atI_e hF
      obtain ⟨r8, rfl, hF⟩ := hF
      refine rz_if_ne (tgt := 41) dX11_met_36 (by decide) (fun c => ?_) (fun c => ?_)
      · replace hF := ite_f hF c
        refine rz_aload_n dX11_met_41 rfl (show _ = some (some (vo x0)) from rfl) ?_
        replace hF := rdO_e hF
        obtain ⟨fs, o9, hg, hv, hF⟩ := hF
        refine rz_getf dX11_met_42 fl_X11_53 hg hv ?_
        refine rz_bipush (v := 24) dX11_met_45 (by decide) (by decide) ?_
        refine rz_iload_n dX11_met_47 rfl (show _ = some (some (vi x1)) from rfl) ?_
        refine rz_imul dX11_met_48 ?_
        refine rz_iload_n dX11_met_49 rfl (show _ = some (some (vi x2)) from rfl) ?_
        refine rz_iadd dX11_met_50 ?_
        replace hF := ldI_e hF
        obtain ⟨xs, hg, h0, h1, hF⟩ := hF
        refine rz_zald dX11_met_51 hg h0 h1 ?_
        generalize xs.getD _ 0 = e10 at hF ⊢
        refine rz_if_eq (tgt := 59) dX11_met_52 (by decide) (fun c => ?_) (fun c => ?_)
        · replace hF := ite_t hF c
          refine rz_iconst dX11_met_59 rfl (by decide) ?_
          exact rz_iret dX11_met_60 trivial hF
        · replace hF := ite_f hF c
          refine rz_iconst dX11_met_55 rfl (by decide) ?_
          refine rz_goto (tgt := 60) dX11_met_56 (by decide) ?_
          exact rz_iret dX11_met_60 trivial hF
      · replace hF := ite_t hF c
        refine rz_iconst dX11_met_39 rfl (by decide) ?_
        exact rz_iret dX11_met_40 trivial hF
theorem vX11_kept {G : az_G} {d : Nat} {x0 : Nat} {x1 : Int} {x2 : Int} {h : az_H} {Q : Option az_V → az_H → Prop} (hF : rdI h x0 11 50 (fun f1 => cz G mX11_in d 0 0 [vl x1, vl 0, vl (w32 (f1 - 1))] h (fun v h2 => atI v (fun r3 => (if r3 = 0 then Q (some (vi ((-1)))) h2 else rdO h2 x0 11 51 (fun o4 => ldI h2 o4 (.int) x1 (fun e5 => cz G mX11_in d 0 0 [vl x2, vl ((-1)), vl (w32 (e5 - 1))] h2 (fun v h6 => atI v (fun r7 => (if r7 = 0 then Q (some (vi ((-1)))) h6 else (if 0 ≤ x2 then rdO h6 x0 11 52 (fun o8 => ldI h6 o8 (.int) (w32 ((w32 (12 * x1)) + x2)) (fun e9 => Q (some (vi e9)) h6)) else rdO h6 x0 11 51 (fun o10 => ldI h6 o10 (.int) x1 (fun e11 => Q (some (vi e11)) h6))))))))))))) : cz G mX11_kept (d + 1) 0 0 [vo x0, vi x1, vi x2] h Q := by
  refine cz_of (ls := [some (vo x0), some (vi x1), some (vi x2)]) (by decide +kernel) (Nat.le_of_ble_eq_true rfl) rfl ?_
  refine rz_iload_n dX11_kept_0 rfl (show _ = some (some (vi x1)) from rfl) ?_
  refine rz_i2l dX11_kept_1 ?_
  refine rz_lconst (v := 0) dX11_kept_2 (by decide) (by decide) ?_
  refine rz_aload_n dX11_kept_3 rfl (show _ = some (some (vo x0)) from rfl) ?_
  replace hF := rdI_e hF
  obtain ⟨fs, f1, hg, hv, hF⟩ := hF
  refine rz_getf dX11_kept_4 fl_X11_343 hg hv ?_
  refine rz_iconst dX11_kept_7 rfl (by decide) ?_
  refine rz_isub dX11_kept_8 ?_
  refine rz_i2l dX11_kept_9 ?_
  refine rz_callS (mc' := 0) (ms' := 0) (mc := 0) (ms := 0) (st := []) dX11_kept_10 cS_X11_117 rfl rfl (Nat.le_of_ble_eq_true rfl) hF (fun v h2 hG => ?_)
  clear hF
  revert hG
  intro hF
  replace hF := atI_e hF
  obtain ⟨r3, rfl, hF⟩ := hF
  refine rz_if_eq (tgt := 36) dX11_kept_13 (by decide) (fun c => ?_) (fun c => ?_)
  · replace hF := ite_t hF c
    refine rz_iconst dX11_kept_36 rfl (by decide) ?_
    exact rz_iret dX11_kept_37 trivial hF
  · replace hF := ite_f hF c
    refine rz_iload_n dX11_kept_16 rfl (show _ = some (some (vi x2)) from rfl) ?_
    refine rz_i2l dX11_kept_17 ?_
    refine rz_ldc2 (v := (-1)) dX11_kept_18 k_1348 (by decide) ?_
    refine rz_aload_n dX11_kept_21 rfl (show _ = some (some (vo x0)) from rfl) ?_
    replace hF := rdO_e hF
    obtain ⟨fs, o4, hg, hv, hF⟩ := hF
    refine rz_getf dX11_kept_22 fl_X11_95 hg hv ?_
    refine rz_iload_n dX11_kept_25 rfl (show _ = some (some (vi x1)) from rfl) ?_
    replace hF := ldI_e hF
    obtain ⟨xs, hg, h0, h1, hF⟩ := hF
    refine rz_iald dX11_kept_26 hg h0 h1 ?_
    generalize xs.getD _ 0 = e5 at hF ⊢
    refine rz_iconst dX11_kept_27 rfl (by decide) ?_
    refine rz_isub dX11_kept_28 ?_
    refine rz_i2l dX11_kept_29 ?_
    refine rz_callS (mc' := 0) (ms' := 0) (mc := 0) (ms := 0) (st := []) dX11_kept_30 cS_X11_117 rfl rfl (Nat.le_of_ble_eq_true rfl) hF (fun v h6 hG => ?_)
    clear hF
    revert hG
    intro hF
    replace hF := atI_e hF
    obtain ⟨r7, rfl, hF⟩ := hF
    refine rz_if_ne (tgt := 38) dX11_kept_33 (by decide) (fun c => ?_) (fun c => ?_)
    · replace hF := ite_f hF c
      refine rz_iload_n dX11_kept_38 rfl (show _ = some (some (vi x2)) from rfl) ?_
      refine rz_if_ge (tgt := 51) dX11_kept_39 (by decide) (fun c => ?_) (fun c => ?_)
      · replace hF := ite_t hF c
        refine rz_aload_n dX11_kept_51 rfl (show _ = some (some (vo x0)) from rfl) ?_
        replace hF := rdO_e hF
        obtain ⟨fs, o8, hg, hv, hF⟩ := hF
        refine rz_getf dX11_kept_52 fl_X11_98 hg hv ?_
        refine rz_bipush (v := 12) dX11_kept_55 (by decide) (by decide) ?_
        refine rz_iload_n dX11_kept_57 rfl (show _ = some (some (vi x1)) from rfl) ?_
        refine rz_imul dX11_kept_58 ?_
        refine rz_iload_n dX11_kept_59 rfl (show _ = some (some (vi x2)) from rfl) ?_
        refine rz_iadd dX11_kept_60 ?_
        replace hF := ldI_e hF
        obtain ⟨xs, hg, h0, h1, hF⟩ := hF
        refine rz_iald dX11_kept_61 hg h0 h1 ?_
        generalize xs.getD _ 0 = e9 at hF ⊢
        exact rz_iret dX11_kept_62 trivial hF
      · replace hF := ite_f hF c
        refine rz_aload_n dX11_kept_42 rfl (show _ = some (some (vo x0)) from rfl) ?_
        replace hF := rdO_e hF
        obtain ⟨fs, o10, hg, hv, hF⟩ := hF
        refine rz_getf dX11_kept_43 fl_X11_95 hg hv ?_
        refine rz_iload_n dX11_kept_46 rfl (show _ = some (some (vi x1)) from rfl) ?_
        replace hF := ldI_e hF
        obtain ⟨xs, hg, h0, h1, hF⟩ := hF
        refine rz_iald dX11_kept_47 hg h0 h1 ?_
        generalize xs.getD _ 0 = e11 at hF ⊢
        refine rz_goto (tgt := 62) dX11_kept_48 (by decide) ?_
        exact rz_iret dX11_kept_62 trivial hF
    · replace hF := ite_t hF c
      refine rz_iconst dX11_kept_36 rfl (by decide) ?_
      exact rz_iret dX11_kept_37 trivial hF
theorem vX11_told {G : az_G} {d : Nat} {x0 : Nat} {x1 : Int} {h : az_H} {Q : Option az_V → az_H → Prop} (hF : (if x1 = 0 then rdI h x0 11 1 (fun f9 => Q (some (vi f9)) h) else (if x1 = 1 then rdI h x0 11 13 (fun f8 => Q (some (vi f8)) h) else (if x1 = 2 then rdI h x0 11 40 (fun f7 => Q (some (vi f7)) h) else (if x1 = 3 then rdI h x0 11 45 (fun f6 => Q (some (vi f6)) h) else (if x1 = 4 then rdI h x0 11 50 (fun f5 => Q (some (vi f5)) h) else cz G mX11_in d 0 0 [vl x1, vl 5, vl 10] h (fun v h1 => atI v (fun r2 => (if r2 = 0 then Q (some (vi ((-1)))) h1 else rdO h1 x0 11 11 (fun o3 => ldI h1 o3 (.int) (w32 (x1 - 5)) (fun e4 => Q (some (vi e4)) h1))))))))))) : cz G mX11_told (d + 1) 0 0 [vo x0, vi x1] h Q := by
  refine cz_of (ls := [some (vo x0), some (vi x1)]) (by decide +kernel) (Nat.le_of_ble_eq_true rfl) rfl ?_
  refine rz_iload_n dX11_told_0 rfl (show _ = some (some (vi x1)) from rfl) ?_
  refine rz_if_ne (tgt := 11) dX11_told_1 (by decide) (fun c => ?_) (fun c => ?_)
  · replace hF := ite_f hF c
    refine rz_iload_n dX11_told_11 rfl (show _ = some (some (vi x1)) from rfl) ?_
    refine rz_iconst dX11_told_12 rfl (by decide) ?_
    refine rz_icmp_ne (tgt := 23) dX11_told_13 (by decide) (fun c => ?_) (fun c => ?_)
    · replace hF := ite_f hF c
      refine rz_iload_n dX11_told_23 rfl (show _ = some (some (vi x1)) from rfl) ?_
      refine rz_iconst dX11_told_24 rfl (by decide) ?_
      refine rz_icmp_ne (tgt := 35) dX11_told_25 (by decide) (fun c => ?_) (fun c => ?_)
      · replace hF := ite_f hF c
        refine rz_iload_n dX11_told_35 rfl (show _ = some (some (vi x1)) from rfl) ?_
        refine rz_iconst dX11_told_36 rfl (by decide) ?_
        refine rz_icmp_ne (tgt := 47) dX11_told_37 (by decide) (fun c => ?_) (fun c => ?_)
        · replace hF := ite_f hF c
          refine rz_iload_n dX11_told_47 rfl (show _ = some (some (vi x1)) from rfl) ?_
          refine rz_iconst dX11_told_48 rfl (by decide) ?_
          refine rz_icmp_ne (tgt := 59) dX11_told_49 (by decide) (fun c => ?_) (fun c => ?_)
          · replace hF := ite_f hF c
            refine rz_iload_n dX11_told_59 rfl (show _ = some (some (vi x1)) from rfl) ?_
            refine rz_i2l dX11_told_60 ?_
            refine rz_ldc2 (v := 5) dX11_told_61 k_1259 (by decide) ?_
            refine rz_ldc2 (v := 10) dX11_told_64 k_1531 (by decide) ?_
            refine rz_callS (mc' := 0) (ms' := 0) (mc := 0) (ms := 0) (st := []) dX11_told_67 cS_X11_117 rfl rfl (Nat.le_of_ble_eq_true rfl) hF (fun v h1 hG => ?_)
            clear hF
            revert hG
            intro hF
            replace hF := atI_e hF
            obtain ⟨r2, rfl, hF⟩ := hF
            refine rz_if_eq (tgt := 84) dX11_told_70 (by decide) (fun c => ?_) (fun c => ?_)
            · replace hF := ite_t hF c
              refine rz_iconst dX11_told_84 rfl (by decide) ?_
              exact rz_iret dX11_told_85 trivial hF
            · replace hF := ite_f hF c
              refine rz_aload_n dX11_told_73 rfl (show _ = some (some (vo x0)) from rfl) ?_
              replace hF := rdO_e hF
              obtain ⟨fs, o3, hg, hv, hF⟩ := hF
              refine rz_getf dX11_told_74 fl_X11_25 hg hv ?_
              refine rz_iload_n dX11_told_77 rfl (show _ = some (some (vi x1)) from rfl) ?_
              refine rz_iconst dX11_told_78 rfl (by decide) ?_
              refine rz_isub dX11_told_79 ?_
              replace hF := ldI_e hF
              obtain ⟨xs, hg, h0, h1, hF⟩ := hF
              refine rz_iald dX11_told_80 hg h0 h1 ?_
              generalize xs.getD _ 0 = e4 at hF ⊢
              refine rz_goto (tgt := 85) dX11_told_81 (by decide) ?_
              exact rz_iret dX11_told_85 trivial hF
          · replace hF := ite_t hF c
            refine rz_aload_n dX11_told_52 rfl (show _ = some (some (vo x0)) from rfl) ?_
            replace hF := rdI_e hF
            obtain ⟨fs, f5, hg, hv, hF⟩ := hF
            refine rz_getf dX11_told_53 fl_X11_343 hg hv ?_
            refine rz_goto (tgt := 85) dX11_told_56 (by decide) ?_
            exact rz_iret dX11_told_85 trivial hF
        · replace hF := ite_t hF c
          refine rz_aload_n dX11_told_40 rfl (show _ = some (some (vo x0)) from rfl) ?_
          replace hF := rdI_e hF
          obtain ⟨fs, f6, hg, hv, hF⟩ := hF
          refine rz_getf dX11_told_41 fl_X11_340 hg hv ?_
          refine rz_goto (tgt := 85) dX11_told_44 (by decide) ?_
          exact rz_iret dX11_told_85 trivial hF
      · replace hF := ite_t hF c
        refine rz_aload_n dX11_told_28 rfl (show _ = some (some (vo x0)) from rfl) ?_
        replace hF := rdI_e hF
        obtain ⟨fs, f7, hg, hv, hF⟩ := hF
        refine rz_getf dX11_told_29 fl_X11_337 hg hv ?_
        refine rz_goto (tgt := 85) dX11_told_32 (by decide) ?_
        exact rz_iret dX11_told_85 trivial hF
    · replace hF := ite_t hF c
      refine rz_aload_n dX11_told_16 rfl (show _ = some (some (vo x0)) from rfl) ?_
      replace hF := rdI_e hF
      obtain ⟨fs, f8, hg, hv, hF⟩ := hF
      refine rz_getf dX11_told_17 fl_X11_245 hg hv ?_
      refine rz_goto (tgt := 85) dX11_told_20 (by decide) ?_
      exact rz_iret dX11_told_85 trivial hF
  · replace hF := ite_t hF c
    refine rz_aload_n dX11_told_4 rfl (show _ = some (some (vo x0)) from rfl) ?_
    replace hF := rdI_e hF
    obtain ⟨fs, f9, hg, hv, hF⟩ := hF
    refine rz_getf dX11_told_5 fl_X11_125 hg hv ?_
    refine rz_goto (tgt := 85) dX11_told_8 (by decide) ?_
    exact rz_iret dX11_told_85 trivial hF
