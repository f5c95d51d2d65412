theorem vX0_init {G : az_G} {d : Nat} {x0 : Nat} {x1 : Int} {x2 : Int} {x3 : Int} {x4 : Int} {h : az_H} {Q : Option az_V → az_H → Prop} (hF : wrF h x0 0 0 (.int) (vi x1) (fun h1 => wrF h1 x0 0 1 (.int) (vi x2) (fun h2 => wrF h2 x0 0 2 (.int) (vi x3) (fun h3 => wrF h3 x0 0 3 (.int) (vi x4) (fun h4 => Q none h4))))) : cz G mX0_init (d + 1) 0 0 [vo x0, vi x1, vi x2, vi x3, vi x4] h Q := by
  refine cz_of (ls := [some (vo x0), some (vi x1), some (vi x2), some (vi x3), some (vi x4)]) (by decide +kernel) (Nat.le_of_ble_eq_true rfl) rfl ?_
  refine rz_aload_n dX0_init_0 rfl (show _ = some (some (vo x0)) from rfl) ?_
  refine rz_obj dX0_init_1 k_196 k_99 k_100 (Nat.le_of_ble_eq_true rfl) ?_
  refine rz_aload_n dX0_init_4 rfl (show _ = some (some (vo x0)) from rfl) ?_
  refine rz_iload_n dX0_init_5 rfl (show _ = some (some (vi x1)) from rfl) ?_
  replace hF := wrF_e hF
  obtain ⟨fs, hg, hv, hF⟩ := hF
  refine rz_putf dX0_init_6 fl_X0_7 (Or.inr rfl) hg hv ?_
  refine rz_aload_n dX0_init_9 rfl (show _ = some (some (vo x0)) from rfl) ?_
  refine rz_iload_n dX0_init_10 rfl (show _ = some (some (vi x2)) from rfl) ?_
  replace hF := wrF_e hF
  obtain ⟨fs, hg, hv, hF⟩ := hF
  refine rz_putf dX0_init_11 fl_X0_13 (Or.inr rfl) hg hv ?_
  refine rz_aload_n dX0_init_14 rfl (show _ = some (some (vo x0)) from rfl) ?_
  refine rz_iload_n dX0_init_15 rfl (show _ = some (some (vi x3)) from rfl) ?_
  replace hF := wrF_e hF
  obtain ⟨fs, hg, hv, hF⟩ := hF
  refine rz_putf dX0_init_16 fl_X0_16 (Or.inr rfl) hg hv ?_
  refine rz_aload_n dX0_init_19 rfl (show _ = some (some (vo x0)) from rfl) ?_
  refine rz_iload dX0_init_20 (show _ = some (some (vi x4)) from rfl) ?_
  replace hF := wrF_e hF
  obtain ⟨fs, hg, hv, hF⟩ := hF
  refine rz_putf dX0_init_22 fl_X0_19 (Or.inr rfl) hg hv ?_
  exact rz_vret dX0_init_25 trivial hF
theorem vJ9_min_7cf53 {G : az_G} {d : Nat} {x0 : Int} {x1 : Int} {h : az_H} {Q : Option az_V → az_H → Prop} (hF : (if x1 < x0 then Q (some (vi x1)) h else Q (some (vi x0)) h)) : cz G mJ9_min_7cf53 d 0 0 [vi x0, vi x1] h Q := by
  refine cz_of (ls := [some (vi x0), some (vi x1)]) (by decide +kernel) (Nat.le_of_ble_eq_true rfl) rfl ?_
  refine rz_iload_n dJ9_min_7cf53_0 rfl (show _ = some (some (vi x0)) from rfl) ?_
  refine rz_iload_n dJ9_min_7cf53_1 rfl (show _ = some (some (vi x1)) from rfl) ?_
  refine rz_icmp_gt (tgt := 9) dJ9_min_7cf53_2 (by decide) (fun c => ?_) (fun c => ?_)
  · replace hF := ite_t hF c
    refine rz_iload_n dJ9_min_7cf53_9 rfl (show _ = some (some (vi x1)) from rfl) ?_
    exact rz_iret dJ9_min_7cf53_10 trivial hF
  · replace hF := ite_f hF c
    refine rz_iload_n dJ9_min_7cf53_5 rfl (show _ = some (some (vi x0)) from rfl) ?_
    refine rz_goto (tgt := 10) dJ9_min_7cf53_6 (by decide) ?_
    exact rz_iret dJ9_min_7cf53_10 trivial hF
theorem vJ9_max_7cf53 {G : az_G} {d : Nat} {x0 : Int} {x1 : Int} {h : az_H} {Q : Option az_V → az_H → Prop} (hF : (if x0 < x1 then Q (some (vi x1)) h else Q (some (vi x0)) h)) : cz G mJ9_max_7cf53 d 0 0 [vi x0, vi x1] h Q := by
  refine cz_of (ls := [some (vi x0), some (vi x1)]) (by decide +kernel) (Nat.le_of_ble_eq_true rfl) rfl ?_
  refine rz_iload_n dJ9_max_7cf53_0 rfl (show _ = some (some (vi x0)) from rfl) ?_
  refine rz_iload_n dJ9_max_7cf53_1 rfl (show _ = some (some (vi x1)) from rfl) ?_
  refine rz_icmp_lt (tgt := 9) dJ9_max_7cf53_2 (by decide) (fun c => ?_) (fun c => ?_)
  · replace hF := ite_t hF c
    refine rz_iload_n dJ9_max_7cf53_9 rfl (show _ = some (some (vi x1)) from rfl) ?_
    exact rz_iret dJ9_max_7cf53_10 trivial hF
  · replace hF := ite_f hF c
    refine rz_iload_n dJ9_max_7cf53_5 rfl (show _ = some (some (vi x0)) from rfl) ?_
    refine rz_goto (tgt := 10) dJ9_max_7cf53_6 (by decide) ?_
    exact rz_iret dJ9_max_7cf53_10 trivial hF
theorem vJ7_copyOf_59c91 {G : az_G} {d : Nat} {x0 : Option Nat} {x1 : Int} {h : az_H} {Q : Option az_V → az_H → Prop} (hF : nnR x0 (fun a1 => aln h a1 (fun n2 => (if x1 = n2 then clA h a1 208 (fun No9 Nh10 => isA Nh10 No9 (Q (some (vo No9)) Nh10)) else (0 ≤ x1 ∧ x1 ≤ 208 ∧ nwO h (cA .int (List.replicate (Int.toNat x1) 0)) (fun No3 Nh4 => aln Nh4 a1 (fun n5 => cz G mJ9_min_7cf53 d 0 0 [vi n5, vi x1] Nh4 (fun v h6 => atI v (fun r7 => acp h6 a1 No3 0 0 r7 (fun h8 => Q (some (vo No3)) h8)))))))))) : cz G mJ7_copyOf_59c91 (d + 1) 1 208 [vr x0, vi x1] h Q := by
  refine cz_of (ls := [some (vr x0), some (vi x1), none]) (by decide +kernel) (Nat.le_of_ble_eq_true rfl) rfl ?_
  refine rz_iload_n dJ7_copyOf_59c91_0 rfl (show _ = some (some (vi x1)) from rfl) ?_
  refine rz_aload_n dJ7_copyOf_59c91_1 rfl (show _ = some (some (vr x0)) from rfl) ?_
  replace hF := nnR_e hF
  obtain ⟨a1, ea1, hF⟩ := hF
  subst ea1
  replace hF := aln_e hF
  obtain ⟨n2, hg, hr, hF⟩ := hF
  refine rz_alen dJ7_copyOf_59c91_2 hg hr ?_
  refine rz_icmp_ne (tgt := 14) dJ7_copyOf_59c91_3 (by decide) (fun c => ?_) (fun c => ?_)
  · replace hF := ite_f hF c
    refine rz_iload_n dJ7_copyOf_59c91_14 rfl (show _ = some (some (vi x1)) from rfl) ?_
    obtain ⟨hn0, hn1, hF⟩ := hF
    refine ez_wide (mc := 0 + 1) (ms := 0 + Int.toNat x1) (Nat.le_of_ble_eq_true rfl) (by omega) ?_
    refine rz_newa dJ7_copyOf_59c91_15 rfl (by decide) k_155 hn0 (by omega) ?_
    replace hF := nwO_e hF
    refine rz_astore_n (ls' := [some (vo a1), some (vi x1), some (vo _)]) dJ7_copyOf_59c91_17 rfl (Nat.le_of_ble_eq_true rfl) rfl ?_
    refine rz_aload_n dJ7_copyOf_59c91_18 rfl (show _ = some (some (vo a1)) from rfl) ?_
    refine rz_iconst dJ7_copyOf_59c91_19 rfl (by decide) ?_
    refine rz_aload_n dJ7_copyOf_59c91_20 rfl (show _ = some (some (vo _)) from rfl) ?_
    refine rz_iconst dJ7_copyOf_59c91_21 rfl (by decide) ?_
    refine rz_aload_n dJ7_copyOf_59c91_22 rfl (show _ = some (some (vo a1)) from rfl) ?_
    replace hF := aln_e hF
    obtain ⟨n5, hg, hr, hF⟩ := hF
    refine rz_alen dJ7_copyOf_59c91_23 hg hr ?_
    refine rz_iload_n dJ7_copyOf_59c91_24 rfl (show _ = some (some (vi x1)) from rfl) ?_
    refine rz_callS (mc' := 0) (ms' := 0) (mc := 0) (ms := 0) (st := [vi 0, vo _, vi 0, vo a1]) dJ7_copyOf_59c91_25 cS_J7_304 rfl rfl (Nat.le_of_ble_eq_true rfl) hF (fun v h6 hG => ?_)
    clear hF
    revert hG
    intro hF
    replace hF := atI_e hF
    obtain ⟨r7, rfl, hF⟩ := hF
    replace hF := acp_e hF
    obtain ⟨xs, ys, hg0, hg1, g0, g1, g2, g3, g4, hF⟩ := hF
    refine rz_acpy dJ7_copyOf_59c91_28 k_650 k_652 k_651 k_92 hg0 hg1 g0 g1 g2 g3 g4 (Nat.le_of_ble_eq_true rfl) ?_
    refine rz_aload_n dJ7_copyOf_59c91_31 rfl (show _ = some (some (vo _)) from rfl) ?_
    exact rz_aret dJ7_copyOf_59c91_32 trivial hF
  · replace hF := ite_t hF c
    refine rz_aload_n dJ7_copyOf_59c91_6 rfl (show _ = some (some (vo a1)) from rfl) ?_
    replace hF := clA_e hF
    obtain ⟨xs, hg, hn, hF⟩ := hF
    refine ez_wide (mc := 0 + 1) (ms := 0 + xs.length) (Nat.le_of_ble_eq_true rfl) (by omega) ?_
    refine rz_clone dJ7_copyOf_59c91_7 k_642 k_643 k_644 k_645 k_646 (by decide +kernel) hg (Nat.le_of_ble_eq_true rfl) ?_
    replace hF := isA_e hF
    obtain ⟨xs, hg, hF⟩ := hF
    refine rz_casta dJ7_copyOf_59c91_10 k_648 hg ?_
    exact rz_aret dJ7_copyOf_59c91_13 trivial hF
theorem vX1_init {G : az_G} {d : Nat} {x0 : Nat} {x1 : Option Nat} {x2 : Option Nat} {x3 : Int} {x4 : Int} {x5 : Int} {h : az_H} {Q : Option az_V → az_H → Prop} (hF : nnR x1 (fun a1 => aln h a1 (fun n2 => nnR x2 (fun a3 => aln h a3 (fun n4 => cz G mJ9_min_7cf53 d 0 0 [vi n2, vi n4] h (fun v h5 => atI v (fun r6 => cz G mJ9_min_7cf53 d 0 0 [vi x3, vi r6] h5 (fun v h7 => atI v (fun r8 => cz G mJ9_max_7cf53 d 0 0 [vi 0, vi r8] h7 (fun v h9 => atI v (fun r10 => wrF h9 x0 1 2 (.int) (vi r10) (fun h11 => rdI h11 x0 1 2 (fun f12 => cz G mJ7_copyOf_59c91 d 1 208 [vo a1, vi f12] h11 (fun v h13 => atR v (fun r14 => wrF h13 x0 1 3 (.array (.int)) (vr r14) (fun h15 => rdI h15 x0 1 2 (fun f16 => cz G mJ7_copyOf_59c91 d 1 208 [vo a3, vi f16] h15 (fun v h17 => atR v (fun r18 => wrF h17 x0 1 4 (.array (.int)) (vr r18) (fun h19 => wrF h19 x0 1 0 (.int) (vi x4) (fun h20 => wrF h20 x0 1 1 (.int) (vi x5) (fun h21 => Q none h21)))))))))))))))))))))) : cz G mX1_init (d + 1) 2 416 [vo x0, vr x1, vr x2, vi x3, vi x4, vi x5] h Q := by
  refine cz_of (ls := [some (vo x0), some (vr x1), some (vr x2), some (vi x3), some (vi x4), some (vi x5)]) (by decide +kernel) (Nat.le_of_ble_eq_true rfl) rfl ?_
  refine rz_aload_n dX1_init_0 rfl (show _ = some (some (vo x0)) from rfl) ?_
  refine rz_obj dX1_init_1 k_636 k_99 k_100 (Nat.le_of_ble_eq_true rfl) ?_
  refine rz_aload_n dX1_init_4 rfl (show _ = some (some (vo x0)) from rfl) ?_
  refine rz_iconst dX1_init_5 rfl (by decide) ?_
  refine rz_iload_n dX1_init_6 rfl (show _ = some (some (vi x3)) from rfl) ?_
  refine rz_aload_n dX1_init_7 rfl (show _ = some (some (vr x1)) from rfl) ?_
  replace hF := nnR_e hF
  obtain ⟨a1, ea1, hF⟩ := hF
  subst ea1
  replace hF := aln_e hF
  obtain ⟨n2, hg, hr, hF⟩ := hF
  refine rz_alen dX1_init_8 hg hr ?_
  refine rz_aload_n dX1_init_9 rfl (show _ = some (some (vr x2)) from rfl) ?_
  replace hF := nnR_e hF
  obtain ⟨a3, ea3, hF⟩ := hF
  subst ea3
  replace hF := aln_e hF
  obtain ⟨n4, hg, hr, hF⟩ := hF
  refine rz_alen dX1_init_10 hg hr ?_
  refine rz_callS (mc' := 0) (ms' := 0) (mc := 2) (ms := 416) (st := [vi x3, vi 0, vo x0]) dX1_init_11 cS_X1_7 rfl rfl (Nat.le_of_ble_eq_true rfl) hF (fun v h5 hG => ?_)
  clear hF
  revert hG
  intro hF
  replace hF := atI_e hF
  obtain ⟨r6, rfl, hF⟩ := hF
  refine rz_callS (mc' := 0) (ms' := 0) (mc := 2) (ms := 416) (st := [vi 0, vo x0]) dX1_init_14 cS_X1_7 rfl rfl (Nat.le_of_ble_eq_true rfl) hF (fun v h7 hG => ?_)
  clear hF
  revert hG
  intro hF
  replace hF := atI_e hF
  obtain ⟨r8, rfl, hF⟩ := hF
  refine rz_callS (mc' := 0) (ms' := 0) (mc := 2) (ms := 416) (st := [vo x0]) dX1_init_17 cS_X1_13 rfl rfl (Nat.le_of_ble_eq_true rfl) hF (fun v h9 hG => ?_)
  clear hF
  revert hG
  intro hF
  replace hF := atI_e hF
  obtain ⟨r10, rfl, hF⟩ := hF
  replace hF := wrF_e hF
  obtain ⟨fs, hg, hv, hF⟩ := hF
  refine rz_putf dX1_init_20 fl_X1_16 (Or.inr rfl) hg hv ?_
  refine rz_aload_n dX1_init_23 rfl (show _ = some (some (vo x0)) from rfl) ?_
  refine rz_aload_n dX1_init_24 rfl (show _ = some (some (vo a1)) from rfl) ?_
  refine rz_aload_n dX1_init_25 rfl (show _ = some (some (vo x0)) from rfl) ?_
  replace hF := rdI_e hF
  obtain ⟨fs, f12, hg, hv, hF⟩ := hF
  refine rz_getf dX1_init_26 fl_X1_16 hg hv ?_
  refine rz_callS (mc' := 1) (ms' := 208) (mc := 1) (ms := 208) (st := [vo x0]) dX1_init_29 cS_X1_22 rfl rfl (Nat.le_of_ble_eq_true rfl) hF (fun v h13 hG => ?_)
  clear hF
  revert hG
  intro hF
  replace hF := atR_e hF
  obtain ⟨r14, rfl, hF⟩ := hF
  replace hF := wrF_e hF
  obtain ⟨fs, hg, hv, hF⟩ := hF
  refine rz_putf dX1_init_32 fl_X1_28 (Or.inr rfl) hg hv ?_
  refine rz_aload_n dX1_init_35 rfl (show _ = some (some (vo x0)) from rfl) ?_
  refine rz_aload_n dX1_init_36 rfl (show _ = some (some (vo a3)) from rfl) ?_
  refine rz_aload_n dX1_init_37 rfl (show _ = some (some (vo x0)) from rfl) ?_
  replace hF := rdI_e hF
  obtain ⟨fs, f16, hg, hv, hF⟩ := hF
  refine rz_getf dX1_init_38 fl_X1_16 hg hv ?_
  refine rz_callS (mc' := 1) (ms' := 208) (mc := 0) (ms := 0) (st := [vo x0]) dX1_init_41 cS_X1_22 rfl rfl (Nat.le_of_ble_eq_true rfl) hF (fun v h17 hG => ?_)
  clear hF
  revert hG
  intro hF
  replace hF := atR_e hF
  obtain ⟨r18, rfl, hF⟩ := hF
  replace hF := wrF_e hF
  obtain ⟨fs, hg, hv, hF⟩ := hF
  refine rz_putf dX1_init_44 fl_X1_32 (Or.inr rfl) hg hv ?_
  refine rz_aload_n dX1_init_47 rfl (show _ = some (some (vo x0)) from rfl) ?_
  refine rz_iload dX1_init_48 (show _ = some (some (vi x4)) from rfl) ?_
  replace hF := wrF_e hF
  obtain ⟨fs, hg, hv, hF⟩ := hF
  refine rz_putf dX1_init_50 fl_X1_35 (Or.inr rfl) hg hv ?_
  refine rz_aload_n dX1_init_53 rfl (show _ = some (some (vo x0)) from rfl) ?_
  refine rz_iload dX1_init_54 (show _ = some (some (vi x5)) from rfl) ?_
  replace hF := wrF_e hF
  obtain ⟨fs, hg, hv, hF⟩ := hF
  refine rz_putf dX1_init_56 fl_X1_38 (Or.inr rfl) hg hv ?_
  exact rz_vret dX1_init_59 trivial hF
theorem vX1_op {G : az_G} {d : Nat} {x0 : Nat} {x1 : Int} {h : az_H} {Q : Option az_V → az_H → Prop} (hF : (if x1 < 0 then Q (some (vi 0)) h else rdO h x0 1 3 (fun o1 => aln h o1 (fun n2 => (if n2 ≤ x1 then Q (some (vi 0)) h else rdO h x0 1 3 (fun o3 => ldI h o3 (.int) x1 (fun e4 => Q (some (vi e4)) h))))))) : cz G mX1_op d 0 0 [vo x0, vi x1] h Q := by
  refine cz_of (ls := [some (vo x0), some (vi x1)]) (by decide +kernel) (Nat.le_of_ble_eq_true rfl) rfl ?_
  refine rz_iload_n dX1_op_0 rfl (show _ = some (some (vi x1)) from rfl) ?_
  refine rz_if_lt (tgt := 22) dX1_op_1 (by decide) (fun c => ?_) (fun c => ?_)
  · replace hF := ite_t hF c
    refine rz_iconst dX1_op_22 rfl (by decide) ?_
    exact rz_iret dX1_op_23 trivial hF
  · replace hF := ite_f hF c
    refine rz_iload_n dX1_op_4 rfl (show _ = some (some (vi x1)) from rfl) ?_
    refine rz_aload_n dX1_op_5 rfl (show _ = some (some (vo x0)) from rfl) ?_
    replace hF := rdO_e hF
    obtain ⟨fs, o1, hg, hv, hF⟩ := hF
    refine rz_getf dX1_op_6 fl_X1_28 hg hv ?_
    replace hF := aln_e hF
    obtain ⟨n2, hg, hr, hF⟩ := hF
    refine rz_alen dX1_op_9 hg hr ?_
    refine rz_icmp_ge (tgt := 22) dX1_op_10 (by decide) (fun c => ?_) (fun c => ?_)
    · replace hF := ite_t hF c
      refine rz_iconst dX1_op_22 rfl (by decide) ?_
      exact rz_iret dX1_op_23 trivial hF
    · replace hF := ite_f hF c
      refine rz_aload_n dX1_op_13 rfl (show _ = some (some (vo x0)) from rfl) ?_
      replace hF := rdO_e hF
      obtain ⟨fs, o3, hg, hv, hF⟩ := hF
      refine rz_getf dX1_op_14 fl_X1_28 hg hv ?_
      refine rz_iload_n dX1_op_17 rfl (show _ = some (some (vi x1)) from rfl) ?_
      replace hF := ldI_e hF
      obtain ⟨xs, hg, h0, h1, hF⟩ := hF
      refine rz_iald dX1_op_18 hg h0 h1 ?_
      generalize xs.getD _ 0 = e4 at hF ⊢
      refine rz_goto (tgt := 23) dX1_op_19 (by decide) ?_
      exact rz_iret dX1_op_23 trivial hF
theorem vX1_arg {G : az_G} {d : Nat} {x0 : Nat} {x1 : Int} {h : az_H} {Q : Option az_V → az_H → Prop} (hF : (if x1 < 0 then Q (some (vi 0)) h else rdO h x0 1 4 (fun o1 => aln h o1 (fun n2 => (if n2 ≤ x1 then Q (some (vi 0)) h else rdO h x0 1 4 (fun o3 => ldI h o3 (.int) x1 (fun e4 => Q (some (vi e4)) h))))))) : cz G mX1_arg d 0 0 [vo x0, vi x1] h Q := by
  refine cz_of (ls := [some (vo x0), some (vi x1)]) (by decide +kernel) (Nat.le_of_ble_eq_true rfl) rfl ?_
  refine rz_iload_n dX1_arg_0 rfl (show _ = some (some (vi x1)) from rfl) ?_
  refine rz_if_lt (tgt := 22) dX1_arg_1 (by decide) (fun c => ?_) (fun c => ?_)
  · replace hF := ite_t hF c
    refine rz_iconst dX1_arg_22 rfl (by decide) ?_
    exact rz_iret dX1_arg_23 trivial hF
  · replace hF := ite_f hF c
    refine rz_iload_n dX1_arg_4 rfl (show _ = some (some (vi x1)) from rfl) ?_
    refine rz_aload_n dX1_arg_5 rfl (show _ = some (some (vo x0)) from rfl) ?_
    replace hF := rdO_e hF
    obtain ⟨fs, o1, hg, hv, hF⟩ := hF
    refine rz_getf dX1_arg_6 fl_X1_32 hg hv ?_
    replace hF := aln_e hF
    obtain ⟨n2, hg, hr, hF⟩ := hF
    refine rz_alen dX1_arg_9 hg hr ?_
    refine rz_icmp_ge (tgt := 22) dX1_arg_10 (by decide) (fun c => ?_) (fun c => ?_)
    · replace hF := ite_t hF c
      refine rz_iconst dX1_arg_22 rfl (by decide) ?_
      exact rz_iret dX1_arg_23 trivial hF
    · replace hF := ite_f hF c
      refine rz_aload_n dX1_arg_13 rfl (show _ = some (some (vo x0)) from rfl) ?_
      replace hF := rdO_e hF
      obtain ⟨fs, o3, hg, hv, hF⟩ := hF
      refine rz_getf dX1_arg_14 fl_X1_32 hg hv ?_
      refine rz_iload_n dX1_arg_17 rfl (show _ = some (some (vi x1)) from rfl) ?_
      replace hF := ldI_e hF
      obtain ⟨xs, hg, h0, h1, hF⟩ := hF
      refine rz_iald dX1_arg_18 hg h0 h1 ?_
      generalize xs.getD _ 0 = e4 at hF ⊢
      refine rz_goto (tgt := 23) dX1_arg_19 (by decide) ?_
      exact rz_iret dX1_arg_23 trivial hF
theorem vX6_init {G : az_G} {d : Nat} {x0 : Nat} {x1 : Int} {h : az_H} {Q : Option az_V → az_H → Prop} (hF : cz G mJ9_max_7cf53 d 0 0 [vi 0, vi x1] h (fun v h1 => atI v (fun r2 => wrF h1 x0 6 0 (.int) (vi r2) (fun h3 => rdI h3 x0 6 0 (fun f4 => (0 ≤ w32 (f4 * 12) ∧ w32 (f4 * 12) ≤ 240 ∧ nwO h3 (cA .int (List.replicate (Int.toNat (w32 (f4 * 12))) 0)) (fun No5 Nh6 => wrF Nh6 x0 6 1 (.array (.int)) (vo No5) (fun h7 => rdI h7 x0 6 0 (fun f8 => (0 ≤ f8 ∧ f8 ≤ 240 ∧ nwO h7 (cA .int (List.replicate (Int.toNat f8) 0)) (fun No9 Nh10 => wrF Nh10 x0 6 2 (.array (.int)) (vo No9) (fun h11 => Q none h11)))))))))))) : cz G mX6_init (d + 1) 2 480 [vo x0, vi x1] h Q := by
  refine cz_of (ls := [some (vo x0), some (vi x1)]) (by decide +kernel) (Nat.le_of_ble_eq_true rfl) rfl ?_
  refine rz_aload_n dX6_init_0 rfl (show _ = some (some (vo x0)) from rfl) ?_
  refine rz_obj dX6_init_1 k_298 k_99 k_100 (Nat.le_of_ble_eq_true rfl) ?_
  refine rz_aload_n dX6_init_4 rfl (show _ = some (some (vo x0)) from rfl) ?_
  refine rz_iconst dX6_init_5 rfl (by decide) ?_
  refine rz_iload_n dX6_init_6 rfl (show _ = some (some (vi x1)) from rfl) ?_
  refine rz_callS (mc' := 0) (ms' := 0) (mc := 2) (ms := 480) (st := [vo x0]) dX6_init_7 cS_X6_9 rfl rfl (Nat.le_of_ble_eq_true rfl) hF (fun v h1 hG => ?_)
  clear hF
  revert hG
  intro hF
  replace hF := atI_e hF
  obtain ⟨r2, rfl, hF⟩ := hF
  replace hF := wrF_e hF
  obtain ⟨fs, hg, hv, hF⟩ := hF
  refine rz_putf dX6_init_10 fl_X6_15 (Or.inr rfl) hg hv ?_
  refine rz_aload_n dX6_init_13 rfl (show _ = some (some (vo x0)) from rfl) ?_
  refine rz_aload_n dX6_init_14 rfl (show _ = some (some (vo x0)) from rfl) ?_
  replace hF := rdI_e hF
  obtain ⟨fs, f4, hg, hv, hF⟩ := hF
  refine rz_getf dX6_init_15 fl_X6_15 hg hv ?_
  refine rz_bipush (v := 12) dX6_init_18 (by decide) (by decide) ?_
  refine rz_imul dX6_init_20 ?_
  obtain ⟨hn0, hn1, hF⟩ := hF
  refine ez_wide (mc := 1 + 1) (ms := 240 + Int.toNat (w32 (f4 * 12))) (Nat.le_of_ble_eq_true rfl) (by omega) ?_
  refine rz_newa dX6_init_21 rfl (by decide) k_155 hn0 (by omega) ?_
  replace hF := nwO_e hF
  replace hF := wrF_e hF
  obtain ⟨fs, hg, hv, hF⟩ := hF
  refine rz_putf dX6_init_23 fl_X6_21 (Or.inr rfl) hg hv ?_
  refine rz_aload_n dX6_init_26 rfl (show _ = some (some (vo x0)) from rfl) ?_
  refine rz_aload_n dX6_init_27 rfl (show _ = some (some (vo x0)) from rfl) ?_
  replace hF := rdI_e hF
  obtain ⟨fs, f8, hg, hv, hF⟩ := hF
  refine rz_getf dX6_init_28 fl_X6_15 hg hv ?_
  obtain ⟨hn0, hn1, hF⟩ := hF
  refine ez_wide (mc := 0 + 1) (ms := 0 + Int.toNat f8) (Nat.le_of_ble_eq_true rfl) (by omega) ?_
  refine rz_newa dX6_init_31 rfl (by decide) k_155 hn0 (by omega) ?_
  replace hF := nwO_e hF
  replace hF := wrF_e hF
  obtain ⟨fs, hg, hv, hF⟩ := hF
  refine rz_putf dX6_init_33 fl_X6_25 (Or.inr rfl) hg hv ?_
  exact rz_vret dX6_init_36 trivial hF
theorem vX2_init {G : az_G} {d : Nat} {x0 : Nat} {x1 : Option Nat} {x2 : Option Nat} {h : az_H} {Q : Option az_V → az_H → Prop} (hF : nwO h (cO 6 [vi 0, vn, vn, vi 0]) (fun No1 Nh2 => cz G mX6_init d 2 480 [vo No1, vi 8] Nh2 (fun v h3 => atV v (wrF h3 x0 2 2 (.object "InvariantSearch$Rows") (vo No1) (fun h4 => wrF h4 x0 2 0 (.object "InvariantSearch$Runner") (vr x1) (fun h5 => wrF h5 x0 2 1 (.object "InvariantSearch$World") (vr x2) (fun h6 => Q none h6))))))) : cz G mX2_init (d + 1) 3 484 [vo x0, vr x1, vr x2] h Q := by
  refine cz_of (ls := [some (vo x0), some (vr x1), some (vr x2)]) (by decide +kernel) (Nat.le_of_ble_eq_true rfl) rfl ?_
  refine rz_aload_n dX2_init_0 rfl (show _ = some (some (vo x0)) from rfl) ?_
  refine rz_obj dX2_init_1 k_292 k_99 k_100 (Nat.le_of_ble_eq_true rfl) ?_
  refine rz_aload_n dX2_init_4 rfl (show _ = some (some (vo x0)) from rfl) ?_
  refine ez_wide (mc := 2 + 1) (ms := 480 + 4) (Nat.le_of_ble_eq_true rfl) (Nat.le_of_ble_eq_true rfl) ?_
  refine rz_new (fs := [vi 0, vn, vn, vi 0]) dX2_init_5 nw_X2_9 ?_
  replace hF := nwO_e hF
  refine rz_dup dX2_init_8 (by rintro ⟨_, q⟩; cases q) ?_
  refine rz_bipush (v := 8) dX2_init_9 (by decide) (by decide) ?_
  refine rz_callI (mc' := 2) (ms' := 480) (mc := 0) (ms := 0) (st := [vo _, vo x0]) dX2_init_11 cI_X2_11 rfl rfl (Nat.le_of_ble_eq_true rfl) hF (fun v h3 hG => ?_)
  clear hF
  revert hG
  intro hF
  replace hF := atV_e hF
  obtain ⟨rfl, hF⟩ := hF
  replace hF := wrF_e hF
  obtain ⟨fs, hg, hv, hF⟩ := hF
  refine rz_putf dX2_init_14 fl_X2_14 (Or.inr rfl) hg hv ?_
  refine rz_aload_n dX2_init_17 rfl (show _ = some (some (vo x0)) from rfl) ?_
  refine rz_aload_n dX2_init_18 rfl (show _ = some (some (vr x1)) from rfl) ?_
  replace hF := wrF_e hF
  obtain ⟨fs, hg, hv, hF⟩ := hF
  refine rz_putf dX2_init_19 fl_X2_20 (Or.inr rfl) hg hv ?_
  refine rz_aload_n dX2_init_22 rfl (show _ = some (some (vo x0)) from rfl) ?_
  refine rz_aload_n dX2_init_23 rfl (show _ = some (some (vr x2)) from rfl) ?_
  replace hF := wrF_e hF
  obtain ⟨fs, hg, hv, hF⟩ := hF
  refine rz_putf dX2_init_24 fl_X2_24 (Or.inr rfl) hg hv ?_
  exact rz_vret dX2_init_27 trivial hF
theorem vX6_size {G : az_G} {d : Nat} {x0 : Nat} {h : az_H} {Q : Option az_V → az_H → Prop} (hF : rdI h x0 6 3 (fun f1 => Q (some (vi f1)) h)) : cz G mX6_size d 0 0 [vo x0] h Q := by
  refine cz_of (ls := [some (vo x0)]) (by decide +kernel) (Nat.le_of_ble_eq_true rfl) rfl ?_
  refine rz_aload_n dX6_size_0 rfl (show _ = some (some (vo x0)) from rfl) ?_
  replace hF := rdI_e hF
  obtain ⟨fs, f1, hg, hv, hF⟩ := hF
  refine rz_getf dX6_size_1 fl_X6_28 hg hv ?_
  exact rz_iret dX6_size_4 trivial hF
theorem vX2_keptCount {G : az_G} {d : Nat} {x0 : Nat} {h : az_H} {Q : Option az_V → az_H → Prop} (hF : rdO h x0 2 2 (fun o1 => rcv h o1 6 (cz G mX6_size d 0 0 [vo o1] h (fun v h2 => atI v (fun r3 => Q (some (vi r3)) h2))))) : cz G mX2_keptCount (d + 1) 0 0 [vo x0] h Q := by
  refine cz_of (ls := [some (vo x0)]) (by decide +kernel) (Nat.le_of_ble_eq_true rfl) rfl ?_
  refine rz_aload_n dX2_keptCount_0 rfl (show _ = some (some (vo x0)) from rfl) ?_
  replace hF := rdO_e hF
  obtain ⟨fs, o1, hg, hv, hF⟩ := hF
  refine rz_getf dX2_keptCount_1 fl_X2_14 hg hv ?_
  replace hF := rcv_e hF
  obtain ⟨fs, hg, hF⟩ := hF
  refine rz_callV (mc' := 0) (ms' := 0) (mc := 0) (ms := 0) (st := []) dX2_keptCount_4 cV_X2_28 rfl hg ⟨_, _, rfl⟩ rfl (Nat.le_of_ble_eq_true rfl) hF (fun v h2 hG => ?_)
  clear hF
  revert hG
  intro hF
  replace hF := atI_e hF
  obtain ⟨r3, rfl, hF⟩ := hF
  exact rz_iret dX2_keptCount_7 trivial hF
theorem vX6_has {G : az_G} {d : Nat} {x0 : Nat} {x1 : Int} {h : az_H} {Q : Option az_V → az_H → Prop} (hF : (if x1 < 0 then Q (some (vi 0)) h else rdI h x0 6 3 (fun f1 => (if f1 ≤ x1 then Q (some (vi 0)) h else Q (some (vi 1)) h)))) : cz G mX6_has d 0 0 [vo x0, vi x1] h Q := by
  refine cz_of (ls := [some (vo x0), some (vi x1)]) (by decide +kernel) (Nat.le_of_ble_eq_true rfl) rfl ?_
  refine rz_iload_n dX6_has_0 rfl (show _ = some (some (vi x1)) from rfl) ?_
  refine rz_if_lt (tgt := 16) dX6_has_1 (by decide) (fun c => ?_) (fun c => ?_)
  · replace hF := ite_t hF c
    refine rz_iconst dX6_has_16 rfl (by decide) ?_
    exact rz_iret dX6_has_17 (Or.inl rfl) hF
  · replace hF := ite_f hF c
    refine rz_iload_n dX6_has_4 rfl (show _ = some (some (vi x1)) from rfl) ?_
    refine rz_aload_n dX6_has_5 rfl (show _ = some (some (vo x0)) from rfl) ?_
    replace hF := rdI_e hF
    obtain ⟨fs, f1, hg, hv, hF⟩ := hF
    refine rz_getf dX6_has_6 fl_X6_28 hg hv ?_
    refine rz_icmp_ge (tgt := 16) dX6_has_9 (by decide) (fun c => ?_) (fun c => ?_)
    · replace hF := ite_t hF c
      refine rz_iconst dX6_has_16 rfl (by decide) ?_
      exact rz_iret dX6_has_17 (Or.inl rfl) hF
    · replace hF := ite_f hF c
      refine rz_iconst dX6_has_12 rfl (by decide) ?_
      refine rz_goto (tgt := 17) dX6_has_13 (by decide) ?_
      exact rz_iret dX6_has_17 (Or.inr rfl) hF
theorem vX6_tell {G : az_G} {d : Nat} {x0 : Nat} {x1 : Int} {x2 : Int} {h : az_H} {Q : Option az_V → az_H → Prop} (hF : rcv h x0 6 (cz G mX6_has d 0 0 [vo x0, vi x1] h (fun v h1 => atI v (fun r2 => (if r2 = 0 then Q (some (vi ((-1)))) h1 else (if x2 < (-1) then Q (some (vi ((-1)))) h1 else rdO h1 x0 6 2 (fun o3 => ldI h1 o3 (.int) x1 (fun e4 => (if x2 < e4 then (if x2 = (-1) then rdO h1 x0 6 2 (fun o7 => ldI h1 o7 (.int) x1 (fun e8 => Q (some (vi e8)) h1)) else rdO h1 x0 6 1 (fun o5 => ldI h1 o5 (.int) (w32 ((w32 (x1 * 12)) + x2)) (fun e6 => Q (some (vi e6)) h1))) else Q (some (vi ((-1)))) h1))))))))) : cz G mX6_tell (d + 1) 0 0 [vo x0, vi x1, vi x2] h Q := by
  refine cz_of (ls := [some (vo x0), some (vi x1), some (vi x2)]) (by decide +kernel) (Nat.le_of_ble_eq_true rfl) rfl ?_
  refine rz_aload_n dX6_tell_0 rfl (show _ = some (some (vo x0)) from rfl) ?_
  refine rz_iload_n dX6_tell_1 rfl (show _ = some (some (vi x1)) from rfl) ?_
  replace hF := rcv_e hF
  obtain ⟨fs, hg, hF⟩ := hF
  refine rz_callV (mc' := 0) (ms' := 0) (mc := 0) (ms := 0) (st := []) dX6_tell_2 cV_X6_44 rfl hg ⟨_, _, rfl⟩ rfl (Nat.le_of_ble_eq_true rfl) hF (fun v h1 hG => ?_)
  clear hF
  revert hG
  intro hF
  replace hF := atI_e hF
  obtain ⟨r2, rfl, hF⟩ := hF
  refine rz_if_eq (tgt := 23) dX6_tell_5 (by decide) (fun c => ?_) (fun c => ?_)
  · replace hF := ite_t hF c
    refine rz_iconst dX6_tell_23 rfl (by decide) ?_
    exact rz_iret dX6_tell_24 trivial hF
  · replace hF := ite_f hF c
    refine rz_iload_n dX6_tell_8 rfl (show _ = some (some (vi x2)) from rfl) ?_
    refine rz_iconst dX6_tell_9 rfl (by decide) ?_
    refine rz_icmp_lt (tgt := 23) dX6_tell_10 (by decide) (fun c => ?_) (fun c => ?_)
    · replace hF := ite_t hF c
      refine rz_iconst dX6_tell_23 rfl (by decide) ?_
      exact rz_iret dX6_tell_24 trivial hF
    · replace hF := ite_f hF c
      refine rz_iload_n dX6_tell_13 rfl (show _ = some (some (vi x2)) from rfl) ?_
      refine rz_aload_n dX6_tell_14 rfl (show _ = some (some (vo x0)) from rfl) ?_
      replace hF := rdO_e hF
      obtain ⟨fs, o3, hg, hv, hF⟩ := hF
      refine rz_getf dX6_tell_15 fl_X6_25 hg hv ?_
      refine rz_iload_n dX6_tell_18 rfl (show _ = some (some (vi x1)) from rfl) ?_
      replace hF := ldI_e hF
      obtain ⟨xs, hg, h0, h1, hF⟩ := hF
      refine rz_iald dX6_tell_19 hg h0 h1 ?_
      generalize xs.getD _ 0 = e4 at hF ⊢
      refine rz_icmp_lt (tgt := 25) dX6_tell_20 (by decide) (fun c => ?_) (fun c => ?_)
      · replace hF := ite_t hF c
        refine rz_iload_n dX6_tell_25 rfl (show _ = some (some (vi x2)) from rfl) ?_
        refine rz_iconst dX6_tell_26 rfl (by decide) ?_
        refine rz_icmp_ne (tgt := 39) dX6_tell_27 (by decide) (fun c => ?_) (fun c => ?_)
        · replace hF := ite_f hF c
          refine rz_aload_n dX6_tell_39 rfl (show _ = some (some (vo x0)) from rfl) ?_
          replace hF := rdO_e hF
          obtain ⟨fs, o5, hg, hv, hF⟩ := hF
          refine rz_getf dX6_tell_40 fl_X6_21 hg hv ?_
          refine rz_iload_n dX6_tell_43 rfl (show _ = some (some (vi x1)) from rfl) ?_
          refine rz_bipush (v := 12) dX6_tell_44 (by decide) (by decide) ?_
          refine rz_imul dX6_tell_46 ?_
          refine rz_iload_n dX6_tell_47 rfl (show _ = some (some (vi x2)) from rfl) ?_
          refine rz_iadd dX6_tell_48 ?_
          replace hF := ldI_e hF
          obtain ⟨xs, hg, h0, h1, hF⟩ := hF
          refine rz_iald dX6_tell_49 hg h0 h1 ?_
          generalize xs.getD _ 0 = e6 at hF ⊢
          exact rz_iret dX6_tell_50 trivial hF
        · replace hF := ite_t hF c
          refine rz_aload_n dX6_tell_30 rfl (show _ = some (some (vo x0)) from rfl) ?_
          replace hF := rdO_e hF
          obtain ⟨fs, o7, hg, hv, hF⟩ := hF
          refine rz_getf dX6_tell_31 fl_X6_25 hg hv ?_
          refine rz_iload_n dX6_tell_34 rfl (show _ = some (some (vi x1)) from rfl) ?_
          replace hF := ldI_e hF
          obtain ⟨xs, hg, h0, h1, hF⟩ := hF
          refine rz_iald dX6_tell_35 hg h0 h1 ?_
          generalize xs.getD _ 0 = e8 at hF ⊢
          refine rz_goto (tgt := 50) dX6_tell_36 (by decide) ?_
          exact rz_iret dX6_tell_50 trivial hF
      · replace hF := ite_f hF c
        refine rz_iconst dX6_tell_23 rfl (by decide) ?_
        exact rz_iret dX6_tell_24 trivial hF
theorem vX2_tellKept {G : az_G} {d : Nat} {x0 : Nat} {x1 : Int} {x2 : Int} {h : az_H} {Q : Option az_V → az_H → Prop} (hF : rdO h x0 2 2 (fun o1 => rcv h o1 6 (cz G mX6_tell d 0 0 [vo o1, vi x1, vi x2] h (fun v h2 => atI v (fun r3 => Q (some (vi r3)) h2))))) : cz G mX2_tellKept (d + 1) 0 0 [vo x0, vi x1, vi x2] h Q := by
  refine cz_of (ls := [some (vo x0), some (vi x1), some (vi x2)]) (by decide +kernel) (Nat.le_of_ble_eq_true rfl) rfl ?_
  refine rz_aload_n dX2_tellKept_0 rfl (show _ = some (some (vo x0)) from rfl) ?_
  replace hF := rdO_e hF
  obtain ⟨fs, o1, hg, hv, hF⟩ := hF
  refine rz_getf dX2_tellKept_1 fl_X2_14 hg hv ?_
  refine rz_iload_n dX2_tellKept_4 rfl (show _ = some (some (vi x1)) from rfl) ?_
  refine rz_iload_n dX2_tellKept_5 rfl (show _ = some (some (vi x2)) from rfl) ?_
  replace hF := rcv_e hF
  obtain ⟨fs, hg, hF⟩ := hF
  refine rz_callV (mc' := 0) (ms' := 0) (mc := 0) (ms := 0) (st := []) dX2_tellKept_6 cV_X2_32 rfl hg ⟨_, _, rfl⟩ rfl (Nat.le_of_ble_eq_true rfl) hF (fun v h2 hG => ?_)
  clear hF
  revert hG
  intro hF
  replace hF := atI_e hF
  obtain ⟨r3, rfl, hF⟩ := hF
  exact rz_iret dX2_tellKept_9 trivial hF
theorem vX6_clear {G : az_G} {d : Nat} {x0 : Nat} {h : az_H} {Q : Option az_V → az_H → Prop} (hF : wrF h x0 6 3 (.int) (vi 0) (fun h1 => Q none h1)) : cz G mX6_clear d 0 0 [vo x0] h Q := by
  refine cz_of (ls := [some (vo x0)]) (by decide +kernel) (Nat.le_of_ble_eq_true rfl) rfl ?_
  refine rz_aload_n dX6_clear_0 rfl (show _ = some (some (vo x0)) from rfl) ?_
  refine rz_iconst dX6_clear_1 rfl (by decide) ?_
  replace hF := wrF_e hF
  obtain ⟨fs, hg, hv, hF⟩ := hF
  refine rz_putf dX6_clear_2 fl_X6_28 (Or.inl rfl) hg hv ?_
  exact rz_vret dX6_clear_5 trivial hF
def pJ7_fill_53178_5 (G : az_G) (d : Nat) (x0 : Option Nat) (x1 : Int) (x2 : Int) (x3 : Int) (h : az_H) (Q : Option az_V → az_H → Prop) : Prop := ez G mJ7_fill_53178 d 0 0 5 [some (vr x0), some (vi x1), some (vi x2), some (vi x3)] [] h Q
theorem vJ7_fill_53178_5 {G : az_G} {d : Nat} {x0 : Option Nat} {x1 : Int} {x2 : Int} {x3 : Int} {h : az_H} {Q : Option az_V → az_H → Prop} (hF : (if x3 ≤ x2 then Q none h else nnR x0 (fun a1 => stI h a1 .int x2 x1 (fun h2 => pJ7_fill_53178_5 G d (some a1) x1 (w32 (x2 + 1)) x3 h2 Q)))) : pJ7_fill_53178_5 G d x0 x1 x2 x3 h Q := by
  unfold pJ7_fill_53178_5
  refine rz_iload_n dJ7_fill_53178_5 rfl (show _ = some (some (vi x2)) from rfl) ?_
  refine rz_iload_n dJ7_fill_53178_6 rfl (show _ = some (some (vi x3)) from rfl) ?_
  refine rz_icmp_ge (tgt := 20) dJ7_fill_53178_7 (by decide) (fun c => ?_) (fun c => ?_)
  · replace hF := ite_t hF c
    exact rz_vret dJ7_fill_53178_20 trivial hF
  · replace hF := ite_f hF c
    refine rz_aload_n dJ7_fill_53178_10 rfl (show _ = some (some (vr x0)) from rfl) ?_
    refine rz_iload_n dJ7_fill_53178_11 rfl (show _ = some (some (vi x2)) from rfl) ?_
    refine rz_iload_n dJ7_fill_53178_12 rfl (show _ = some (some (vi x1)) from rfl) ?_
    replace hF := nnR_e hF
    obtain ⟨a1, ea1, hF⟩ := hF
    subst ea1
    replace hF := stI_e hF
    obtain ⟨xs, hg, h0, h1, hF⟩ := hF
    refine rz_iast dJ7_fill_53178_13 hg h0 h1 ?_
    refine rz_iinc (ls' := [some (vo a1), some (vi x1), some (vi (w32 (x2 + 1))), some (vi x3)]) dJ7_fill_53178_14 rfl (Nat.le_of_ble_eq_true rfl) rfl ?_
    refine rz_goto (tgt := 5) dJ7_fill_53178_17 (by decide) ?_
    exact hF
theorem vJ7_fill_53178 {G : az_G} {d : Nat} {x0 : Option Nat} {x1 : Int} {h : az_H} {Q : Option az_V → az_H → Prop} (hF : nnR x0 (fun a1 => aln h a1 (fun n2 => pJ7_fill_53178_5 G d (some a1) x1 0 n2 h Q))) : cz G mJ7_fill_53178 d 0 0 [vr x0, vi x1] h Q := by
  refine cz_of (ls := [some (vr x0), some (vi x1), none, none]) (by decide +kernel) (Nat.le_of_ble_eq_true rfl) rfl ?_
  refine rz_iconst dJ7_fill_53178_0 rfl (by decide) ?_
  refine rz_istore_n (ls' := [some (vr x0), some (vi x1), some (vi 0), none]) dJ7_fill_53178_1 rfl (Nat.le_of_ble_eq_true rfl) rfl ?_
  refine rz_aload_n dJ7_fill_53178_2 rfl (show _ = some (some (vr x0)) from rfl) ?_
  replace hF := nnR_e hF
  obtain ⟨a1, ea1, hF⟩ := hF
  subst ea1
  replace hF := aln_e hF
  obtain ⟨n2, hg, hr, hF⟩ := hF
  refine rz_alen dJ7_fill_53178_3 hg hr ?_
  refine rz_istore_n (ls' := [some (vo a1), some (vi x1), some (vi 0), some (vi n2)]) dJ7_fill_53178_4 rfl (Nat.le_of_ble_eq_true rfl) rfl ?_
  exact hF
theorem vX9_unmeetAll {G : az_G} {d : Nat} {x0 : Nat} {h : az_H} {Q : Option az_V → az_H → Prop} (hF : rdO h x0 9 1 (fun o1 => cz G mJ7_fill_53178 d 0 0 [vo o1, vi 0] h (fun v h2 => atV v (Q none h2)))) : cz G mX9_unmeetAll (d + 1) 0 0 [vo x0] h Q := by
  refine cz_of (ls := [some (vo x0)]) (by decide +kernel) (Nat.le_of_ble_eq_true rfl) rfl ?_
  refine rz_aload_n dX9_unmeetAll_0 rfl (show _ = some (some (vo x0)) from rfl) ?_
  replace hF := rdO_e hF
  obtain ⟨fs, o1, hg, hv, hF⟩ := hF
  refine rz_getf dX9_unmeetAll_1 fl_X9_17 hg hv ?_
  refine rz_iconst dX9_unmeetAll_4 rfl (by decide) ?_
  refine rz_callS (mc' := 0) (ms' := 0) (mc := 0) (ms := 0) (st := []) dX9_unmeetAll_5 cS_X9_49 rfl rfl (Nat.le_of_ble_eq_true rfl) hF (fun v h2 hG => ?_)
  clear hF
  revert hG
  intro hF
  replace hF := atV_e hF
  obtain ⟨rfl, hF⟩ := hF
  exact rz_vret dX9_unmeetAll_8 trivial hF
theorem vX2_forget {G : az_G} {d : Nat} {x0 : Nat} {h : az_H} {Q : Option az_V → az_H → Prop} (hF : rdO h x0 2 2 (fun o1 => rcv h o1 6 (cz G mX6_clear d 0 0 [vo o1] h (fun v h2 => atV v (rdO h2 x0 2 1 (fun o3 => rcv h2 o3 9 (cz G mX9_unmeetAll d 0 0 [vo o3] h2 (fun v h4 => atV v (Q none h4))))))))) : cz G mX2_forget (d + 1) 0 0 [vo x0] h Q := by
  refine cz_of (ls := [some (vo x0)]) (by decide +kernel) (Nat.le_of_ble_eq_true rfl) rfl ?_
  refine rz_aload_n dX2_forget_0 rfl (show _ = some (some (vo x0)) from rfl) ?_
  replace hF := rdO_e hF
  obtain ⟨fs, o1, hg, hv, hF⟩ := hF
  refine rz_getf dX2_forget_1 fl_X2_14 hg hv ?_
  replace hF := rcv_e hF
  obtain ⟨fs, hg, hF⟩ := hF
  refine rz_callV (mc' := 0) (ms' := 0) (mc := 0) (ms := 0) (st := []) dX2_forget_4 cV_X2_36 rfl hg ⟨_, _, rfl⟩ rfl (Nat.le_of_ble_eq_true rfl) hF (fun v h2 hG => ?_)
  clear hF
  revert hG
  intro hF
  replace hF := atV_e hF
  obtain ⟨rfl, hF⟩ := hF
  refine rz_aload_n dX2_forget_7 rfl (show _ = some (some (vo x0)) from rfl) ?_
  replace hF := rdO_e hF
  obtain ⟨fs, o3, hg, hv, hF⟩ := hF
  refine rz_getf dX2_forget_8 fl_X2_24 hg hv ?_
  replace hF := rcv_e hF
  obtain ⟨fs, hg, hF⟩ := hF
  refine rz_callV (mc' := 0) (ms' := 0) (mc := 0) (ms := 0) (st := []) dX2_forget_11 cV_X2_39 rfl hg ⟨_, _, rfl⟩ rfl (Nat.le_of_ble_eq_true rfl) hF (fun v h4 hG => ?_)
  clear hF
  revert hG
  intro hF
  replace hF := atV_e hF
  obtain ⟨rfl, hF⟩ := hF
  exact rz_vret dX2_forget_14 trivial hF
theorem vX7_choiceCount {G : az_G} {d : Nat} {x0 : Nat} {h : az_H} {Q : Option az_V → az_H → Prop} (hF : rdI h x0 7 4 (fun f1 => Q (some (vi f1)) h)) : cz G mX7_choiceCount d 0 0 [vo x0] h Q := by
  refine cz_of (ls := [some (vo x0)]) (by decide +kernel) (Nat.le_of_ble_eq_true rfl) rfl ?_
  refine rz_aload_n dX7_choiceCount_0 rfl (show _ = some (some (vo x0)) from rfl) ?_
  replace hF := rdI_e hF
  obtain ⟨fs, f1, hg, hv, hF⟩ := hF
  refine rz_getf dX7_choiceCount_1 fl_X7_32 hg hv ?_
  exact rz_iret dX7_choiceCount_4 trivial hF
theorem vX2_drawNumber {G : az_G} {d : Nat} {x0 : Nat} {h : az_H} {Q : Option az_V → az_H → Prop} (hF : rdI h x0 2 3 (fun f1 => wrF h x0 2 3 (.int) (vi (w32 ((w32 (f1 * 1103515245)) + 12345))) (fun h2 => rdI h2 x0 2 3 (fun f3 => Q (some (vi (bUshr f3 16))) h2)))) : cz G mX2_drawNumber d 0 0 [vo x0] h Q := by
  refine cz_of (ls := [some (vo x0)]) (by decide +kernel) (Nat.le_of_ble_eq_true rfl) rfl ?_
  refine rz_aload_n dX2_drawNumber_0 rfl (show _ = some (some (vo x0)) from rfl) ?_
  refine rz_aload_n dX2_drawNumber_1 rfl (show _ = some (some (vo x0)) from rfl) ?_
  replace hF := rdI_e hF
  obtain ⟨fs, f1, hg, hv, hF⟩ := hF
  refine rz_getf dX2_drawNumber_2 fl_X2_44 hg hv ?_
  refine rz_ldc (v := 1103515245) dX2_drawNumber_5 k_953 (by decide) ?_
  refine rz_imul dX2_drawNumber_7 ?_
  refine rz_sipush (v := 12345) dX2_drawNumber_8 (by decide) (by decide) ?_
  refine rz_iadd dX2_drawNumber_11 ?_
  replace hF := wrF_e hF
  obtain ⟨fs, hg, hv, hF⟩ := hF
  refine rz_putf dX2_drawNumber_12 fl_X2_44 (Or.inl rfl) hg hv ?_
  refine rz_aload_n dX2_drawNumber_15 rfl (show _ = some (some (vo x0)) from rfl) ?_
  replace hF := rdI_e hF
  obtain ⟨fs, f3, hg, hv, hF⟩ := hF
  refine rz_getf dX2_drawNumber_16 fl_X2_44 hg hv ?_
  refine rz_bipush (v := 16) dX2_drawNumber_19 (by decide) (by decide) ?_
  refine rz_iushr dX2_drawNumber_21 ?_
  exact rz_iret dX2_drawNumber_22 trivial hF
theorem vX6_copy {G : az_G} {d : Nat} {x0 : Nat} {x1 : Int} {x2 : Option Nat} {h : az_H} {Q : Option az_V → az_H → Prop} (hF : rcv h x0 6 (cz G mX6_has d 0 0 [vo x0, vi x1] h (fun v h1 => atI v (fun r2 => (if r2 = 0 then Q (some (vi 0)) h1 else nnR x2 (fun a3 => aln h1 a3 (fun n4 => rdO h1 x0 6 2 (fun o5 => ldI h1 o5 (.int) x1 (fun e6 => (if e6 ≤ n4 then rdO h1 x0 6 1 (fun o7 => rdO h1 x0 6 2 (fun o8 => ldI h1 o8 (.int) x1 (fun e9 => acp h1 o7 a3 (w32 (x1 * 12)) 0 e9 (fun h10 => rdO h10 x0 6 2 (fun o11 => ldI h10 o11 (.int) x1 (fun e12 => Q (some (vi e12)) h10)))))) else Q (some (vi 0)) h1)))))))))) : cz G mX6_copy (d + 1) 0 0 [vo x0, vi x1, vr x2] h Q := by
  refine cz_of (ls := [some (vo x0), some (vi x1), some (vr x2)]) (by decide +kernel) (Nat.le_of_ble_eq_true rfl) rfl ?_
  refine rz_aload_n dX6_copy_0 rfl (show _ = some (some (vo x0)) from rfl) ?_
  refine rz_iload_n dX6_copy_1 rfl (show _ = some (some (vi x1)) from rfl) ?_
  replace hF := rcv_e hF
  obtain ⟨fs, hg, hF⟩ := hF
  refine rz_callV (mc' := 0) (ms' := 0) (mc := 0) (ms := 0) (st := []) dX6_copy_2 cV_X6_44 rfl hg ⟨_, _, rfl⟩ rfl (Nat.le_of_ble_eq_true rfl) hF (fun v h1 hG => ?_)
  clear hF
  revert hG
  intro hF
  replace hF := atI_e hF
  obtain ⟨r2, rfl, hF⟩ := hF
  refine rz_if_eq (tgt := 19) dX6_copy_5 (by decide) (fun c => ?_) (fun c => ?_)
  · replace hF := ite_t hF c
    refine rz_iconst dX6_copy_19 rfl (by decide) ?_
    exact rz_iret dX6_copy_20 trivial hF
  · replace hF := ite_f hF c
    refine rz_aload_n dX6_copy_8 rfl (show _ = some (some (vr x2)) from rfl) ?_
    replace hF := nnR_e hF
    obtain ⟨a3, ea3, hF⟩ := hF
    subst ea3
    replace hF := aln_e hF
    obtain ⟨n4, hg, hr, hF⟩ := hF
    refine rz_alen dX6_copy_9 hg hr ?_
    refine rz_aload_n dX6_copy_10 rfl (show _ = some (some (vo x0)) from rfl) ?_
    replace hF := rdO_e hF
    obtain ⟨fs, o5, hg, hv, hF⟩ := hF
    refine rz_getf dX6_copy_11 fl_X6_25 hg hv ?_
    refine rz_iload_n dX6_copy_14 rfl (show _ = some (some (vi x1)) from rfl) ?_
    replace hF := ldI_e hF
    obtain ⟨xs, hg, h0, h1, hF⟩ := hF
    refine rz_iald dX6_copy_15 hg h0 h1 ?_
    generalize xs.getD _ 0 = e6 at hF ⊢
    refine rz_icmp_ge (tgt := 21) dX6_copy_16 (by decide) (fun c => ?_) (fun c => ?_)
    · replace hF := ite_t hF c
      refine rz_aload_n dX6_copy_21 rfl (show _ = some (some (vo x0)) from rfl) ?_
      replace hF := rdO_e hF
      obtain ⟨fs, o7, hg, hv, hF⟩ := hF
      refine rz_getf dX6_copy_22 fl_X6_21 hg hv ?_
      refine rz_iload_n dX6_copy_25 rfl (show _ = some (some (vi x1)) from rfl) ?_
      refine rz_bipush (v := 12) dX6_copy_26 (by decide) (by decide) ?_
      refine rz_imul dX6_copy_28 ?_
      refine rz_aload_n dX6_copy_29 rfl (show _ = some (some (vo a3)) from rfl) ?_
      refine rz_iconst dX6_copy_30 rfl (by decide) ?_
      refine rz_aload_n dX6_copy_31 rfl (show _ = some (some (vo x0)) from rfl) ?_
      replace hF := rdO_e hF
      obtain ⟨fs, o8, hg, hv, hF⟩ := hF
      refine rz_getf dX6_copy_32 fl_X6_25 hg hv ?_
      refine rz_iload_n dX6_copy_35 rfl (show _ = some (some (vi x1)) from rfl) ?_
      replace hF := ldI_e hF
      obtain ⟨xs, hg, h0, h1, hF⟩ := hF
      refine rz_iald dX6_copy_36 hg h0 h1 ?_
      generalize xs.getD _ 0 = e9 at hF ⊢
      replace hF := acp_e hF
      obtain ⟨xs, ys, hg0, hg1, g0, g1, g2, g3, g4, hF⟩ := hF
      refine rz_acpy dX6_copy_37 k_927 k_652 k_651 k_92 hg0 hg1 g0 g1 g2 g3 g4 (Nat.le_of_ble_eq_true rfl) ?_
      refine rz_aload_n dX6_copy_40 rfl (show _ = some (some (vo x0)) from rfl) ?_
      replace hF := rdO_e hF
      obtain ⟨fs, o11, hg, hv, hF⟩ := hF
      refine rz_getf dX6_copy_41 fl_X6_25 hg hv ?_
      refine rz_iload_n dX6_copy_44 rfl (show _ = some (some (vi x1)) from rfl) ?_
      replace hF := ldI_e hF
      obtain ⟨xs, hg, h0, h1, hF⟩ := hF
      refine rz_iald dX6_copy_45 hg h0 h1 ?_
      generalize xs.getD _ 0 = e12 at hF ⊢
      exact rz_iret dX6_copy_46 trivial hF
    · replace hF := ite_f hF c
      refine rz_iconst dX6_copy_19 rfl (by decide) ?_
      exact rz_iret dX6_copy_20 trivial hF
def pX2_drawInto_61 (G : az_G) (d : Nat) (x0 : Nat) (x1 : Option Nat) (x2 : Int) (x3 : Int) (h : az_H) (Q : Option az_V → az_H → Prop) : Prop := ez G mX2_drawInto (d + 1) 0 0 61 [some (vo x0), some (vr x1), some (vi x2), some (vi x3), none, none, none] [] h Q
def pX2_drawInto_87 (G : az_G) (d : Nat) (x0 : Nat) (x1 : Option Nat) (x2 : Int) (x5 : Int) (x6 : Int) (h : az_H) (Q : Option az_V → az_H → Prop) : Prop := ez G mX2_drawInto (d + 1) 0 0 87 [some (vo x0), some (vr x1), some (vi x2), none, none, some (vi x5), some (vi x6)] [] h Q
theorem vX2_drawInto_87 {G : az_G} {d : Nat} {x0 : Nat} {x1 : Option Nat} {x2 : Int} {x5 : Int} {x6 : Int} {h : az_H} {Q : Option az_V → az_H → Prop} (hF : (if x5 ≤ x6 then Q (some (vi x5)) h else rcv h x0 2 (cz G mX2_drawNumber d 0 0 [vo x0] h (fun v h1 => atI v (fun r2 => (x2 ≠ 0 ∧ nnR x1 (fun a3 => stI h1 a3 .int x6 (bRem r2 x2) (fun h4 => pX2_drawInto_87 G d x0 (some a3) x2 x5 (w32 (x6 + 1)) h4 Q)))))))) : pX2_drawInto_87 G d x0 x1 x2 x5 x6 h Q := by
  unfold pX2_drawInto_87
  refine rz_iload dX2_drawInto_87 (show _ = some (some (vi x6)) from rfl) ?_
  refine rz_iload dX2_drawInto_89 (show _ = some (some (vi x5)) from rfl) ?_
  refine rz_icmp_ge (tgt := 110) dX2_drawInto_91 (by decide) (fun c => ?_) (fun c => ?_)
  · replace hF := ite_t hF c
    refine rz_iload dX2_drawInto_110 (show _ = some (some (vi x5)) from rfl) ?_
    exact rz_iret dX2_drawInto_112 trivial hF
  · replace hF := ite_f hF c
    refine rz_aload_n dX2_drawInto_94 rfl (show _ = some (some (vr x1)) from rfl) ?_
    refine rz_iload dX2_drawInto_95 (show _ = some (some (vi x6)) from rfl) ?_
    refine rz_aload_n dX2_drawInto_97 rfl (show _ = some (some (vo x0)) from rfl) ?_
    replace hF := rcv_e hF
    obtain ⟨fs, hg, hF⟩ := hF
    refine rz_callV (mc' := 0) (ms' := 0) (mc := 0) (ms := 0) (st := [vi x6, vr x1]) dX2_drawInto_98 cV_X2_75 rfl hg ⟨_, _, rfl⟩ rfl (Nat.le_of_ble_eq_true rfl) hF (fun v h1 hG => ?_)
    clear hF
    revert hG
    intro hF
    replace hF := atI_e hF
    obtain ⟨r2, rfl, hF⟩ := hF
    refine rz_iload_n dX2_drawInto_101 rfl (show _ = some (some (vi x2)) from rfl) ?_
    obtain ⟨hne, hF⟩ := hF
    refine rz_irem dX2_drawInto_102 hne ?_
    replace hF := nnR_e hF
    obtain ⟨a3, ea3, hF⟩ := hF
    subst ea3
    replace hF := stI_e hF
    obtain ⟨xs, hg, h0, h1, hF⟩ := hF
    refine rz_iast dX2_drawInto_103 hg h0 h1 ?_
    refine rz_iinc (ls' := [some (vo x0), some (vo a3), some (vi x2), none, none, some (vi x5), some (vi (w32 (x6 + 1)))]) dX2_drawInto_104 rfl (Nat.le_of_ble_eq_true rfl) rfl ?_
    refine rz_goto (tgt := 87) dX2_drawInto_107 (by decide) ?_
    exact hF
theorem vX2_drawInto_61 {G : az_G} {d : Nat} {x0 : Nat} {x1 : Option Nat} {x2 : Int} {x3 : Int} {h : az_H} {Q : Option az_V → az_H → Prop} (hF : rcv h x0 2 (cz G mX2_drawNumber d 0 0 [vo x0] h (fun v h1 => atI v (fun r2 => nnR x1 (fun a3 => aln h1 a3 (fun n4 => cz G mJ9_min_7cf53 d 0 0 [vi n4, vi 12] h1 (fun v h5 => atI v (fun r6 => cz G mJ9_min_7cf53 d 0 0 [vi (w32 ((w32 (x3 + 1)) + (bRem r2 6))), vi r6] h5 (fun v h7 => atI v (fun r8 => pX2_drawInto_87 G d x0 (some a3) x2 r8 x3 h7 Q)))))))))) : pX2_drawInto_61 G d x0 x1 x2 x3 h Q := by
  unfold pX2_drawInto_61
  refine rz_iload_n dX2_drawInto_61 rfl (show _ = some (some (vi x3)) from rfl) ?_
  refine rz_iconst dX2_drawInto_62 rfl (by decide) ?_
  refine rz_iadd dX2_drawInto_63 ?_
  refine rz_aload_n dX2_drawInto_64 rfl (show _ = some (some (vo x0)) from rfl) ?_
  replace hF := rcv_e hF
  obtain ⟨fs, hg, hF⟩ := hF
  refine rz_callV (mc' := 0) (ms' := 0) (mc := 0) (ms := 0) (st := [vi (w32 (x3 + 1))]) dX2_drawInto_65 cV_X2_75 rfl hg ⟨_, _, rfl⟩ rfl (Nat.le_of_ble_eq_true rfl) hF (fun v h1 hG => ?_)
  clear hF
  revert hG
  intro hF
  replace hF := atI_e hF
  obtain ⟨r2, rfl, hF⟩ := hF
  refine rz_bipush (v := 6) dX2_drawInto_68 (by decide) (by decide) ?_
  refine rz_irem dX2_drawInto_70 (by decide) ?_
  refine rz_iadd dX2_drawInto_71 ?_
  refine rz_aload_n dX2_drawInto_72 rfl (show _ = some (some (vr x1)) from rfl) ?_
  replace hF := nnR_e hF
  obtain ⟨a3, ea3, hF⟩ := hF
  subst ea3
  replace hF := aln_e hF
  obtain ⟨n4, hg, hr, hF⟩ := hF
  refine rz_alen dX2_drawInto_73 hg hr ?_
  refine rz_bipush (v := 12) dX2_drawInto_74 (by decide) (by decide) ?_
  refine rz_callS (mc' := 0) (ms' := 0) (mc := 0) (ms := 0) (st := [vi (w32 ((w32 (x3 + 1)) + (bRem r2 6)))]) dX2_drawInto_76 cS_X2_82 rfl rfl (Nat.le_of_ble_eq_true rfl) hF (fun v h5 hG => ?_)
  clear hF
  revert hG
  intro hF
  replace hF := atI_e hF
  obtain ⟨r6, rfl, hF⟩ := hF
  refine rz_callS (mc' := 0) (ms' := 0) (mc := 0) (ms := 0) (st := []) dX2_drawInto_79 cS_X2_82 rfl rfl (Nat.le_of_ble_eq_true rfl) hF (fun v h7 hG => ?_)
  clear hF
  revert hG
  intro hF
  replace hF := atI_e hF
  obtain ⟨r8, rfl, hF⟩ := hF
  refine rz_istore (ls' := [some (vo x0), some (vo a3), some (vi x2), some (vi x3), none, some (vi r8), none]) dX2_drawInto_82 (Nat.le_of_ble_eq_true rfl) rfl ?_
  refine rz_iload_n dX2_drawInto_84 rfl (show _ = some (some (vi x3)) from rfl) ?_
  refine rz_istore (ls' := [some (vo x0), some (vo a3), some (vi x2), some (vi x3), none, some (vi r8), some (vi x3)]) dX2_drawInto_85 (Nat.le_of_ble_eq_true rfl) rfl ?_
  refine ez_kp [true, true, true, false, false, true, true] rfl ?_
  exact hF
theorem vX2_drawInto {G : az_G} {d : Nat} {x0 : Nat} {x1 : Option Nat} {h : az_H} {Q : Option az_V → az_H → Prop} (hF : rdO h x0 2 0 (fun o1 => rcv h o1 7 (cz G mX7_choiceCount d 0 0 [vo o1] h (fun v h2 => atI v (fun r3 => (if 0 < r3 then rcv h2 x0 2 (cz G mX2_drawNumber d 0 0 [vo x0] h2 (fun v h4 => atI v (fun r5 => rdO h4 x0 2 2 (fun o6 => rcv h4 o6 6 (cz G mX6_size d 0 0 [vo o6] h4 (fun v h7 => atI v (fun r8 => (if r8 ≤ 0 then pX2_drawInto_61 G d x0 x1 r3 0 h7 Q else (if bRem r5 2 = 1 then rdO h7 x0 2 2 (fun o9 => rdO h7 x0 2 2 (fun o10 => rcv h7 o10 6 (cz G mX6_size d 0 0 [vo o10] h7 (fun v h11 => atI v (fun r12 => (r12 ≠ 0 ∧ rcv h11 o9 6 (cz G mX6_copy d 0 0 [vo o9, vi (bRem (bDiv r5 2) r12), vr x1] h11 (fun v h13 => atI v (fun r14 => pX2_drawInto_61 G d x0 x1 r3 r14 h13 Q))))))))) else pX2_drawInto_61 G d x0 x1 r3 0 h7 Q))))))))) else Q (some (vi 0)) h2)))))) : cz G mX2_drawInto (d + 1) 0 0 [vo x0, vr x1] h Q := by
  refine cz_of (ls := [some (vo x0), some (vr x1), none, none, none, none, none]) (by decide +kernel) (Nat.le_of_ble_eq_true rfl) rfl ?_
  refine rz_aload_n dX2_drawInto_0 rfl (show _ = some (some (vo x0)) from rfl) ?_
  replace hF := rdO_e hF
  obtain ⟨fs, o1, hg, hv, hF⟩ := hF
  refine rz_getf dX2_drawInto_1 fl_X2_20 hg hv ?_
  replace hF := rcv_e hF
  obtain ⟨fs, hg, hF⟩ := hF
  refine rz_callV (mc' := 0) (ms' := 0) (mc := 0) (ms := 0) (st := []) dX2_drawInto_4 cV_X2_72 rfl hg ⟨_, _, rfl⟩ rfl (Nat.le_of_ble_eq_true rfl) hF (fun v h2 hG => ?_)
  clear hF
  revert hG
  intro hF
  replace hF := atI_e hF
  obtain ⟨r3, rfl, hF⟩ := hF
  refine rz_istore_n (ls' := [some (vo x0), some (vr x1), some (vi r3), none, none, none, none]) dX2_drawInto_7 rfl (Nat.le_of_ble_eq_true rfl) rfl ?_
  refine rz_iload_n dX2_drawInto_8 rfl (show _ = some (some (vi r3)) from rfl) ?_
  refine rz_if_gt (tgt := 14) dX2_drawInto_9 (by decide) (fun c => ?_) (fun c => ?_)
  · replace hF := ite_t hF c
    refine rz_iconst dX2_drawInto_14 rfl (by decide) ?_
    refine rz_istore_n (ls' := [some (vo x0), some (vr x1), some (vi r3), some (vi 0), none, none, none]) dX2_drawInto_15 rfl (Nat.le_of_ble_eq_true rfl) rfl ?_
    refine rz_aload_n dX2_drawInto_16 rfl (show _ = some (some (vo x0)) from rfl) ?_
    replace hF := rcv_e hF
    obtain ⟨fs, hg, hF⟩ := hF
    refine rz_callV (mc' := 0) (ms' := 0) (mc := 0) (ms := 0) (st := []) dX2_drawInto_17 cV_X2_75 rfl hg ⟨_, _, rfl⟩ rfl (Nat.le_of_ble_eq_true rfl) hF (fun v h4 hG => ?_)
    clear hF
    revert hG
    intro hF
    replace hF := atI_e hF
    obtain ⟨r5, rfl, hF⟩ := hF
    refine rz_istore (ls' := [some (vo x0), some (vr x1), some (vi r3), some (vi 0), some (vi r5), none, none]) dX2_drawInto_20 (Nat.le_of_ble_eq_true rfl) rfl ?_
    refine rz_aload_n dX2_drawInto_22 rfl (show _ = some (some (vo x0)) from rfl) ?_
    replace hF := rdO_e hF
    obtain ⟨fs, o6, hg, hv, hF⟩ := hF
    refine rz_getf dX2_drawInto_23 fl_X2_14 hg hv ?_
    replace hF := rcv_e hF
    obtain ⟨fs, hg, hF⟩ := hF
    refine rz_callV (mc' := 0) (ms' := 0) (mc := 0) (ms := 0) (st := []) dX2_drawInto_26 cV_X2_28 rfl hg ⟨_, _, rfl⟩ rfl (Nat.le_of_ble_eq_true rfl) hF (fun v h7 hG => ?_)
    clear hF
    revert hG
    intro hF
    replace hF := atI_e hF
    obtain ⟨r8, rfl, hF⟩ := hF
    refine rz_if_le (tgt := 61) dX2_drawInto_29 (by decide) (fun c => ?_) (fun c => ?_)
    · replace hF := ite_t hF c
      refine ez_kp [true, true, true, true, false, false, false] rfl ?_
      exact hF
    · replace hF := ite_f hF c
      refine rz_iload dX2_drawInto_32 (show _ = some (some (vi r5)) from rfl) ?_
      refine rz_iconst dX2_drawInto_34 rfl (by decide) ?_
      refine rz_irem dX2_drawInto_35 (by decide) ?_
      refine rz_iconst dX2_drawInto_36 rfl (by decide) ?_
      refine rz_icmp_ne (tgt := 61) dX2_drawInto_37 (by decide) (fun c => ?_) (fun c => ?_)
      · replace hF := ite_f hF c
        refine ez_kp [true, true, true, true, false, false, false] rfl ?_
        exact hF
      · replace hF := ite_t hF c
        refine rz_aload_n dX2_drawInto_40 rfl (show _ = some (some (vo x0)) from rfl) ?_
        replace hF := rdO_e hF
        obtain ⟨fs, o9, hg, hv, hF⟩ := hF
        refine rz_getf dX2_drawInto_41 fl_X2_14 hg hv ?_
        refine rz_iload dX2_drawInto_44 (show _ = some (some (vi r5)) from rfl) ?_
        refine rz_iconst dX2_drawInto_46 rfl (by decide) ?_
        refine rz_idiv dX2_drawInto_47 (by decide) ?_
        refine rz_aload_n dX2_drawInto_48 rfl (show _ = some (some (vo x0)) from rfl) ?_
        replace hF := rdO_e hF
        obtain ⟨fs, o10, hg, hv, hF⟩ := hF
        refine rz_getf dX2_drawInto_49 fl_X2_14 hg hv ?_
        replace hF := rcv_e hF
        obtain ⟨fs, hg, hF⟩ := hF
        refine rz_callV (mc' := 0) (ms' := 0) (mc := 0) (ms := 0) (st := [vi (bDiv r5 2), vo o9]) dX2_drawInto_52 cV_X2_28 rfl hg ⟨_, _, rfl⟩ rfl (Nat.le_of_ble_eq_true rfl) hF (fun v h11 hG => ?_)
        clear hF
        revert hG
        intro hF
        replace hF := atI_e hF
        obtain ⟨r12, rfl, hF⟩ := hF
        obtain ⟨hne, hF⟩ := hF
        refine rz_irem dX2_drawInto_55 hne ?_
        refine rz_aload_n dX2_drawInto_56 rfl (show _ = some (some (vr x1)) from rfl) ?_
        replace hF := rcv_e hF
        obtain ⟨fs, hg, hF⟩ := hF
        refine rz_callV (mc' := 0) (ms' := 0) (mc := 0) (ms := 0) (st := []) dX2_drawInto_57 cV_X2_78 rfl hg ⟨_, _, rfl⟩ rfl (Nat.le_of_ble_eq_true rfl) hF (fun v h13 hG => ?_)
        clear hF
        revert hG
        intro hF
        replace hF := atI_e hF
        obtain ⟨r14, rfl, hF⟩ := hF
        refine rz_istore_n (ls' := [some (vo x0), some (vr x1), some (vi r3), some (vi r14), some (vi r5), none, none]) dX2_drawInto_60 rfl (Nat.le_of_ble_eq_true rfl) rfl ?_
        refine ez_kp [true, true, true, true, false, false, false] rfl ?_
        exact hF
  · replace hF := ite_f hF c
    refine rz_iconst dX2_drawInto_12 rfl (by decide) ?_
    exact rz_iret dX2_drawInto_13 trivial hF
theorem vX9_watch {G : az_G} {d : Nat} {x0 : Nat} {h : az_H} {Q : Option az_V → az_H → Prop} (hF : wrF h x0 9 4 (.boolean) (vi 1) (fun h1 => wrF h1 x0 9 5 (.boolean) (vi 0) (fun h2 => Q none h2))) : cz G mX9_watch d 0 0 [vo x0] h Q := by
  refine cz_of (ls := [some (vo x0)]) (by decide +kernel) (Nat.le_of_ble_eq_true rfl) rfl ?_
  refine rz_aload_n dX9_watch_0 rfl (show _ = some (some (vo x0)) from rfl) ?_
  refine rz_iconst dX9_watch_1 rfl (by decide) ?_
  replace hF := wrF_e hF
  obtain ⟨fs, hg, hv, hF⟩ := hF
  refine rz_putf dX9_watch_2 fl_X9_38 (Or.inl rfl) hg hv ?_
  refine rz_aload_n dX9_watch_5 rfl (show _ = some (some (vo x0)) from rfl) ?_
  refine rz_iconst dX9_watch_6 rfl (by decide) ?_
  replace hF := wrF_e hF
  obtain ⟨fs, hg, hv, hF⟩ := hF
  refine rz_putf dX9_watch_7 fl_X9_42 (Or.inl rfl) hg hv ?_
  exact rz_vret dX9_watch_10 trivial hF
theorem vX9_moneyAtStart {G : az_G} {d : Nat} {x0 : Nat} {x1 : Int} {h : az_H} {Q : Option az_V → az_H → Prop} (hF : (if x1 < 0 then Q (some (vi 0)) h else (if 4 ≤ x1 then Q (some (vi 0)) h else rdO h x0 9 2 (fun o1 => ldI h o1 (.int) x1 (fun e2 => Q (some (vi e2)) h))))) : cz G mX9_moneyAtStart d 0 0 [vo x0, vi x1] h Q := by
  refine cz_of (ls := [some (vo x0), some (vi x1)]) (by decide +kernel) (Nat.le_of_ble_eq_true rfl) rfl ?_
  refine rz_iload_n dX9_moneyAtStart_0 rfl (show _ = some (some (vi x1)) from rfl) ?_
  refine rz_if_lt (tgt := 18) dX9_moneyAtStart_1 (by decide) (fun c => ?_) (fun c => ?_)
  · replace hF := ite_t hF c
    refine rz_iconst dX9_moneyAtStart_18 rfl (by decide) ?_
    exact rz_iret dX9_moneyAtStart_19 trivial hF
  · replace hF := ite_f hF c
    refine rz_iload_n dX9_moneyAtStart_4 rfl (show _ = some (some (vi x1)) from rfl) ?_
    refine rz_iconst dX9_moneyAtStart_5 rfl (by decide) ?_
    refine rz_icmp_ge (tgt := 18) dX9_moneyAtStart_6 (by decide) (fun c => ?_) (fun c => ?_)
    · replace hF := ite_t hF c
      refine rz_iconst dX9_moneyAtStart_18 rfl (by decide) ?_
      exact rz_iret dX9_moneyAtStart_19 trivial hF
    · replace hF := ite_f hF c
      refine rz_aload_n dX9_moneyAtStart_9 rfl (show _ = some (some (vo x0)) from rfl) ?_
      replace hF := rdO_e hF
      obtain ⟨fs, o1, hg, hv, hF⟩ := hF
      refine rz_getf dX9_moneyAtStart_10 fl_X9_21 hg hv ?_
      refine rz_iload_n dX9_moneyAtStart_13 rfl (show _ = some (some (vi x1)) from rfl) ?_
      replace hF := ldI_e hF
      obtain ⟨xs, hg, h0, h1, hF⟩ := hF
      refine rz_iald dX9_moneyAtStart_14 hg h0 h1 ?_
      generalize xs.getD _ 0 = e2 at hF ⊢
      refine rz_goto (tgt := 19) dX9_moneyAtStart_15 (by decide) ?_
      exact rz_iret dX9_moneyAtStart_19 trivial hF
def pX4_toStart_10 (G : az_G) (d : Nat) (x0 : Nat) (x1 : Int) (h : az_H) (Q : Option az_V → az_H → Prop) : Prop := ez G mX4_toStart (d + 1) 0 0 10 [some (vo x0), some (vi x1)] [] h Q
theorem vX4_toStart_10 {G : az_G} {d : Nat} {x0 : Nat} {x1 : Int} {h : az_H} {Q : Option az_V → az_H → Prop} (hF : (if 4 ≤ x1 then Q none h else rdO h x0 4 2 (fun o1 => rdO h x0 4 0 (fun o2 => rcv h o2 9 (cz G mX9_moneyAtStart d 0 0 [vo o2, vi x1] h (fun v h3 => atI v (fun r4 => stI h3 o1 .int (w32 (14 + x1)) r4 (fun h5 => pX4_toStart_10 G d x0 (w32 (x1 + 1)) h5 Q)))))))) : pX4_toStart_10 G d x0 x1 h Q := by
  unfold pX4_toStart_10
  refine rz_iload_n dX4_toStart_10 rfl (show _ = some (some (vi x1)) from rfl) ?_
  refine rz_iconst dX4_toStart_11 rfl (by decide) ?_
  refine rz_icmp_ge (tgt := 38) dX4_toStart_12 (by decide) (fun c => ?_) (fun c => ?_)
  · replace hF := ite_t hF c
    exact rz_vret dX4_toStart_38 trivial hF
  · replace hF := ite_f hF c
    refine rz_aload_n dX4_toStart_15 rfl (show _ = some (some (vo x0)) from rfl) ?_
    replace hF := rdO_e hF
    obtain ⟨fs, o1, hg, hv, hF⟩ := hF
    refine rz_getf dX4_toStart_16 fl_X4_20 hg hv ?_
    refine rz_bipush (v := 14) dX4_toStart_19 (by decide) (by decide) ?_
    refine rz_iload_n dX4_toStart_21 rfl (show _ = some (some (vi x1)) from rfl) ?_
    refine rz_iadd dX4_toStart_22 ?_
    refine rz_aload_n dX4_toStart_23 rfl (show _ = some (some (vo x0)) from rfl) ?_
    replace hF := rdO_e hF
    obtain ⟨fs, o2, hg, hv, hF⟩ := hF
    refine rz_getf dX4_toStart_24 fl_X4_33 hg hv ?_
    refine rz_iload_n dX4_toStart_27 rfl (show _ = some (some (vi x1)) from rfl) ?_
    replace hF := rcv_e hF
    obtain ⟨fs, hg, hF⟩ := hF
    refine rz_callV (mc' := 0) (ms' := 0) (mc := 0) (ms := 0) (st := [vi (w32 (14 + x1)), vo o1]) dX4_toStart_28 cV_X4_43 rfl hg ⟨_, _, rfl⟩ rfl (Nat.le_of_ble_eq_true rfl) hF (fun v h3 hG => ?_)
    clear hF
    revert hG
    intro hF
    replace hF := atI_e hF
    obtain ⟨r4, rfl, hF⟩ := hF
    replace hF := stI_e hF
    obtain ⟨xs, hg, h0, h1, hF⟩ := hF
    refine rz_iast dX4_toStart_31 hg h0 h1 ?_
    refine rz_iinc (ls' := [some (vo x0), some (vi (w32 (x1 + 1)))]) dX4_toStart_32 rfl (Nat.le_of_ble_eq_true rfl) rfl ?_
    refine rz_goto (tgt := 10) dX4_toStart_35 (by decide) ?_
    exact hF
theorem vX4_toStart {G : az_G} {d : Nat} {x0 : Nat} {h : az_H} {Q : Option az_V → az_H → Prop} (hF : rdO h x0 4 2 (fun o1 => cz G mJ7_fill_53178 d 0 0 [vo o1, vi 0] h (fun v h2 => atV v (pX4_toStart_10 G d x0 0 h2 Q)))) : cz G mX4_toStart (d + 1) 0 0 [vo x0] h Q := by
  refine cz_of (ls := [some (vo x0), none]) (by decide +kernel) (Nat.le_of_ble_eq_true rfl) rfl ?_
  refine rz_aload_n dX4_toStart_0 rfl (show _ = some (some (vo x0)) from rfl) ?_
  replace hF := rdO_e hF
  obtain ⟨fs, o1, hg, hv, hF⟩ := hF
  refine rz_getf dX4_toStart_1 fl_X4_20 hg hv ?_
  refine rz_iconst dX4_toStart_4 rfl (by decide) ?_
  refine rz_callS (mc' := 0) (ms' := 0) (mc := 0) (ms := 0) (st := []) dX4_toStart_5 cS_X4_37 rfl rfl (Nat.le_of_ble_eq_true rfl) hF (fun v h2 hG => ?_)
  clear hF
  revert hG
  intro hF
  replace hF := atV_e hF
  obtain ⟨rfl, hF⟩ := hF
  refine rz_iconst dX4_toStart_8 rfl (by decide) ?_
  refine rz_istore_n (ls' := [some (vo x0), some (vi 0)]) dX4_toStart_9 rfl (Nat.le_of_ble_eq_true rfl) rfl ?_
  exact hF
theorem vX7_choiceAt {G : az_G} {d : Nat} {x0 : Nat} {x1 : Int} {h : az_H} {Q : Option az_V → az_H → Prop} (hF : (if x1 < 0 then Q (some (vn)) h else rdI h x0 7 4 (fun f1 => (if f1 ≤ x1 then Q (some (vn)) h else rdO h x0 7 2 (fun o2 => ldR h o2 (.object "InvariantSearch$Call") x1 (fun e3 => Q (some (vr e3)) h)))))) : cz G mX7_choiceAt d 0 0 [vo x0, vi x1] h Q := by
  refine cz_of (ls := [some (vo x0), some (vi x1)]) (by decide +kernel) (Nat.le_of_ble_eq_true rfl) rfl ?_
  refine rz_iload_n dX7_choiceAt_0 rfl (show _ = some (some (vi x1)) from rfl) ?_
  refine rz_if_lt (tgt := 21) dX7_choiceAt_1 (by decide) (fun c => ?_) (fun c => ?_)
  · replace hF := ite_t hF c
    refine rz_null dX7_choiceAt_21 ?_
    exact rz_aret dX7_choiceAt_22 trivial hF
  · replace hF := ite_f hF c
    refine rz_iload_n dX7_choiceAt_4 rfl (show _ = some (some (vi x1)) from rfl) ?_
    refine rz_aload_n dX7_choiceAt_5 rfl (show _ = some (some (vo x0)) from rfl) ?_
    replace hF := rdI_e hF
    obtain ⟨fs, f1, hg, hv, hF⟩ := hF
    refine rz_getf dX7_choiceAt_6 fl_X7_32 hg hv ?_
    refine rz_icmp_ge (tgt := 21) dX7_choiceAt_9 (by decide) (fun c => ?_) (fun c => ?_)
    · replace hF := ite_t hF c
      refine rz_null dX7_choiceAt_21 ?_
      exact rz_aret dX7_choiceAt_22 trivial hF
    · replace hF := ite_f hF c
      refine rz_aload_n dX7_choiceAt_12 rfl (show _ = some (some (vo x0)) from rfl) ?_
      replace hF := rdO_e hF
      obtain ⟨fs, o2, hg, hv, hF⟩ := hF
      refine rz_getf dX7_choiceAt_13 fl_X7_20 hg hv ?_
      refine rz_iload_n dX7_choiceAt_16 rfl (show _ = some (some (vi x1)) from rfl) ?_
      replace hF := ldR_e hF
      obtain ⟨xs, hg, h0, h1, hF⟩ := hF
      refine rz_aald dX7_choiceAt_17 hg (by decide) rfl h0 h1 ?_
      generalize xs.getD _ none = e3 at hF ⊢
      refine rz_goto (tgt := 22) dX7_choiceAt_18 (by decide) ?_
      exact rz_aret dX7_choiceAt_22 trivial hF
theorem vX9_codeOf {G : az_G} {d : Nat} {x0 : Nat} {x1 : Int} {h : az_H} {Q : Option az_V → az_H → Prop} (hF : (if x1 < 0 then Q (some (vn)) h else (if 6 ≤ x1 then Q (some (vn)) h else rdO h x0 9 0 (fun o1 => ldR h o1 (.object "InvariantSearch$Code") x1 (fun e2 => Q (some (vr e2)) h))))) : cz G mX9_codeOf d 0 0 [vo x0, vi x1] h Q := by
  refine cz_of (ls := [some (vo x0), some (vi x1)]) (by decide +kernel) (Nat.le_of_ble_eq_true rfl) rfl ?_
  refine rz_iload_n dX9_codeOf_0 rfl (show _ = some (some (vi x1)) from rfl) ?_
  refine rz_if_lt (tgt := 19) dX9_codeOf_1 (by decide) (fun c => ?_) (fun c => ?_)
  · replace hF := ite_t hF c
    refine rz_null dX9_codeOf_19 ?_
    exact rz_aret dX9_codeOf_20 trivial hF
  · replace hF := ite_f hF c
    refine rz_iload_n dX9_codeOf_4 rfl (show _ = some (some (vi x1)) from rfl) ?_
    refine rz_bipush (v := 6) dX9_codeOf_5 (by decide) (by decide) ?_
    refine rz_icmp_ge (tgt := 19) dX9_codeOf_7 (by decide) (fun c => ?_) (fun c => ?_)
    · replace hF := ite_t hF c
      refine rz_null dX9_codeOf_19 ?_
      exact rz_aret dX9_codeOf_20 trivial hF
    · replace hF := ite_f hF c
      refine rz_aload_n dX9_codeOf_10 rfl (show _ = some (some (vo x0)) from rfl) ?_
      replace hF := rdO_e hF
      obtain ⟨fs, o1, hg, hv, hF⟩ := hF
      refine rz_getf dX9_codeOf_11 fl_X9_11 hg hv ?_
      refine rz_iload_n dX9_codeOf_14 rfl (show _ = some (some (vi x1)) from rfl) ?_
      replace hF := ldR_e hF
      obtain ⟨xs, hg, h0, h1, hF⟩ := hF
      refine rz_aald dX9_codeOf_15 hg (by decide) rfl h0 h1 ?_
      generalize xs.getD _ none = e2 at hF ⊢
      refine rz_goto (tgt := 20) dX9_codeOf_16 (by decide) ?_
      exact rz_aret dX9_codeOf_20 trivial hF
theorem vX4_cell {G : az_G} {d : Nat} {x0 : Nat} {x1 : Int} {h : az_H} {Q : Option az_V → az_H → Prop} (hF : (if x1 < 0 then Q (some (vi 0)) h else (if 19 ≤ x1 then Q (some (vi 0)) h else rdO h x0 4 2 (fun o1 => ldI h o1 (.int) x1 (fun e2 => Q (some (vi e2)) h))))) : cz G mX4_cell d 0 0 [vo x0, vi x1] h Q := by
  refine cz_of (ls := [some (vo x0), some (vi x1)]) (by decide +kernel) (Nat.le_of_ble_eq_true rfl) rfl ?_
  refine rz_iload_n dX4_cell_0 rfl (show _ = some (some (vi x1)) from rfl) ?_
  refine rz_if_lt (tgt := 19) dX4_cell_1 (by decide) (fun c => ?_) (fun c => ?_)
  · replace hF := ite_t hF c
    refine rz_iconst dX4_cell_19 rfl (by decide) ?_
    exact rz_iret dX4_cell_20 trivial hF
  · replace hF := ite_f hF c
    refine rz_iload_n dX4_cell_4 rfl (show _ = some (some (vi x1)) from rfl) ?_
    refine rz_bipush (v := 19) dX4_cell_5 (by decide) (by decide) ?_
    refine rz_icmp_ge (tgt := 19) dX4_cell_7 (by decide) (fun c => ?_) (fun c => ?_)
    · replace hF := ite_t hF c
      refine rz_iconst dX4_cell_19 rfl (by decide) ?_
      exact rz_iret dX4_cell_20 trivial hF
    · replace hF := ite_f hF c
      refine rz_aload_n dX4_cell_10 rfl (show _ = some (some (vo x0)) from rfl) ?_
      replace hF := rdO_e hF
      obtain ⟨fs, o1, hg, hv, hF⟩ := hF
      refine rz_getf dX4_cell_11 fl_X4_20 hg hv ?_
      refine rz_iload_n dX4_cell_14 rfl (show _ = some (some (vi x1)) from rfl) ?_
      replace hF := ldI_e hF
      obtain ⟨xs, hg, h0, h1, hF⟩ := hF
      refine rz_iald dX4_cell_15 hg h0 h1 ?_
      generalize xs.getD _ 0 = e2 at hF ⊢
      refine rz_goto (tgt := 20) dX4_cell_16 (by decide) ?_
      exact rz_iret dX4_cell_20 trivial hF
theorem vX4_put {G : az_G} {d : Nat} {x0 : Nat} {x1 : Int} {x2 : Int} {h : az_H} {Q : Option az_V → az_H → Prop} (hF : (if x1 < 0 then Q none h else (if 19 ≤ x1 then Q none h else rdO h x0 4 2 (fun o1 => stI h o1 .int x1 x2 (fun h2 => Q none h2))))) : cz G mX4_put d 0 0 [vo x0, vi x1, vi x2] h Q := by
  refine cz_of (ls := [some (vo x0), some (vi x1), some (vi x2)]) (by decide +kernel) (Nat.le_of_ble_eq_true rfl) rfl ?_
  refine rz_iload_n dX4_put_0 rfl (show _ = some (some (vi x1)) from rfl) ?_
  refine rz_if_lt (tgt := 17) dX4_put_1 (by decide) (fun c => ?_) (fun c => ?_)
  · replace hF := ite_t hF c
    exact rz_vret dX4_put_17 trivial hF
  · replace hF := ite_f hF c
    refine rz_iload_n dX4_put_4 rfl (show _ = some (some (vi x1)) from rfl) ?_
    refine rz_bipush (v := 19) dX4_put_5 (by decide) (by decide) ?_
    refine rz_icmp_ge (tgt := 17) dX4_put_7 (by decide) (fun c => ?_) (fun c => ?_)
    · replace hF := ite_t hF c
      exact rz_vret dX4_put_17 trivial hF
    · replace hF := ite_f hF c
      refine rz_aload_n dX4_put_10 rfl (show _ = some (some (vo x0)) from rfl) ?_
      replace hF := rdO_e hF
      obtain ⟨fs, o1, hg, hv, hF⟩ := hF
      refine rz_getf dX4_put_11 fl_X4_20 hg hv ?_
      refine rz_iload_n dX4_put_14 rfl (show _ = some (some (vi x1)) from rfl) ?_
      refine rz_iload_n dX4_put_15 rfl (show _ = some (some (vi x2)) from rfl) ?_
      replace hF := stI_e hF
      obtain ⟨xs, hg, h0, h1, hF⟩ := hF
      refine rz_iast dX4_put_16 hg h0 h1 ?_
      exact rz_vret dX4_put_17 trivial hF
theorem vX4_isZeroOnTop {G : az_G} {d : Nat} {x0 : Nat} {h : az_H} {Q : Option az_V → az_H → Prop} (hF : rdI h x0 4 5 (fun f1 => (if f1 < 1 then Q (some (vi 1)) h else rdI h x0 4 5 (fun f2 => (if 32 < f2 then Q (some (vi 1)) h else rdO h x0 4 4 (fun o3 => rdI h x0 4 5 (fun f4 => ldI h o3 (.long) (w32 (f4 - 1)) (fun e5 => (if e5 = 0 then Q (some (vi 1)) h else Q (some (vi 0)) h))))))))) : cz G mX4_isZeroOnTop d 0 0 [vo x0] h Q := by
  refine cz_of (ls := [some (vo x0)]) (by decide +kernel) (Nat.le_of_ble_eq_true rfl) rfl ?_
  refine rz_aload_n dX4_isZeroOnTop_0 rfl (show _ = some (some (vo x0)) from rfl) ?_
  replace hF := rdI_e hF
  obtain ⟨fs, f1, hg, hv, hF⟩ := hF
  refine rz_getf dX4_isZeroOnTop_1 fl_X4_88 hg hv ?_
  refine rz_iconst dX4_isZeroOnTop_4 rfl (by decide) ?_
  refine rz_icmp_lt (tgt := 33) dX4_isZeroOnTop_5 (by decide) (fun c => ?_) (fun c => ?_)
  · replace hF := ite_t hF c
    refine rz_iconst dX4_isZeroOnTop_33 rfl (by decide) ?_
    refine rz_goto (tgt := 38) dX4_isZeroOnTop_34 (by decide) ?_
    exact rz_iret dX4_isZeroOnTop_38 (Or.inr rfl) hF
  · replace hF := ite_f hF c
    refine rz_aload_n dX4_isZeroOnTop_8 rfl (show _ = some (some (vo x0)) from rfl) ?_
    replace hF := rdI_e hF
    obtain ⟨fs, f2, hg, hv, hF⟩ := hF
    refine rz_getf dX4_isZeroOnTop_9 fl_X4_88 hg hv ?_
    refine rz_bipush (v := 32) dX4_isZeroOnTop_12 (by decide) (by decide) ?_
    refine rz_icmp_gt (tgt := 33) dX4_isZeroOnTop_14 (by decide) (fun c => ?_) (fun c => ?_)
    · replace hF := ite_t hF c
      refine rz_iconst dX4_isZeroOnTop_33 rfl (by decide) ?_
      refine rz_goto (tgt := 38) dX4_isZeroOnTop_34 (by decide) ?_
      exact rz_iret dX4_isZeroOnTop_38 (Or.inr rfl) hF
    · replace hF := ite_f hF c
      refine rz_aload_n dX4_isZeroOnTop_17 rfl (show _ = some (some (vo x0)) from rfl) ?_
      replace hF := rdO_e hF
      obtain ⟨fs, o3, hg, hv, hF⟩ := hF
      refine rz_getf dX4_isZeroOnTop_18 fl_X4_29 hg hv ?_
      refine rz_aload_n dX4_isZeroOnTop_21 rfl (show _ = some (some (vo x0)) from rfl) ?_
      replace hF := rdI_e hF
      obtain ⟨fs, f4, hg, hv, hF⟩ := hF
      refine rz_getf dX4_isZeroOnTop_22 fl_X4_88 hg hv ?_
      refine rz_iconst dX4_isZeroOnTop_25 rfl (by decide) ?_
      refine rz_isub dX4_isZeroOnTop_26 ?_
      replace hF := ldI_e hF
      obtain ⟨xs, hg, h0, h1, hF⟩ := hF
      refine rz_lald dX4_isZeroOnTop_27 hg h0 h1 ?_
      generalize xs.getD _ 0 = e5 at hF ⊢
      refine rz_lconst (v := 0) dX4_isZeroOnTop_28 (by decide) (by decide) ?_
      refine rz_lcmp dX4_isZeroOnTop_29 ?_
      refine rz_if_ne (tgt := 37) dX4_isZeroOnTop_30 (by decide) (fun c => ?_) (fun c => ?_)
      · replace hF := ite_f hF (fun q => c (lC_eq.mpr q))
        refine rz_iconst dX4_isZeroOnTop_37 rfl (by decide) ?_
        exact rz_iret dX4_isZeroOnTop_38 (Or.inl rfl) hF
      · replace hF := ite_t hF (lC_eq.mp c)
        refine rz_iconst dX4_isZeroOnTop_33 rfl (by decide) ?_
        refine rz_goto (tgt := 38) dX4_isZeroOnTop_34 (by decide) ?_
        exact rz_iret dX4_isZeroOnTop_38 (Or.inr rfl) hF
theorem vX9_hasMet {G : az_G} {d : Nat} {x0 : Nat} {x1 : Int} {x2 : Int} {h : az_H} {Q : Option az_V → az_H → Prop} (hF : (if x1 < 0 then Q (some (vi 0)) h else (if 6 ≤ x1 then Q (some (vi 0)) h else rdO h x0 9 1 (fun o1 => ldI h o1 (.int) x1 (fun e2 => (if bAnd (bShr e2 x2) 1 = 1 then Q (some (vi 1)) h else Q (some (vi 0)) h)))))) : cz G mX9_hasMet d 0 0 [vo x0, vi x1, vi x2] h Q := by
  refine cz_of (ls := [some (vo x0), some (vi x1), some (vi x2)]) (by decide +kernel) (Nat.le_of_ble_eq_true rfl) rfl ?_
  refine rz_iload_n dX9_hasMet_0 rfl (show _ = some (some (vi x1)) from rfl) ?_
  refine rz_if_lt (tgt := 28) dX9_hasMet_1 (by decide) (fun c => ?_) (fun c => ?_)
  · replace hF := ite_t hF c
    refine rz_iconst dX9_hasMet_28 rfl (by decide) ?_
    exact rz_iret dX9_hasMet_29 (Or.inl rfl) hF
  · replace hF := ite_f hF c
    refine rz_iload_n dX9_hasMet_4 rfl (show _ = some (some (vi x1)) from rfl) ?_
    refine rz_bipush (v := 6) dX9_hasMet_5 (by decide) (by decide) ?_
    refine rz_icmp_ge (tgt := 28) dX9_hasMet_7 (by decide) (fun c => ?_) (fun c => ?_)
    · replace hF := ite_t hF c
      refine rz_iconst dX9_hasMet_28 rfl (by decide) ?_
      exact rz_iret dX9_hasMet_29 (Or.inl rfl) hF
    · replace hF := ite_f hF c
      refine rz_aload_n dX9_hasMet_10 rfl (show _ = some (some (vo x0)) from rfl) ?_
      replace hF := rdO_e hF
      obtain ⟨fs, o1, hg, hv, hF⟩ := hF
      refine rz_getf dX9_hasMet_11 fl_X9_17 hg hv ?_
      refine rz_iload_n dX9_hasMet_14 rfl (show _ = some (some (vi x1)) from rfl) ?_
      replace hF := ldI_e hF
      obtain ⟨xs, hg, h0, h1, hF⟩ := hF
      refine rz_iald dX9_hasMet_15 hg h0 h1 ?_
      generalize xs.getD _ 0 = e2 at hF ⊢
      refine rz_iload_n dX9_hasMet_16 rfl (show _ = some (some (vi x2)) from rfl) ?_
      refine rz_ishr dX9_hasMet_17 ?_
      refine rz_iconst dX9_hasMet_18 rfl (by decide) ?_
      refine rz_iand dX9_hasMet_19 ?_
      refine rz_iconst dX9_hasMet_20 rfl (by decide) ?_
      refine rz_icmp_ne (tgt := 28) dX9_hasMet_21 (by decide) (fun c => ?_) (fun c => ?_)
      · replace hF := ite_f hF c
        refine rz_iconst dX9_hasMet_28 rfl (by decide) ?_
        exact rz_iret dX9_hasMet_29 (Or.inl rfl) hF
      · replace hF := ite_t hF c
        refine rz_iconst dX9_hasMet_24 rfl (by decide) ?_
        refine rz_goto (tgt := 29) dX9_hasMet_25 (by decide) ?_
        exact rz_iret dX9_hasMet_29 (Or.inr rfl) hF
theorem vX9_meet {G : az_G} {d : Nat} {x0 : Nat} {x1 : Int} {x2 : Int} {h : az_H} {Q : Option az_V → az_H → Prop} (hF : rdI h x0 9 4 (fun f1 => (if f1 = 0 then Q none h else (if x1 < 0 then Q none h else (if 6 ≤ x1 then Q none h else rcv h x0 9 (cz G mX9_hasMet d 0 0 [vo x0, vi x1, vi x2] h (fun v h2 => atI v (fun r3 => (if r3 = 0 then rdO h2 x0 9 1 (fun o4 => ldI h2 o4 (.int) x1 (fun e5 => stI h2 o4 .int x1 (bOr e5 (bShl 1 x2)) (fun h6 => wrF h6 x0 9 5 (.boolean) (vi 1) (fun h7 => Q none h7)))) else Q none h2))))))))) : cz G mX9_meet (d + 1) 0 0 [vo x0, vi x1, vi x2] h Q := by
  refine cz_of (ls := [some (vo x0), some (vi x1), some (vi x2)]) (by decide +kernel) (Nat.le_of_ble_eq_true rfl) rfl ?_
  refine rz_aload_n dX9_meet_0 rfl (show _ = some (some (vo x0)) from rfl) ?_
  replace hF := rdI_e hF
  obtain ⟨fs, f1, hg, hv, hF⟩ := hF
  refine rz_getf dX9_meet_1 fl_X9_38 hg hv ?_
  refine rz_if_eq (tgt := 43) dX9_meet_4 (by decide) (fun c => ?_) (fun c => ?_)
  · replace hF := ite_t hF c
    exact rz_vret dX9_meet_43 trivial hF
  · replace hF := ite_f hF c
    refine rz_iload_n dX9_meet_7 rfl (show _ = some (some (vi x1)) from rfl) ?_
    refine rz_if_lt (tgt := 43) dX9_meet_8 (by decide) (fun c => ?_) (fun c => ?_)
    · replace hF := ite_t hF c
      exact rz_vret dX9_meet_43 trivial hF
    · replace hF := ite_f hF c
      refine rz_iload_n dX9_meet_11 rfl (show _ = some (some (vi x1)) from rfl) ?_
      refine rz_bipush (v := 6) dX9_meet_12 (by decide) (by decide) ?_
      refine rz_icmp_ge (tgt := 43) dX9_meet_14 (by decide) (fun c => ?_) (fun c => ?_)
      · replace hF := ite_t hF c
        exact rz_vret dX9_meet_43 trivial hF
      · replace hF := ite_f hF c
        refine rz_aload_n dX9_meet_17 rfl (show _ = some (some (vo x0)) from rfl) ?_
        refine rz_iload_n dX9_meet_18 rfl (show _ = some (some (vi x1)) from rfl) ?_
        refine rz_iload_n dX9_meet_19 rfl (show _ = some (some (vi x2)) from rfl) ?_
        replace hF := rcv_e hF
        obtain ⟨fs, hg, hF⟩ := hF
        refine rz_callV (mc' := 0) (ms' := 0) (mc := 0) (ms := 0) (st := []) dX9_meet_20 cV_X9_45 rfl hg ⟨_, _, rfl⟩ rfl (Nat.le_of_ble_eq_true rfl) hF (fun v h2 hG => ?_)
        clear hF
        revert hG
        intro hF
        replace hF := atI_e hF
        obtain ⟨r3, rfl, hF⟩ := hF
        refine rz_if_ne (tgt := 43) dX9_meet_23 (by decide) (fun c => ?_) (fun c => ?_)
        · replace hF := ite_f hF c
          exact rz_vret dX9_meet_43 trivial hF
        · replace hF := ite_t hF c
          refine rz_aload_n dX9_meet_26 rfl (show _ = some (some (vo x0)) from rfl) ?_
          replace hF := rdO_e hF
          obtain ⟨fs, o4, hg, hv, hF⟩ := hF
          refine rz_getf dX9_meet_27 fl_X9_17 hg hv ?_
          refine rz_iload_n dX9_meet_30 rfl (show _ = some (some (vi x1)) from rfl) ?_
          refine rz_dup2_11 dX9_meet_31 (by rintro ⟨_, q⟩; cases q) (by rintro ⟨_, q⟩; cases q) ?_
          replace hF := ldI_e hF
          obtain ⟨xs, hg, h0, h1, hF⟩ := hF
          refine rz_iald dX9_meet_32 hg h0 h1 ?_
          generalize xs.getD _ 0 = e5 at hF ⊢
          refine rz_iconst dX9_meet_33 rfl (by decide) ?_
          refine rz_iload_n dX9_meet_34 rfl (show _ = some (some (vi x2)) from rfl) ?_
          refine rz_ishl dX9_meet_35 ?_
          refine rz_ior dX9_meet_36 ?_
          replace hF := stI_e hF
          obtain ⟨xs, hg, h0, h1, hF⟩ := hF
          refine rz_iast dX9_meet_37 hg h0 h1 ?_
          refine rz_aload_n dX9_meet_38 rfl (show _ = some (some (vo x0)) from rfl) ?_
          refine rz_iconst dX9_meet_39 rfl (by decide) ?_
          replace hF := wrF_e hF
          obtain ⟨fs, hg, hv, hF⟩ := hF
          refine rz_putf dX9_meet_40 fl_X9_42 (Or.inl rfl) hg hv ?_
          exact rz_vret dX9_meet_43 trivial hF
theorem vX4_pop {G : az_G} {d : Nat} {x0 : Nat} {h : az_H} {Q : Option az_V → az_H → Prop} (hF : rdI h x0 4 5 (fun f1 => (if f1 < 1 then Q (some (vl 0)) h else rdI h x0 4 5 (fun f2 => (if f2 ≤ 32 then rdI h x0 4 5 (fun f3 => wrF h x0 4 5 (.int) (vi (w32 (f3 - 1))) (fun h4 => rdO h4 x0 4 4 (fun o5 => rdI h4 x0 4 5 (fun f6 => ldI h4 o5 (.long) f6 (fun e7 => Q (some (vl e7)) h4))))) else Q (some (vl 0)) h))))) : cz G mX4_pop d 0 0 [vo x0] h Q := by
  refine cz_of (ls := [some (vo x0)]) (by decide +kernel) (Nat.le_of_ble_eq_true rfl) rfl ?_
  refine rz_aload_n dX4_pop_0 rfl (show _ = some (some (vo x0)) from rfl) ?_
  replace hF := rdI_e hF
  obtain ⟨fs, f1, hg, hv, hF⟩ := hF
  refine rz_getf dX4_pop_1 fl_X4_88 hg hv ?_
  refine rz_iconst dX4_pop_4 rfl (by decide) ?_
  refine rz_icmp_lt (tgt := 17) dX4_pop_5 (by decide) (fun c => ?_) (fun c => ?_)
  · replace hF := ite_t hF c
    refine rz_lconst (v := 0) dX4_pop_17 (by decide) (by decide) ?_
    exact rz_lret dX4_pop_18 trivial hF
  · replace hF := ite_f hF c
    refine rz_aload_n dX4_pop_8 rfl (show _ = some (some (vo x0)) from rfl) ?_
    replace hF := rdI_e hF
    obtain ⟨fs, f2, hg, hv, hF⟩ := hF
    refine rz_getf dX4_pop_9 fl_X4_88 hg hv ?_
    refine rz_bipush (v := 32) dX4_pop_12 (by decide) (by decide) ?_
    refine rz_icmp_le (tgt := 19) dX4_pop_14 (by decide) (fun c => ?_) (fun c => ?_)
    · replace hF := ite_t hF c
      refine rz_aload_n dX4_pop_19 rfl (show _ = some (some (vo x0)) from rfl) ?_
      refine rz_dup dX4_pop_20 (by rintro ⟨_, q⟩; cases q) ?_
      replace hF := rdI_e hF
      obtain ⟨fs, f3, hg, hv, hF⟩ := hF
      refine rz_getf dX4_pop_21 fl_X4_88 hg hv ?_
      refine rz_iconst dX4_pop_24 rfl (by decide) ?_
      refine rz_isub dX4_pop_25 ?_
      replace hF := wrF_e hF
      obtain ⟨fs, hg, hv, hF⟩ := hF
      refine rz_putf dX4_pop_26 fl_X4_88 (Or.inl rfl) hg hv ?_
      refine rz_aload_n dX4_pop_29 rfl (show _ = some (some (vo x0)) from rfl) ?_
      replace hF := rdO_e hF
      obtain ⟨fs, o5, hg, hv, hF⟩ := hF
      refine rz_getf dX4_pop_30 fl_X4_29 hg hv ?_
      refine rz_aload_n dX4_pop_33 rfl (show _ = some (some (vo x0)) from rfl) ?_
      replace hF := rdI_e hF
      obtain ⟨fs, f6, hg, hv, hF⟩ := hF
      refine rz_getf dX4_pop_34 fl_X4_88 hg hv ?_
      replace hF := ldI_e hF
      obtain ⟨xs, hg, h0, h1, hF⟩ := hF
      refine rz_lald dX4_pop_37 hg h0 h1 ?_
      generalize xs.getD _ 0 = e7 at hF ⊢
      exact rz_lret dX4_pop_38 trivial hF
    · replace hF := ite_f hF c
      refine rz_lconst (v := 0) dX4_pop_17 (by decide) (by decide) ?_
      exact rz_lret dX4_pop_18 trivial hF
theorem vX9_hookOf {G : az_G} {d : Nat} {x0 : Nat} {x1 : Int} {h : az_H} {Q : Option az_V → az_H → Prop} (hF : (if x1 < 0 then Q (some (vn)) h else (if 4 ≤ x1 then Q (some (vn)) h else rdO h x0 9 3 (fun o1 => ldR h o1 (.object "InvariantSearch$Call") x1 (fun e2 => Q (some (vr e2)) h))))) : cz G mX9_hookOf d 0 0 [vo x0, vi x1] h Q := by
  refine cz_of (ls := [some (vo x0), some (vi x1)]) (by decide +kernel) (Nat.le_of_ble_eq_true rfl) rfl ?_
  refine rz_iload_n dX9_hookOf_0 rfl (show _ = some (some (vi x1)) from rfl) ?_
  refine rz_if_lt (tgt := 18) dX9_hookOf_1 (by decide) (fun c => ?_) (fun c => ?_)
  · replace hF := ite_t hF c
    refine rz_null dX9_hookOf_18 ?_
    exact rz_aret dX9_hookOf_19 trivial hF
  · replace hF := ite_f hF c
    refine rz_iload_n dX9_hookOf_4 rfl (show _ = some (some (vi x1)) from rfl) ?_
    refine rz_iconst dX9_hookOf_5 rfl (by decide) ?_
    refine rz_icmp_ge (tgt := 18) dX9_hookOf_6 (by decide) (fun c => ?_) (fun c => ?_)
    · replace hF := ite_t hF c
      refine rz_null dX9_hookOf_18 ?_
      exact rz_aret dX9_hookOf_19 trivial hF
    · replace hF := ite_f hF c
      refine rz_aload_n dX9_hookOf_9 rfl (show _ = some (some (vo x0)) from rfl) ?_
      replace hF := rdO_e hF
      obtain ⟨fs, o1, hg, hv, hF⟩ := hF
      refine rz_getf dX9_hookOf_10 fl_X9_26 hg hv ?_
      refine rz_iload_n dX9_hookOf_13 rfl (show _ = some (some (vi x1)) from rfl) ?_
      replace hF := ldR_e hF
      obtain ⟨xs, hg, h0, h1, hF⟩ := hF
      refine rz_aald dX9_hookOf_14 hg (by decide) rfl h0 h1 ?_
      generalize xs.getD _ none = e2 at hF ⊢
      refine rz_goto (tgt := 19) dX9_hookOf_15 (by decide) ?_
      exact rz_aret dX9_hookOf_19 trivial hF
theorem vX4_pay {G : az_G} {d : Nat} {x0 : Nat} {x1 : Option Nat} {x2 : Int} {x4 : Int} {h : az_H} {Q : Option az_V → az_H → Prop} (hF : (if x2 < 0 then Q (some (vi 0)) h else rdO h x0 4 2 (fun o1 => ldI h o1 (.int) 18 (fun e2 => (if x2 ≤ e2 then nnR x1 (fun a3 => rdI h a3 0 0 (fun f4 => rdO h x0 4 2 (fun o5 => ldI h o5 (.int) 18 (fun e6 => stI h o5 .int 18 (w32 (e6 - (w32 x2))) (fun h7 => rcv h7 x0 4 (cz G mX4_cell d 0 0 [vo x0, vi (w32 (14 + f4))] h7 (fun v h8 => atI v (fun r9 => rcv h8 x0 4 (cz G mX4_put d 0 0 [vo x0, vi (w32 (14 + f4)), vi (w32 (r9 + (w32 x2)))] h8 (fun v h10 => atV v (rdO h10 x0 4 0 (fun o11 => rdI h10 a3 0 0 (fun f12 => rcv h10 o11 9 (cz G mX9_hookOf d 0 0 [vo o11, vi f12] h10 (fun v h13 => atR v (fun r14 => (match r14 with | none => Q (some (vi 1)) h13 | some b15 => (if 3 ≤ x4 then Q (some (vi 1)) h13 else rcv h13 x0 4 (cz G mX4_perform d 0 0 [vo x0, vo b15, vi (w32 (x4 + 1))] h13 (fun v h16 => atI v (fun r17 => Q (some (vi 1)) h16))))))))))))))))))))) else Q (some (vi 0)) h))))) : cz G mX4_pay (d + 1) 0 0 [vo x0, vr x1, vl x2, vi x4] h Q := by
  refine cz_of (ls := [some (vo x0), some (vr x1), some (vl x2), none, some (vi x4), none, none]) (by decide +kernel) (Nat.le_of_ble_eq_true rfl) rfl ?_
  refine rz_lload_n dX4_pay_0 rfl (show _ = some (some (vl x2)) from rfl) ?_
  refine rz_lconst (v := 0) dX4_pay_1 (by decide) (by decide) ?_
  refine rz_lcmp dX4_pay_2 ?_
  refine rz_if_lt (tgt := 19) dX4_pay_3 (by decide) (fun c => ?_) (fun c => ?_)
  · replace hF := ite_t hF (lC_lt.mp c)
    refine rz_iconst dX4_pay_19 rfl (by decide) ?_
    exact rz_iret dX4_pay_20 (Or.inl rfl) hF
  · replace hF := ite_f hF (fun q => c (lC_lt.mpr q))
    refine rz_lload_n dX4_pay_6 rfl (show _ = some (some (vl x2)) from rfl) ?_
    refine rz_aload_n dX4_pay_7 rfl (show _ = some (some (vo x0)) from rfl) ?_
    replace hF := rdO_e hF
    obtain ⟨fs, o1, hg, hv, hF⟩ := hF
    refine rz_getf dX4_pay_8 fl_X4_20 hg hv ?_
    refine rz_bipush (v := 18) dX4_pay_11 (by decide) (by decide) ?_
    replace hF := ldI_e hF
    obtain ⟨xs, hg, h0, h1, hF⟩ := hF
    refine rz_iald dX4_pay_13 hg h0 h1 ?_
    generalize xs.getD _ 0 = e2 at hF ⊢
    refine rz_i2l dX4_pay_14 ?_
    refine rz_lcmp dX4_pay_15 ?_
    refine rz_if_le (tgt := 21) dX4_pay_16 (by decide) (fun c => ?_) (fun c => ?_)
    · replace hF := ite_t hF (lC_le.mp c)
      refine rz_bipush (v := 14) dX4_pay_21 (by decide) (by decide) ?_
      refine rz_aload_n dX4_pay_23 rfl (show _ = some (some (vr x1)) from rfl) ?_
      replace hF := nnR_e hF
      obtain ⟨a3, ea3, hF⟩ := hF
      subst ea3
      replace hF := rdI_e hF
      obtain ⟨fs, f4, hg, hv, hF⟩ := hF
      refine rz_getg dX4_pay_24 fr_X4_75 hg hv ?_
      refine rz_iadd dX4_pay_27 ?_
      refine rz_istore (ls' := [some (vo x0), some (vo a3), some (vl x2), none, some (vi x4), some (vi (w32 (14 + f4))), none]) dX4_pay_28 (Nat.le_of_ble_eq_true rfl) rfl ?_
      refine rz_aload_n dX4_pay_30 rfl (show _ = some (some (vo x0)) from rfl) ?_
      replace hF := rdO_e hF
      obtain ⟨fs, o5, hg, hv, hF⟩ := hF
      refine rz_getf dX4_pay_31 fl_X4_20 hg hv ?_
      refine rz_bipush (v := 18) dX4_pay_34 (by decide) (by decide) ?_
      refine rz_dup2_11 dX4_pay_36 (by rintro ⟨_, q⟩; cases q) (by rintro ⟨_, q⟩; cases q) ?_
      replace hF := ldI_e hF
      obtain ⟨xs, hg, h0, h1, hF⟩ := hF
      refine rz_iald dX4_pay_37 hg h0 h1 ?_
      generalize xs.getD _ 0 = e6 at hF ⊢
      refine rz_lload_n dX4_pay_38 rfl (show _ = some (some (vl x2)) from rfl) ?_
      refine rz_l2i dX4_pay_39 ?_
      refine rz_isub dX4_pay_40 ?_
      replace hF := stI_e hF
      obtain ⟨xs, hg, h0, h1, hF⟩ := hF
      refine rz_iast dX4_pay_41 hg h0 h1 ?_
      refine rz_aload_n dX4_pay_42 rfl (show _ = some (some (vo x0)) from rfl) ?_
      refine rz_iload dX4_pay_43 (show _ = some (some (vi (w32 (14 + f4)))) from rfl) ?_
      refine rz_aload_n dX4_pay_45 rfl (show _ = some (some (vo x0)) from rfl) ?_
      refine rz_iload dX4_pay_46 (show _ = some (some (vi (w32 (14 + f4)))) from rfl) ?_
      replace hF := rcv_e hF
      obtain ⟨fs, hg, hF⟩ := hF
      refine rz_callV (mc' := 0) (ms' := 0) (mc := 0) (ms := 0) (st := [vi (w32 (14 + f4)), vo x0]) dX4_pay_48 cV_X4_78 rfl hg ⟨_, _, rfl⟩ rfl (Nat.le_of_ble_eq_true rfl) hF (fun v h8 hG => ?_)
      clear hF
      revert hG
      intro hF
      replace hF := atI_e hF
      obtain ⟨r9, rfl, hF⟩ := hF
      refine rz_lload_n dX4_pay_51 rfl (show _ = some (some (vl x2)) from rfl) ?_
      refine rz_l2i dX4_pay_52 ?_
      refine rz_iadd dX4_pay_53 ?_
      replace hF := rcv_e hF
      obtain ⟨fs, hg, hF⟩ := hF
      refine rz_callV (mc' := 0) (ms' := 0) (mc := 0) (ms := 0) (st := []) dX4_pay_54 cV_X4_84 rfl hg ⟨_, _, rfl⟩ rfl (Nat.le_of_ble_eq_true rfl) hF (fun v h10 hG => ?_)
      clear hF
      revert hG
      intro hF
      replace hF := atV_e hF
      obtain ⟨rfl, hF⟩ := hF
      refine rz_aload_n dX4_pay_57 rfl (show _ = some (some (vo x0)) from rfl) ?_
      replace hF := rdO_e hF
      obtain ⟨fs, o11, hg, hv, hF⟩ := hF
      refine rz_getf dX4_pay_58 fl_X4_33 hg hv ?_
      refine rz_aload_n dX4_pay_61 rfl (show _ = some (some (vo a3)) from rfl) ?_
      replace hF := rdI_e hF
      obtain ⟨fs, f12, hg, hv, hF⟩ := hF
      refine rz_getg dX4_pay_62 fr_X4_75 hg hv ?_
      replace hF := rcv_e hF
      obtain ⟨fs, hg, hF⟩ := hF
      refine rz_callV (mc' := 0) (ms' := 0) (mc := 0) (ms := 0) (st := []) dX4_pay_65 cV_X4_127 rfl hg ⟨_, _, rfl⟩ rfl (Nat.le_of_ble_eq_true rfl) hF (fun v h13 hG => ?_)
      clear hF
      revert hG
      intro hF
      replace hF := atR_e hF
      obtain ⟨r14, rfl, hF⟩ := hF
      refine rz_astore (ls' := [some (vo x0), some (vo a3), some (vl x2), none, some (vi x4), some (vi (w32 (14 + f4))), some (vr r14)]) dX4_pay_68 (Nat.le_of_ble_eq_true rfl) rfl ?_
      refine rz_aload dX4_pay_70 (show _ = some (some (vr r14)) from rfl) ?_
      cases r14 with
      | none =>
        refine rz_ifnull (tgt := 92) dX4_pay_72 (by decide) (fun c => ?_) (fun c => absurd rfl c)
        refine rz_iconst dX4_pay_92 rfl (by decide) ?_
        exact rz_iret dX4_pay_93 (Or.inr rfl) hF
      | some b15 =>
        refine rz_ifnull (tgt := 92) dX4_pay_72 (by decide) (fun c => absurd c (by simp)) (fun c => ?_)
        refine rz_iload dX4_pay_75 (show _ = some (some (vi x4)) from rfl) ?_
        refine rz_iconst dX4_pay_77 rfl (by decide) ?_
        refine rz_icmp_ge (tgt := 92) dX4_pay_78 (by decide) (fun c => ?_) (fun c => ?_)
        · replace hF := ite_t hF c
          refine rz_iconst dX4_pay_92 rfl (by decide) ?_
          exact rz_iret dX4_pay_93 (Or.inr rfl) hF
        · replace hF := ite_f hF c
          refine rz_aload_n dX4_pay_81 rfl (show _ = some (some (vo x0)) from rfl) ?_
          refine rz_aload dX4_pay_82 (show _ = some (some (vo b15)) from rfl) ?_
          refine rz_iload dX4_pay_84 (show _ = some (some (vi x4)) from rfl) ?_
          refine rz_iconst dX4_pay_86 rfl (by decide) ?_
          refine rz_iadd dX4_pay_87 ?_
          replace hF := rcv_e hF
          obtain ⟨fs, hg, hF⟩ := hF
          refine rz_callV (mc' := 0) (ms' := 0) (mc := 0) (ms := 0) (st := []) dX4_pay_88 cV_X4_55 rfl hg ⟨_, _, rfl⟩ rfl (Nat.le_of_ble_eq_true rfl) hF (fun v h16 hG => ?_)
          clear hF
          revert hG
          intro hF
          replace hF := atI_e hF
          obtain ⟨r17, rfl, hF⟩ := hF
          refine rz_pop dX4_pay_91 (by rintro ⟨_, q⟩; cases q) ?_
          refine rz_iconst dX4_pay_92 rfl (by decide) ?_
          exact rz_iret dX4_pay_93 (Or.inr rfl) hF
    · replace hF := ite_f hF (fun q => c (lC_le.mpr q))
      refine rz_iconst dX4_pay_19 rfl (by decide) ?_
      exact rz_iret dX4_pay_20 (Or.inl rfl) hF
theorem vX4_operate {G : az_G} {d : Nat} {x0 : Int} {x1 : Int} {x3 : Int} {h : az_H} {Q : Option az_V → az_H → Prop} (hF : (if x0 = 10 then Q (some (vl (w64 (x1 + x3)))) h else (if x0 = 11 then Q (some (vl (w64 (x1 - x3)))) h else (if x0 = 12 then (if x1 = 0 then (if x3 = 0 then Q (some (vl 0)) h else Q (some (vl 1)) h) else Q (some (vl 1)) h) else (if x0 = 13 then Q (some (vl (w64 (x1 * x3)))) h else (if x0 = 14 then (if x3 = 0 then Q (some (vl 1000000001)) h else (x3 ≠ 0 ∧ Q (some (vl (lDiv x1 x3))) h)) else (if x0 = 15 then (if x1 = 0 then Q (some (vl 0)) h else (if x3 = 0 then Q (some (vl 0)) h else Q (some (vl 1)) h)) else (if x0 = 16 then (if x3 ≤ x1 then Q (some (vl 0)) h else Q (some (vl 1)) h) else (if x0 = 17 then (if x1 = x3 then Q (some (vl 1)) h else Q (some (vl 0)) h) else Q (some (vl 1000000001)) h))))))))) : cz G mX4_operate d 0 0 [vi x0, vl x1, vl x3] h Q := by
  refine cz_of (ls := [some (vi x0), some (vl x1), none, some (vl x3), none]) (by decide +kernel) (Nat.le_of_ble_eq_true rfl) rfl ?_
  refine rz_iload_n dX4_operate_0 rfl (show _ = some (some (vi x0)) from rfl) ?_
  by_cases c1 : x0 = 10
  · replace hF := ite_t hF c1
    refine rz_tsIn (off := 47) (tgt := 48) dX4_operate_1 (by omega) (by omega) (by rw [c1]; rfl) (by decide) ?_
    refine rz_lload_n dX4_operate_48 rfl (show _ = some (some (vl x1)) from rfl) ?_
    refine rz_lload_n dX4_operate_49 rfl (show _ = some (some (vl x3)) from rfl) ?_
    refine rz_ladd dX4_operate_50 ?_
    exact rz_lret dX4_operate_51 trivial hF
  · replace hF := ite_f hF c1
    by_cases c2 : x0 = 11
    · replace hF := ite_t hF c2
      refine rz_tsIn (off := 51) (tgt := 52) dX4_operate_1 (by omega) (by omega) (by rw [c2]; rfl) (by decide) ?_
      refine rz_lload_n dX4_operate_52 rfl (show _ = some (some (vl x1)) from rfl) ?_
      refine rz_lload_n dX4_operate_53 rfl (show _ = some (some (vl x3)) from rfl) ?_
      refine rz_lsub dX4_operate_54 ?_
      exact rz_lret dX4_operate_55 trivial hF
    · replace hF := ite_f hF c2
      by_cases c3 : x0 = 12
      · replace hF := ite_t hF c3
        refine rz_tsIn (off := 55) (tgt := 56) dX4_operate_1 (by omega) (by omega) (by rw [c3]; rfl) (by decide) ?_
        refine rz_lload_n dX4_operate_56 rfl (show _ = some (some (vl x1)) from rfl) ?_
        refine rz_lconst (v := 0) dX4_operate_57 (by decide) (by decide) ?_
        refine rz_lcmp dX4_operate_58 ?_
        refine rz_if_ne (tgt := 68) dX4_operate_59 (by decide) (fun c => ?_) (fun c => ?_)
        · replace hF := ite_f hF (fun q => c (lC_eq.mpr q))
          refine rz_lconst (v := 1) dX4_operate_68 (by decide) (by decide) ?_
          refine rz_goto (tgt := 73) dX4_operate_69 (by decide) ?_
          exact rz_lret dX4_operate_73 trivial hF
        · replace hF := ite_t hF (lC_eq.mp c)
          refine rz_lload_n dX4_operate_62 rfl (show _ = some (some (vl x3)) from rfl) ?_
          refine rz_lconst (v := 0) dX4_operate_63 (by decide) (by decide) ?_
          refine rz_lcmp dX4_operate_64 ?_
          refine rz_if_eq (tgt := 72) dX4_operate_65 (by decide) (fun c => ?_) (fun c => ?_)
          · replace hF := ite_t hF (lC_eq.mp c)
            refine rz_lconst (v := 0) dX4_operate_72 (by decide) (by decide) ?_
            exact rz_lret dX4_operate_73 trivial hF
          · replace hF := ite_f hF (fun q => c (lC_eq.mpr q))
            refine rz_lconst (v := 1) dX4_operate_68 (by decide) (by decide) ?_
            refine rz_goto (tgt := 73) dX4_operate_69 (by decide) ?_
            exact rz_lret dX4_operate_73 trivial hF
      · replace hF := ite_f hF c3
        by_cases c4 : x0 = 13
        · replace hF := ite_t hF c4
          refine rz_tsIn (off := 73) (tgt := 74) dX4_operate_1 (by omega) (by omega) (by rw [c4]; rfl) (by decide) ?_
          refine rz_lload_n dX4_operate_74 rfl (show _ = some (some (vl x1)) from rfl) ?_
          refine rz_lload_n dX4_operate_75 rfl (show _ = some (some (vl x3)) from rfl) ?_
          refine rz_lmul dX4_operate_76 ?_
          exact rz_lret dX4_operate_77 trivial hF
        · replace hF := ite_f hF c4
          by_cases c5 : x0 = 14
          · replace hF := ite_t hF c5
            refine rz_tsIn (off := 77) (tgt := 78) dX4_operate_1 (by omega) (by omega) (by rw [c5]; rfl) (by decide) ?_
            refine rz_lload_n dX4_operate_78 rfl (show _ = some (some (vl x3)) from rfl) ?_
            refine rz_lconst (v := 0) dX4_operate_79 (by decide) (by decide) ?_
            refine rz_lcmp dX4_operate_80 ?_
            refine rz_if_ne (tgt := 90) dX4_operate_81 (by decide) (fun c => ?_) (fun c => ?_)
            · replace hF := ite_f hF (fun q => c (lC_eq.mpr q))
              refine rz_lload_n dX4_operate_90 rfl (show _ = some (some (vl x1)) from rfl) ?_
              refine rz_lload_n dX4_operate_91 rfl (show _ = some (some (vl x3)) from rfl) ?_
              obtain ⟨hne, hF⟩ := hF
              refine rz_ldiv dX4_operate_92 hne ?_
              exact rz_lret dX4_operate_93 trivial hF
            · replace hF := ite_t hF (lC_eq.mp c)
              refine rz_ldc2 (v := 1000000001) dX4_operate_84 k_795 (by decide) ?_
              refine rz_goto (tgt := 93) dX4_operate_87 (by decide) ?_
              exact rz_lret dX4_operate_93 trivial hF
          · replace hF := ite_f hF c5
            by_cases c6 : x0 = 15
            · replace hF := ite_t hF c6
              refine rz_tsIn (off := 93) (tgt := 94) dX4_operate_1 (by omega) (by omega) (by rw [c6]; rfl) (by decide) ?_
              refine rz_lload_n dX4_operate_94 rfl (show _ = some (some (vl x1)) from rfl) ?_
              refine rz_lconst (v := 0) dX4_operate_95 (by decide) (by decide) ?_
              refine rz_lcmp dX4_operate_96 ?_
              refine rz_if_eq (tgt := 110) dX4_operate_97 (by decide) (fun c => ?_) (fun c => ?_)
              · replace hF := ite_t hF (lC_eq.mp c)
                refine rz_lconst (v := 0) dX4_operate_110 (by decide) (by decide) ?_
                exact rz_lret dX4_operate_111 trivial hF
              · replace hF := ite_f hF (fun q => c (lC_eq.mpr q))
                refine rz_lload_n dX4_operate_100 rfl (show _ = some (some (vl x3)) from rfl) ?_
                refine rz_lconst (v := 0) dX4_operate_101 (by decide) (by decide) ?_
                refine rz_lcmp dX4_operate_102 ?_
                refine rz_if_eq (tgt := 110) dX4_operate_103 (by decide) (fun c => ?_) (fun c => ?_)
                · replace hF := ite_t hF (lC_eq.mp c)
                  refine rz_lconst (v := 0) dX4_operate_110 (by decide) (by decide) ?_
                  exact rz_lret dX4_operate_111 trivial hF
                · replace hF := ite_f hF (fun q => c (lC_eq.mpr q))
                  refine rz_lconst (v := 1) dX4_operate_106 (by decide) (by decide) ?_
                  refine rz_goto (tgt := 111) dX4_operate_107 (by decide) ?_
                  exact rz_lret dX4_operate_111 trivial hF
            · replace hF := ite_f hF c6
              by_cases c7 : x0 = 16
              · replace hF := ite_t hF c7
                refine rz_tsIn (off := 111) (tgt := 112) dX4_operate_1 (by omega) (by omega) (by rw [c7]; rfl) (by decide) ?_
                refine rz_lload_n dX4_operate_112 rfl (show _ = some (some (vl x1)) from rfl) ?_
                refine rz_lload_n dX4_operate_113 rfl (show _ = some (some (vl x3)) from rfl) ?_
                refine rz_lcmp dX4_operate_114 ?_
                refine rz_if_ge (tgt := 122) dX4_operate_115 (by decide) (fun c => ?_) (fun c => ?_)
                · replace hF := ite_t hF (lC_ge.mp c)
                  refine rz_lconst (v := 0) dX4_operate_122 (by decide) (by decide) ?_
                  exact rz_lret dX4_operate_123 trivial hF
                · replace hF := ite_f hF (fun q => c (lC_ge.mpr q))
                  refine rz_lconst (v := 1) dX4_operate_118 (by decide) (by decide) ?_
                  refine rz_goto (tgt := 123) dX4_operate_119 (by decide) ?_
                  exact rz_lret dX4_operate_123 trivial hF
              · replace hF := ite_f hF c7
                by_cases c8 : x0 = 17
                · replace hF := ite_t hF c8
                  refine rz_tsIn (off := 123) (tgt := 124) dX4_operate_1 (by omega) (by omega) (by rw [c8]; rfl) (by decide) ?_
                  refine rz_lload_n dX4_operate_124 rfl (show _ = some (some (vl x1)) from rfl) ?_
                  refine rz_lload_n dX4_operate_125 rfl (show _ = some (some (vl x3)) from rfl) ?_
                  refine rz_lcmp dX4_operate_126 ?_
                  refine rz_if_ne (tgt := 134) dX4_operate_127 (by decide) (fun c => ?_) (fun c => ?_)
                  · replace hF := ite_f hF (fun q => c (lC_eq.mpr q))
                    refine rz_lconst (v := 0) dX4_operate_134 (by decide) (by decide) ?_
                    exact rz_lret dX4_operate_135 trivial hF
                  · replace hF := ite_t hF (lC_eq.mp c)
                    refine rz_lconst (v := 1) dX4_operate_130 (by decide) (by decide) ?_
                    refine rz_goto (tgt := 135) dX4_operate_131 (by decide) ?_
                    exact rz_lret dX4_operate_135 trivial hF
                · replace hF := ite_f hF c8
                  refine rz_tsOut (tgt := 136) dX4_operate_1 (by omega) (by decide) ?_
                  refine rz_ldc2 (v := 1000000001) dX4_operate_136 k_795 (by decide) ?_
                  exact rz_lret dX4_operate_139 trivial hF
theorem vX4_reckon {G : az_G} {d : Nat} {x0 : Nat} {x1 : Int} {x2 : Int} {x3 : Option Nat} {h : az_H} {Q : Option az_V → az_H → Prop} (hF : (if x1 = 1 then Q (some (vl x2)) h else (if x1 = 2 then rcv h x0 4 (cz G mX4_cell d 0 0 [vo x0, vi x2] h (fun v h2 => atI v (fun r3 => Q (some (vl r3)) h2))) else (if x1 = 3 then nnR x3 (fun a5 => rdI h a5 0 0 (fun f6 => rcv h x0 4 (cz G mX4_cell d 0 0 [vo x0, vi (w32 (x2 + f6))] h (fun v h7 => atI v (fun r8 => Q (some (vl r8)) h7))))) else (if x1 = 4 then rcv h x0 4 (cz G mX4_cell d 0 0 [vo x0, vi x2] h (fun v h10 => atI v (fun r11 => rcv h10 x0 4 (cz G mX4_cell d 0 0 [vo x0, vi (w32 (x2 + 1))] h10 (fun v h12 => atI v (fun r13 => rcv h12 x0 4 (cz G mX4_cell d 0 0 [vo x0, vi (w32 (x2 + 2))] h12 (fun v h14 => atI v (fun r15 => rcv h14 x0 4 (cz G mX4_cell d 0 0 [vo x0, vi (w32 (x2 + 3))] h14 (fun v h16 => atI v (fun r17 => Q (some (vl (w64 ((w64 ((w64 (r11 + r13)) + r15)) + r17)))) h16)))))))))))) else (if x1 = 5 then nnR x3 (fun a19 => rdI h a19 0 2 (fun f20 => Q (some (vl f20)) h)) else (if x1 = 6 then nnR x3 (fun a22 => rdI h a22 0 3 (fun f23 => Q (some (vl f23)) h)) else (if x1 = 7 then nnR x3 (fun a25 => rdI h a25 0 0 (fun f26 => Q (some (vl f26)) h)) else (if x1 = 8 then rcv h x0 4 (cz G mX4_pop d 0 0 [vo x0] h (fun v h28 => atL v (fun r29 => (if r29 = 0 then Q (some (vl 1)) h28 else Q (some (vl 0)) h28)))) else (if x1 = 9 then rcv h x0 4 (cz G mX4_pop d 0 0 [vo x0] h (fun v h31 => atL v (fun r32 => Q (some (vl (w64 (-r32)))) h31))) else rcv h x0 4 (cz G mX4_pop d 0 0 [vo x0] h (fun v h34 => atL v (fun r35 => rcv h34 x0 4 (cz G mX4_pop d 0 0 [vo x0] h34 (fun v h36 => atL v (fun r37 => cz G mX4_operate d 0 0 [vi x1, vl r37, vl r35] h36 (fun v h38 => atL v (fun r39 => Q (some (vl r39)) h38)))))))))))))))))) : cz G mX4_reckon (d + 1) 0 0 [vo x0, vi x1, vi x2, vr x3] h Q := by
  refine cz_of (ls := [some (vo x0), some (vi x1), some (vi x2), some (vr x3), none, none, none, none]) (by decide +kernel) (Nat.le_of_ble_eq_true rfl) rfl ?_
  refine rz_iload_n dX4_reckon_0 rfl (show _ = some (some (vi x1)) from rfl) ?_
  by_cases c1 : x1 = 1
  · replace hF := ite_t hF c1
    refine rz_tsIn (off := 51) (tgt := 52) dX4_reckon_1 (by omega) (by omega) (by rw [c1]; rfl) (by decide) ?_
    refine rz_iload_n dX4_reckon_52 rfl (show _ = some (some (vi x2)) from rfl) ?_
    refine rz_i2l dX4_reckon_53 ?_
    exact rz_lret dX4_reckon_54 trivial hF
  · replace hF := ite_f hF c1
    by_cases c4 : x1 = 2
    · replace hF := ite_t hF c4
      refine rz_tsIn (off := 54) (tgt := 55) dX4_reckon_1 (by omega) (by omega) (by rw [c4]; rfl) (by decide) ?_
      refine rz_aload_n dX4_reckon_55 rfl (show _ = some (some (vo x0)) from rfl) ?_
      refine rz_iload_n dX4_reckon_56 rfl (show _ = some (some (vi x2)) from rfl) ?_
      replace hF := rcv_e hF
      obtain ⟨fs, hg, hF⟩ := hF
      refine rz_callV (mc' := 0) (ms' := 0) (mc := 0) (ms := 0) (st := []) dX4_reckon_57 cV_X4_78 rfl hg ⟨_, _, rfl⟩ rfl (Nat.le_of_ble_eq_true rfl) hF (fun v h2 hG => ?_)
      clear hF
      revert hG
      intro hF
      replace hF := atI_e hF
      obtain ⟨r3, rfl, hF⟩ := hF
      refine rz_i2l dX4_reckon_60 ?_
      exact rz_lret dX4_reckon_61 trivial hF
    · replace hF := ite_f hF c4
      by_cases c9 : x1 = 3
      · replace hF := ite_t hF c9
        refine rz_tsIn (off := 61) (tgt := 62) dX4_reckon_1 (by omega) (by omega) (by rw [c9]; rfl) (by decide) ?_
        refine rz_aload_n dX4_reckon_62 rfl (show _ = some (some (vo x0)) from rfl) ?_
        refine rz_iload_n dX4_reckon_63 rfl (show _ = some (some (vi x2)) from rfl) ?_
        refine rz_aload_n dX4_reckon_64 rfl (show _ = some (some (vr x3)) from rfl) ?_
        replace hF := nnR_e hF
        obtain ⟨a5, ea5, hF⟩ := hF
        subst ea5
        replace hF := rdI_e hF
        obtain ⟨fs, f6, hg, hv, hF⟩ := hF
        refine rz_getg dX4_reckon_65 fr_X4_75 hg hv ?_
        refine rz_iadd dX4_reckon_68 ?_
        replace hF := rcv_e hF
        obtain ⟨fs, hg, hF⟩ := hF
        refine rz_callV (mc' := 0) (ms' := 0) (mc := 0) (ms := 0) (st := []) dX4_reckon_69 cV_X4_78 rfl hg ⟨_, _, rfl⟩ rfl (Nat.le_of_ble_eq_true rfl) hF (fun v h7 hG => ?_)
        clear hF
        revert hG
        intro hF
        replace hF := atI_e hF
        obtain ⟨r8, rfl, hF⟩ := hF
        refine rz_i2l dX4_reckon_72 ?_
        exact rz_lret dX4_reckon_73 trivial hF
      · replace hF := ite_f hF c9
        by_cases c18 : x1 = 4
        · replace hF := ite_t hF c18
          refine rz_tsIn (off := 73) (tgt := 74) dX4_reckon_1 (by omega) (by omega) (by rw [c18]; rfl) (by decide) ?_
          refine rz_aload_n dX4_reckon_74 rfl (show _ = some (some (vo x0)) from rfl) ?_
          refine rz_iload_n dX4_reckon_75 rfl (show _ = some (some (vi x2)) from rfl) ?_
          replace hF := rcv_e hF
          obtain ⟨fs, hg, hF⟩ := hF
          refine rz_callV (mc' := 0) (ms' := 0) (mc := 0) (ms := 0) (st := []) dX4_reckon_76 cV_X4_78 rfl hg ⟨_, _, rfl⟩ rfl (Nat.le_of_ble_eq_true rfl) hF (fun v h10 hG => ?_)
          clear hF
          revert hG
          intro hF
          replace hF := atI_e hF
          obtain ⟨r11, rfl, hF⟩ := hF
          refine rz_i2l dX4_reckon_79 ?_
          refine rz_aload_n dX4_reckon_80 rfl (show _ = some (some (vo x0)) from rfl) ?_
          refine rz_iload_n dX4_reckon_81 rfl (show _ = some (some (vi x2)) from rfl) ?_
          refine rz_iconst dX4_reckon_82 rfl (by decide) ?_
          refine rz_iadd dX4_reckon_83 ?_
          replace hF := rcv_e hF
          obtain ⟨fs, hg, hF⟩ := hF
          refine rz_callV (mc' := 0) (ms' := 0) (mc := 0) (ms := 0) (st := [vl r11]) dX4_reckon_84 cV_X4_78 rfl hg ⟨_, _, rfl⟩ rfl (Nat.le_of_ble_eq_true rfl) hF (fun v h12 hG => ?_)
          clear hF
          revert hG
          intro hF
          replace hF := atI_e hF
          obtain ⟨r13, rfl, hF⟩ := hF
          refine rz_i2l dX4_reckon_87 ?_
          refine rz_ladd dX4_reckon_88 ?_
          refine rz_aload_n dX4_reckon_89 rfl (show _ = some (some (vo x0)) from rfl) ?_
          refine rz_iload_n dX4_reckon_90 rfl (show _ = some (some (vi x2)) from rfl) ?_
          refine rz_iconst dX4_reckon_91 rfl (by decide) ?_
          refine rz_iadd dX4_reckon_92 ?_
          replace hF := rcv_e hF
          obtain ⟨fs, hg, hF⟩ := hF
          refine rz_callV (mc' := 0) (ms' := 0) (mc := 0) (ms := 0) (st := [vl (w64 (r11 + r13))]) dX4_reckon_93 cV_X4_78 rfl hg ⟨_, _, rfl⟩ rfl (Nat.le_of_ble_eq_true rfl) hF (fun v h14 hG => ?_)
          clear hF
          revert hG
          intro hF
          replace hF := atI_e hF
          obtain ⟨r15, rfl, hF⟩ := hF
          refine rz_i2l dX4_reckon_96 ?_
          refine rz_ladd dX4_reckon_97 ?_
          refine rz_aload_n dX4_reckon_98 rfl (show _ = some (some (vo x0)) from rfl) ?_
          refine rz_iload_n dX4_reckon_99 rfl (show _ = some (some (vi x2)) from rfl) ?_
          refine rz_iconst dX4_reckon_100 rfl (by decide) ?_
          refine rz_iadd dX4_reckon_101 ?_
          replace hF := rcv_e hF
          obtain ⟨fs, hg, hF⟩ := hF
          refine rz_callV (mc' := 0) (ms' := 0) (mc := 0) (ms := 0) (st := [vl (w64 ((w64 (r11 + r13)) + r15))]) dX4_reckon_102 cV_X4_78 rfl hg ⟨_, _, rfl⟩ rfl (Nat.le_of_ble_eq_true rfl) hF (fun v h16 hG => ?_)
          clear hF
          revert hG
          intro hF
          replace hF := atI_e hF
          obtain ⟨r17, rfl, hF⟩ := hF
          refine rz_i2l dX4_reckon_105 ?_
          refine rz_ladd dX4_reckon_106 ?_
          exact rz_lret dX4_reckon_107 trivial hF
        · replace hF := ite_f hF c18
          by_cases c21 : x1 = 5
          · replace hF := ite_t hF c21
            refine rz_tsIn (off := 107) (tgt := 108) dX4_reckon_1 (by omega) (by omega) (by rw [c21]; rfl) (by decide) ?_
            refine rz_aload_n dX4_reckon_108 rfl (show _ = some (some (vr x3)) from rfl) ?_
            replace hF := nnR_e hF
            obtain ⟨a19, ea19, hF⟩ := hF
            subst ea19
            replace hF := rdI_e hF
            obtain ⟨fs, f20, hg, hv, hF⟩ := hF
            refine rz_getg dX4_reckon_109 fr_X4_131 hg hv ?_
            refine rz_i2l dX4_reckon_112 ?_
            exact rz_lret dX4_reckon_113 trivial hF
          · replace hF := ite_f hF c21
            by_cases c24 : x1 = 6
            · replace hF := ite_t hF c24
              refine rz_tsIn (off := 113) (tgt := 114) dX4_reckon_1 (by omega) (by omega) (by rw [c24]; rfl) (by decide) ?_
              refine rz_aload_n dX4_reckon_114 rfl (show _ = some (some (vr x3)) from rfl) ?_
              replace hF := nnR_e hF
              obtain ⟨a22, ea22, hF⟩ := hF
              subst ea22
              replace hF := rdI_e hF
              obtain ⟨fs, f23, hg, hv, hF⟩ := hF
              refine rz_getg dX4_reckon_115 fr_X4_81 hg hv ?_
              refine rz_i2l dX4_reckon_118 ?_
              exact rz_lret dX4_reckon_119 trivial hF
            · replace hF := ite_f hF c24
              by_cases c27 : x1 = 7
              · replace hF := ite_t hF c27
                refine rz_tsIn (off := 119) (tgt := 120) dX4_reckon_1 (by omega) (by omega) (by rw [c27]; rfl) (by decide) ?_
                refine rz_aload_n dX4_reckon_120 rfl (show _ = some (some (vr x3)) from rfl) ?_
                replace hF := nnR_e hF
                obtain ⟨a25, ea25, hF⟩ := hF
                subst ea25
                replace hF := rdI_e hF
                obtain ⟨fs, f26, hg, hv, hF⟩ := hF
                refine rz_getg dX4_reckon_121 fr_X4_75 hg hv ?_
                refine rz_i2l dX4_reckon_124 ?_
                exact rz_lret dX4_reckon_125 trivial hF
              · replace hF := ite_f hF c27
                by_cases c30 : x1 = 8
                · replace hF := ite_t hF c30
                  refine rz_tsIn (off := 125) (tgt := 126) dX4_reckon_1 (by omega) (by omega) (by rw [c30]; rfl) (by decide) ?_
                  refine rz_aload_n dX4_reckon_126 rfl (show _ = some (some (vo x0)) from rfl) ?_
                  replace hF := rcv_e hF
                  obtain ⟨fs, hg, hF⟩ := hF
                  refine rz_callV (mc' := 0) (ms' := 0) (mc := 0) (ms := 0) (st := []) dX4_reckon_127 cV_X4_63 rfl hg ⟨_, _, rfl⟩ rfl (Nat.le_of_ble_eq_true rfl) hF (fun v h28 hG => ?_)
                  clear hF
                  revert hG
                  intro hF
                  replace hF := atL_e hF
                  obtain ⟨r29, rfl, hF⟩ := hF
                  refine rz_lconst (v := 0) dX4_reckon_130 (by decide) (by decide) ?_
                  refine rz_lcmp dX4_reckon_131 ?_
                  refine rz_if_ne (tgt := 139) dX4_reckon_132 (by decide) (fun c => ?_) (fun c => ?_)
                  · replace hF := ite_f hF (fun q => c (lC_eq.mpr q))
                    refine rz_lconst (v := 0) dX4_reckon_139 (by decide) (by decide) ?_
                    exact rz_lret dX4_reckon_140 trivial hF
                  · replace hF := ite_t hF (lC_eq.mp c)
                    refine rz_lconst (v := 1) dX4_reckon_135 (by decide) (by decide) ?_
                    refine rz_goto (tgt := 140) dX4_reckon_136 (by decide) ?_
                    exact rz_lret dX4_reckon_140 trivial hF
                · replace hF := ite_f hF c30
                  by_cases c33 : x1 = 9
                  · replace hF := ite_t hF c33
                    refine rz_tsIn (off := 140) (tgt := 141) dX4_reckon_1 (by omega) (by omega) (by rw [c33]; rfl) (by decide) ?_
                    refine rz_aload_n dX4_reckon_141 rfl (show _ = some (some (vo x0)) from rfl) ?_
                    replace hF := rcv_e hF
                    obtain ⟨fs, hg, hF⟩ := hF
                    refine rz_callV (mc' := 0) (ms' := 0) (mc := 0) (ms := 0) (st := []) dX4_reckon_142 cV_X4_63 rfl hg ⟨_, _, rfl⟩ rfl (Nat.le_of_ble_eq_true rfl) hF (fun v h31 hG => ?_)
                    clear hF
                    revert hG
                    intro hF
                    replace hF := atL_e hF
                    obtain ⟨r32, rfl, hF⟩ := hF
                    refine rz_lneg dX4_reckon_145 ?_
                    exact rz_lret dX4_reckon_146 trivial hF
                  · replace hF := ite_f hF c33
                    refine rz_tsOut (tgt := 147) dX4_reckon_1 (by omega) (by decide) ?_
                    refine rz_aload_n dX4_reckon_147 rfl (show _ = some (some (vo x0)) from rfl) ?_
                    replace hF := rcv_e hF
                    obtain ⟨fs, hg, hF⟩ := hF
                    refine rz_callV (mc' := 0) (ms' := 0) (mc := 0) (ms := 0) (st := []) dX4_reckon_148 cV_X4_63 rfl hg ⟨_, _, rfl⟩ rfl (Nat.le_of_ble_eq_true rfl) hF (fun v h34 hG => ?_)
                    clear hF
                    revert hG
                    intro hF
                    replace hF := atL_e hF
                    obtain ⟨r35, rfl, hF⟩ := hF
                    refine rz_lstore (ls' := [some (vo x0), some (vi x1), some (vi x2), some (vr x3), some (vl r35), none, none, none]) dX4_reckon_151 (Nat.le_of_ble_eq_true rfl) rfl ?_
                    refine rz_aload_n dX4_reckon_153 rfl (show _ = some (some (vo x0)) from rfl) ?_
                    replace hF := rcv_e hF
                    obtain ⟨fs, hg, hF⟩ := hF
                    refine rz_callV (mc' := 0) (ms' := 0) (mc := 0) (ms := 0) (st := []) dX4_reckon_154 cV_X4_63 rfl hg ⟨_, _, rfl⟩ rfl (Nat.le_of_ble_eq_true rfl) hF (fun v h36 hG => ?_)
                    clear hF
                    revert hG
                    intro hF
                    replace hF := atL_e hF
                    obtain ⟨r37, rfl, hF⟩ := hF
                    refine rz_lstore (ls' := [some (vo x0), some (vi x1), some (vi x2), some (vr x3), some (vl r35), none, some (vl r37), none]) dX4_reckon_157 (Nat.le_of_ble_eq_true rfl) rfl ?_
                    refine rz_iload_n dX4_reckon_159 rfl (show _ = some (some (vi x1)) from rfl) ?_
                    refine rz_lload dX4_reckon_160 (show _ = some (some (vl r37)) from rfl) ?_
                    refine rz_lload dX4_reckon_162 (show _ = some (some (vl r35)) from rfl) ?_
                    refine rz_callS (mc' := 0) (ms' := 0) (mc := 0) (ms := 0) (st := []) dX4_reckon_164 cS_X4_134 rfl rfl (Nat.le_of_ble_eq_true rfl) hF (fun v h38 hG => ?_)
                    clear hF
                    revert hG
                    intro hF
                    replace hF := atL_e hF
                    obtain ⟨r39, rfl, hF⟩ := hF
                    exact rz_lret dX4_reckon_167 trivial hF
theorem vX4_push {G : az_G} {d : Nat} {x0 : Nat} {x1 : Int} {h : az_H} {Q : Option az_V → az_H → Prop} (hF : (if x1 < ((-1000000000)) then Q (some (vi 0)) h else (if 1000000000 < x1 then Q (some (vi 0)) h else rdI h x0 4 5 (fun f1 => (if f1 < 0 then Q (some (vi 0)) h else rdI h x0 4 5 (fun f2 => (if f2 < 32 then rdO h x0 4 4 (fun o3 => rdI h x0 4 5 (fun f4 => stI h o3 .long f4 x1 (fun h5 => rdI h5 x0 4 5 (fun f6 => wrF h5 x0 4 5 (.int) (vi (w32 (f6 + 1))) (fun h7 => Q (some (vi 1)) h7))))) else Q (some (vi 0)) h))))))) : cz G mX4_push d 0 0 [vo x0, vl x1] h Q := by
  refine cz_of (ls := [some (vo x0), some (vl x1), none]) (by decide +kernel) (Nat.le_of_ble_eq_true rfl) rfl ?_
  refine rz_lload_n dX4_push_0 rfl (show _ = some (some (vl x1)) from rfl) ?_
  refine rz_ldc2 (v := (-1000000000)) dX4_push_1 k_800 (by decide) ?_
  refine rz_lcmp dX4_push_4 ?_
  refine rz_if_lt (tgt := 32) dX4_push_5 (by decide) (fun c => ?_) (fun c => ?_)
  · replace hF := ite_t hF (lC_lt.mp c)
    refine rz_iconst dX4_push_32 rfl (by decide) ?_
    exact rz_iret dX4_push_33 (Or.inl rfl) hF
  · replace hF := ite_f hF (fun q => c (lC_lt.mpr q))
    refine rz_lload_n dX4_push_8 rfl (show _ = some (some (vl x1)) from rfl) ?_
    refine rz_ldc2 (v := 1000000000) dX4_push_9 k_801 (by decide) ?_
    refine rz_lcmp dX4_push_12 ?_
    refine rz_if_gt (tgt := 32) dX4_push_13 (by decide) (fun c => ?_) (fun c => ?_)
    · replace hF := ite_t hF (lC_gt.mp c)
      refine rz_iconst dX4_push_32 rfl (by decide) ?_
      exact rz_iret dX4_push_33 (Or.inl rfl) hF
    · replace hF := ite_f hF (fun q => c (lC_gt.mpr q))
      refine rz_aload_n dX4_push_16 rfl (show _ = some (some (vo x0)) from rfl) ?_
      replace hF := rdI_e hF
      obtain ⟨fs, f1, hg, hv, hF⟩ := hF
      refine rz_getf dX4_push_17 fl_X4_88 hg hv ?_
      refine rz_if_lt (tgt := 32) dX4_push_20 (by decide) (fun c => ?_) (fun c => ?_)
      · replace hF := ite_t hF c
        refine rz_iconst dX4_push_32 rfl (by decide) ?_
        exact rz_iret dX4_push_33 (Or.inl rfl) hF
      · replace hF := ite_f hF c
        refine rz_aload_n dX4_push_23 rfl (show _ = some (some (vo x0)) from rfl) ?_
        replace hF := rdI_e hF
        obtain ⟨fs, f2, hg, hv, hF⟩ := hF
        refine rz_getf dX4_push_24 fl_X4_88 hg hv ?_
        refine rz_bipush (v := 32) dX4_push_27 (by decide) (by decide) ?_
        refine rz_icmp_lt (tgt := 34) dX4_push_29 (by decide) (fun c => ?_) (fun c => ?_)
        · replace hF := ite_t hF c
          refine rz_aload_n dX4_push_34 rfl (show _ = some (some (vo x0)) from rfl) ?_
          replace hF := rdO_e hF
          obtain ⟨fs, o3, hg, hv, hF⟩ := hF
          refine rz_getf dX4_push_35 fl_X4_29 hg hv ?_
          refine rz_aload_n dX4_push_38 rfl (show _ = some (some (vo x0)) from rfl) ?_
          replace hF := rdI_e hF
          obtain ⟨fs, f4, hg, hv, hF⟩ := hF
          refine rz_getf dX4_push_39 fl_X4_88 hg hv ?_
          refine rz_lload_n dX4_push_42 rfl (show _ = some (some (vl x1)) from rfl) ?_
          replace hF := stI_e hF
          obtain ⟨xs, hg, h0, h1, hF⟩ := hF
          refine rz_last dX4_push_43 hg h0 h1 ?_
          refine rz_aload_n dX4_push_44 rfl (show _ = some (some (vo x0)) from rfl) ?_
          refine rz_dup dX4_push_45 (by rintro ⟨_, q⟩; cases q) ?_
          replace hF := rdI_e hF
          obtain ⟨fs, f6, hg, hv, hF⟩ := hF
          refine rz_getf dX4_push_46 fl_X4_88 hg hv ?_
          refine rz_iconst dX4_push_49 rfl (by decide) ?_
          refine rz_iadd dX4_push_50 ?_
          replace hF := wrF_e hF
          obtain ⟨fs, hg, hv, hF⟩ := hF
          refine rz_putf dX4_push_51 fl_X4_88 (Or.inl rfl) hg hv ?_
          refine rz_iconst dX4_push_54 rfl (by decide) ?_
          exact rz_iret dX4_push_55 (Or.inr rfl) hF
        · replace hF := ite_f hF c
          refine rz_iconst dX4_push_32 rfl (by decide) ?_
          exact rz_iret dX4_push_33 (Or.inl rfl) hF
def pX4_run_8 (G : az_G) (d : Nat) (x0 : Nat) (x1 : Option Nat) (x2 : Option Nat) (x3 : Int) (x4 : Int) (h : az_H) (Q : Option az_V → az_H → Prop) : Prop := ez G mX4_run (d + 1) 0 0 8 [some (vo x0), some (vr x1), some (vr x2), some (vi x3), some (vi x4), none, none] [] h Q
theorem vX4_run_8 {G : az_G} {d : Nat} {x0 : Nat} {x1 : Option Nat} {x2 : Option Nat} {x3 : Int} {x4 : Int} {h : az_H} {Q : Option az_V → az_H → Prop} (hF : nnR x1 (fun a1 => rdI h a1 1 2 (fun f2 => (if f2 ≤ x4 then Q (some (vi 1)) h else rcv h a1 1 (cz G mX1_op d 0 0 [vo a1, vi x4] h (fun v h3 => atI v (fun r4 => rcv h3 a1 1 (cz G mX1_arg d 0 0 [vo a1, vi x4] h3 (fun v h5 => atI v (fun r6 => (if r4 = 18 then rdO h5 x0 4 0 (fun o7 => nnR x2 (fun a8 => rdI h5 a8 0 1 (fun f9 => rcv h5 x0 4 (cz G mX4_isZeroOnTop d 0 0 [vo x0] h5 (fun v h10 => atI v (fun r11 => (if r11 = 0 then rcv h10 o7 9 (cz G mX9_meet d 0 0 [vo o7, vi f9, vi r6] h10 (fun v h12 => atV v (pX4_run_8 G d x0 (some a1) (some a8) x3 (w32 (x4 + 1)) h12 Q))) else rcv h10 o7 9 (cz G mX9_meet d 0 0 [vo o7, vi f9, vi (w32 (r6 + 1))] h10 (fun v h13 => atV v (pX4_run_8 G d x0 (some a1) (some a8) x3 (w32 (x4 + 1)) h13 Q)))))))))) else (if r4 = 19 then rcv h5 x0 4 (cz G mX4_pop d 0 0 [vo x0] h5 (fun v h15 => atL v (fun r16 => (if r16 = 0 then Q (some (vi 0)) h15 else pX4_run_8 G d x0 (some a1) x2 x3 (w32 (x4 + 1)) h15 Q)))) else (if r4 = 20 then rcv h5 x0 4 (cz G mX4_pop d 0 0 [vo x0] h5 (fun v h18 => atL v (fun r19 => (if r19 = 0 then cz G mJ9_max_7cf53 d 0 0 [vi x4, vi (w32 (r6 - 1))] h18 (fun v h20 => atI v (fun r21 => pX4_run_8 G d x0 (some a1) x2 x3 (w32 (r21 + 1)) h20 Q)) else pX4_run_8 G d x0 (some a1) x2 x3 (w32 (x4 + 1)) h18 Q)))) else (if r4 = 21 then rcv h5 x0 4 (cz G mX4_pop d 0 0 [vo x0] h5 (fun v h23 => atL v (fun r24 => rcv h23 x0 4 (cz G mX4_put d 0 0 [vo x0, vi r6, vi (w32 r24)] h23 (fun v h25 => atV v (pX4_run_8 G d x0 (some a1) x2 x3 (w32 (x4 + 1)) h25 Q)))))) else (if r4 = 22 then nnR x2 (fun a27 => rdI h5 a27 0 0 (fun f28 => rcv h5 x0 4 (cz G mX4_pop d 0 0 [vo x0] h5 (fun v h29 => atL v (fun r30 => rcv h29 x0 4 (cz G mX4_put d 0 0 [vo x0, vi (w32 (r6 + f28)), vi (w32 r30)] h29 (fun v h31 => atV v (pX4_run_8 G d x0 (some a1) (some a27) x3 (w32 (x4 + 1)) h31 Q)))))))) else (if r4 = 23 then rcv h5 x0 4 (cz G mX4_pop d 0 0 [vo x0] h5 (fun v h33 => atL v (fun r34 => rcv h33 x0 4 (cz G mX4_pay d 0 0 [vo x0, vr x2, vl r34, vi x3] h33 (fun v h35 => atI v (fun r36 => (if r36 = 0 then Q (some (vi 0)) h35 else pX4_run_8 G d x0 (some a1) x2 x3 (w32 (x4 + 1)) h35 Q))))))) else rcv h5 x0 4 (cz G mX4_reckon d 0 0 [vo x0, vi r4, vi r6, vr x2] h5 (fun v h38 => atL v (fun r39 => rcv h38 x0 4 (cz G mX4_push d 0 0 [vo x0, vl r39] h38 (fun v h40 => atI v (fun r41 => (if r41 = 0 then Q (some (vi 0)) h40 else pX4_run_8 G d x0 (some a1) x2 x3 (w32 (x4 + 1)) h40 Q))))))))))))))))))))))) : pX4_run_8 G d x0 x1 x2 x3 x4 h Q := by
  unfold pX4_run_8
  refine rz_iload dX4_run_8 (show _ = some (some (vi x4)) from rfl) ?_
  refine rz_aload_n dX4_run_10 rfl (show _ = some (some (vr x1)) from rfl) ?_
  replace hF := nnR_e hF
  obtain ⟨a1, ea1, hF⟩ := hF
  subst ea1
  replace hF := rdI_e hF
  obtain ⟨fs, f2, hg, hv, hF⟩ := hF
  refine rz_getg dX4_run_11 fr_X4_91 hg hv ?_
  refine rz_icmp_ge (tgt := 208) dX4_run_14 (by decide) (fun c => ?_) (fun c => ?_)
  · replace hF := ite_t hF c
    refine rz_iconst dX4_run_208 rfl (by decide) ?_
    exact rz_iret dX4_run_209 (Or.inr rfl) hF
  · replace hF := ite_f hF c
    refine rz_aload_n dX4_run_17 rfl (show _ = some (some (vo a1)) from rfl) ?_
    refine rz_iload dX4_run_18 (show _ = some (some (vi x4)) from rfl) ?_
    replace hF := rcv_e hF
    obtain ⟨fs, hg, hF⟩ := hF
    refine rz_callV (mc' := 0) (ms' := 0) (mc := 0) (ms := 0) (st := []) dX4_run_20 cV_X4_96 rfl hg ⟨_, _, rfl⟩ rfl (Nat.le_of_ble_eq_true rfl) hF (fun v h3 hG => ?_)
    clear hF
    revert hG
    intro hF
    replace hF := atI_e hF
    obtain ⟨r4, rfl, hF⟩ := hF
    refine rz_istore (ls' := [some (vo x0), some (vo a1), some (vr x2), some (vi x3), some (vi x4), some (vi r4), none]) dX4_run_23 (Nat.le_of_ble_eq_true rfl) rfl ?_
    refine rz_aload_n dX4_run_25 rfl (show _ = some (some (vo a1)) from rfl) ?_
    refine rz_iload dX4_run_26 (show _ = some (some (vi x4)) from rfl) ?_
    replace hF := rcv_e hF
    obtain ⟨fs, hg, hF⟩ := hF
    refine rz_callV (mc' := 0) (ms' := 0) (mc := 0) (ms := 0) (st := []) dX4_run_28 cV_X4_99 rfl hg ⟨_, _, rfl⟩ rfl (Nat.le_of_ble_eq_true rfl) hF (fun v h5 hG => ?_)
    clear hF
    revert hG
    intro hF
    replace hF := atI_e hF
    obtain ⟨r6, rfl, hF⟩ := hF
    refine rz_istore (ls' := [some (vo x0), some (vo a1), some (vr x2), some (vi x3), some (vi x4), some (vi r4), some (vi r6)]) dX4_run_31 (Nat.le_of_ble_eq_true rfl) rfl ?_
    refine rz_iload dX4_run_33 (show _ = some (some (vi r4)) from rfl) ?_
    by_cases c14 : r4 = 18
    · replace hF := ite_t hF c14
      refine rz_tsIn (off := 37) (tgt := 72) dX4_run_35 (by omega) (by omega) (by rw [c14]; rfl) (by decide) ?_
      refine rz_aload_n dX4_run_72 rfl (show _ = some (some (vo x0)) from rfl) ?_
      replace hF := rdO_e hF
      obtain ⟨fs, o7, hg, hv, hF⟩ := hF
      refine rz_getf dX4_run_73 fl_X4_33 hg hv ?_
      refine rz_aload_n dX4_run_76 rfl (show _ = some (some (vr x2)) from rfl) ?_
      replace hF := nnR_e hF
      obtain ⟨a8, ea8, hF⟩ := hF
      subst ea8
      replace hF := rdI_e hF
      obtain ⟨fs, f9, hg, hv, hF⟩ := hF
      refine rz_getg dX4_run_77 fr_X4_67 hg hv ?_
      refine rz_aload_n dX4_run_80 rfl (show _ = some (some (vo x0)) from rfl) ?_
      replace hF := rcv_e hF
      obtain ⟨fs, hg, hF⟩ := hF
      refine rz_callV (mc' := 0) (ms' := 0) (mc := 0) (ms := 0) (st := [vi f9, vo o7]) dX4_run_81 cV_X4_102 rfl hg ⟨_, _, rfl⟩ rfl (Nat.le_of_ble_eq_true rfl) hF (fun v h10 hG => ?_)
      clear hF
      revert hG
      intro hF
      replace hF := atI_e hF
      obtain ⟨r11, rfl, hF⟩ := hF
      refine rz_if_eq (tgt := 94) dX4_run_84 (by decide) (fun c => ?_) (fun c => ?_)
      · replace hF := ite_t hF c
        refine rz_iload dX4_run_94 (show _ = some (some (vi r6)) from rfl) ?_
        replace hF := rcv_e hF
        obtain ⟨fs, hg, hF⟩ := hF
        refine rz_callV (mc' := 0) (ms' := 0) (mc := 0) (ms := 0) (st := []) dX4_run_96 cV_X4_106 rfl hg ⟨_, _, rfl⟩ rfl (Nat.le_of_ble_eq_true rfl) hF (fun v h12 hG => ?_)
        clear hF
        revert hG
        intro hF
        replace hF := atV_e hF
        obtain ⟨rfl, hF⟩ := hF
        refine rz_goto (tgt := 202) dX4_run_99 (by decide) ?_
        refine rz_iinc (ls' := [some (vo x0), some (vo a1), some (vo a8), some (vi x3), some (vi (w32 (x4 + 1))), some (vi r4), some (vi r6)]) dX4_run_202 rfl (Nat.le_of_ble_eq_true rfl) rfl ?_
        refine rz_goto (tgt := 8) dX4_run_205 (by decide) ?_
        refine ez_kp [true, true, true, true, true, false, false] rfl ?_
        exact hF
      · replace hF := ite_f hF c
        refine rz_iload dX4_run_87 (show _ = some (some (vi r6)) from rfl) ?_
        refine rz_iconst dX4_run_89 rfl (by decide) ?_
        refine rz_iadd dX4_run_90 ?_
        refine rz_goto (tgt := 96) dX4_run_91 (by decide) ?_
        replace hF := rcv_e hF
        obtain ⟨fs, hg, hF⟩ := hF
        refine rz_callV (mc' := 0) (ms' := 0) (mc := 0) (ms := 0) (st := []) dX4_run_96 cV_X4_106 rfl hg ⟨_, _, rfl⟩ rfl (Nat.le_of_ble_eq_true rfl) hF (fun v h13 hG => ?_)
        clear hF
        revert hG
        intro hF
        replace hF := atV_e hF
        obtain ⟨rfl, hF⟩ := hF
        refine rz_goto (tgt := 202) dX4_run_99 (by decide) ?_
        refine rz_iinc (ls' := [some (vo x0), some (vo a1), some (vo a8), some (vi x3), some (vi (w32 (x4 + 1))), some (vi r4), some (vi r6)]) dX4_run_202 rfl (Nat.le_of_ble_eq_true rfl) rfl ?_
        refine rz_goto (tgt := 8) dX4_run_205 (by decide) ?_
        refine ez_kp [true, true, true, true, true, false, false] rfl ?_
        exact hF
    · replace hF := ite_f hF c14
      by_cases c17 : r4 = 19
      · replace hF := ite_t hF c17
        refine rz_tsIn (off := 67) (tgt := 102) dX4_run_35 (by omega) (by omega) (by rw [c17]; rfl) (by decide) ?_
        refine rz_aload_n dX4_run_102 rfl (show _ = some (some (vo x0)) from rfl) ?_
        replace hF := rcv_e hF
        obtain ⟨fs, hg, hF⟩ := hF
        refine rz_callV (mc' := 0) (ms' := 0) (mc := 0) (ms := 0) (st := []) dX4_run_103 cV_X4_63 rfl hg ⟨_, _, rfl⟩ rfl (Nat.le_of_ble_eq_true rfl) hF (fun v h15 hG => ?_)
        clear hF
        revert hG
        intro hF
        replace hF := atL_e hF
        obtain ⟨r16, rfl, hF⟩ := hF
        refine rz_lconst (v := 0) dX4_run_106 (by decide) (by decide) ?_
        refine rz_lcmp dX4_run_107 ?_
        refine rz_if_ne (tgt := 202) dX4_run_108 (by decide) (fun c => ?_) (fun c => ?_)
        · replace hF := ite_f hF (fun q => c (lC_eq.mpr q))
          refine rz_iinc (ls' := [some (vo x0), some (vo a1), some (vr x2), some (vi x3), some (vi (w32 (x4 + 1))), some (vi r4), some (vi r6)]) dX4_run_202 rfl (Nat.le_of_ble_eq_true rfl) rfl ?_
          refine rz_goto (tgt := 8) dX4_run_205 (by decide) ?_
          refine ez_kp [true, true, true, true, true, false, false] rfl ?_
          exact hF
        · replace hF := ite_t hF (lC_eq.mp c)
          refine rz_iconst dX4_run_111 rfl (by decide) ?_
          exact rz_iret dX4_run_112 (Or.inl rfl) hF
      · replace hF := ite_f hF c17
        by_cases c22 : r4 = 20
        · replace hF := ite_t hF c22
          refine rz_tsIn (off := 78) (tgt := 113) dX4_run_35 (by omega) (by omega) (by rw [c22]; rfl) (by decide) ?_
          refine rz_aload_n dX4_run_113 rfl (show _ = some (some (vo x0)) from rfl) ?_
          replace hF := rcv_e hF
          obtain ⟨fs, hg, hF⟩ := hF
          refine rz_callV (mc' := 0) (ms' := 0) (mc := 0) (ms := 0) (st := []) dX4_run_114 cV_X4_63 rfl hg ⟨_, _, rfl⟩ rfl (Nat.le_of_ble_eq_true rfl) hF (fun v h18 hG => ?_)
          clear hF
          revert hG
          intro hF
          replace hF := atL_e hF
          obtain ⟨r19, rfl, hF⟩ := hF
          refine rz_lconst (v := 0) dX4_run_117 (by decide) (by decide) ?_
          refine rz_lcmp dX4_run_118 ?_
          refine rz_if_ne (tgt := 202) dX4_run_119 (by decide) (fun c => ?_) (fun c => ?_)
          · replace hF := ite_f hF (fun q => c (lC_eq.mpr q))
            refine rz_iinc (ls' := [some (vo x0), some (vo a1), some (vr x2), some (vi x3), some (vi (w32 (x4 + 1))), some (vi r4), some (vi r6)]) dX4_run_202 rfl (Nat.le_of_ble_eq_true rfl) rfl ?_
            refine rz_goto (tgt := 8) dX4_run_205 (by decide) ?_
            refine ez_kp [true, true, true, true, true, false, false] rfl ?_
            exact hF
          · replace hF := ite_t hF (lC_eq.mp c)
            refine rz_iload dX4_run_122 (show _ = some (some (vi x4)) from rfl) ?_
            refine rz_iload dX4_run_124 (show _ = some (some (vi r6)) from rfl) ?_
            refine rz_iconst dX4_run_126 rfl (by decide) ?_
            refine rz_isub dX4_run_127 ?_
            refine rz_callS (mc' := 0) (ms' := 0) (mc := 0) (ms := 0) (st := []) dX4_run_128 cS_X4_109 rfl rfl (Nat.le_of_ble_eq_true rfl) hF (fun v h20 hG => ?_)
            clear hF
            revert hG
            intro hF
            replace hF := atI_e hF
            obtain ⟨r21, rfl, hF⟩ := hF
            refine rz_istore (ls' := [some (vo x0), some (vo a1), some (vr x2), some (vi x3), some (vi r21), some (vi r4), some (vi r6)]) dX4_run_131 (Nat.le_of_ble_eq_true rfl) rfl ?_
            refine rz_goto (tgt := 202) dX4_run_133 (by decide) ?_
            refine rz_iinc (ls' := [some (vo x0), some (vo a1), some (vr x2), some (vi x3), some (vi (w32 (r21 + 1))), some (vi r4), some (vi r6)]) dX4_run_202 rfl (Nat.le_of_ble_eq_true rfl) rfl ?_
            refine rz_goto (tgt := 8) dX4_run_205 (by decide) ?_
            refine ez_kp [true, true, true, true, true, false, false] rfl ?_
            exact hF
        · replace hF := ite_f hF c22
          by_cases c26 : r4 = 21
          · replace hF := ite_t hF c26
            refine rz_tsIn (off := 101) (tgt := 136) dX4_run_35 (by omega) (by omega) (by rw [c26]; rfl) (by decide) ?_
            refine rz_aload_n dX4_run_136 rfl (show _ = some (some (vo x0)) from rfl) ?_
            refine rz_iload dX4_run_137 (show _ = some (some (vi r6)) from rfl) ?_
            refine rz_aload_n dX4_run_139 rfl (show _ = some (some (vo x0)) from rfl) ?_
            replace hF := rcv_e hF
            obtain ⟨fs, hg, hF⟩ := hF
            refine rz_callV (mc' := 0) (ms' := 0) (mc := 0) (ms := 0) (st := [vi r6, vo x0]) dX4_run_140 cV_X4_63 rfl hg ⟨_, _, rfl⟩ rfl (Nat.le_of_ble_eq_true rfl) hF (fun v h23 hG => ?_)
            clear hF
            revert hG
            intro hF
            replace hF := atL_e hF
            obtain ⟨r24, rfl, hF⟩ := hF
            refine rz_l2i dX4_run_143 ?_
            replace hF := rcv_e hF
            obtain ⟨fs, hg, hF⟩ := hF
            refine rz_callV (mc' := 0) (ms' := 0) (mc := 0) (ms := 0) (st := []) dX4_run_144 cV_X4_84 rfl hg ⟨_, _, rfl⟩ rfl (Nat.le_of_ble_eq_true rfl) hF (fun v h25 hG => ?_)
            clear hF
            revert hG
            intro hF
            replace hF := atV_e hF
            obtain ⟨rfl, hF⟩ := hF
            refine rz_goto (tgt := 202) dX4_run_147 (by decide) ?_
            refine rz_iinc (ls' := [some (vo x0), some (vo a1), some (vr x2), some (vi x3), some (vi (w32 (x4 + 1))), some (vi r4), some (vi r6)]) dX4_run_202 rfl (Nat.le_of_ble_eq_true rfl) rfl ?_
            refine rz_goto (tgt := 8) dX4_run_205 (by decide) ?_
            refine ez_kp [true, true, true, true, true, false, false] rfl ?_
            exact hF
          · replace hF := ite_f hF c26
            by_cases c32 : r4 = 22
            · replace hF := ite_t hF c32
              refine rz_tsIn (off := 115) (tgt := 150) dX4_run_35 (by omega) (by omega) (by rw [c32]; rfl) (by decide) ?_
              refine rz_aload_n dX4_run_150 rfl (show _ = some (some (vo x0)) from rfl) ?_
              refine rz_iload dX4_run_151 (show _ = some (some (vi r6)) from rfl) ?_
              refine rz_aload_n dX4_run_153 rfl (show _ = some (some (vr x2)) from rfl) ?_
              replace hF := nnR_e hF
              obtain ⟨a27, ea27, hF⟩ := hF
              subst ea27
              replace hF := rdI_e hF
              obtain ⟨fs, f28, hg, hv, hF⟩ := hF
              refine rz_getg dX4_run_154 fr_X4_75 hg hv ?_
              refine rz_iadd dX4_run_157 ?_
              refine rz_aload_n dX4_run_158 rfl (show _ = some (some (vo x0)) from rfl) ?_
              replace hF := rcv_e hF
              obtain ⟨fs, hg, hF⟩ := hF
              refine rz_callV (mc' := 0) (ms' := 0) (mc := 0) (ms := 0) (st := [vi (w32 (r6 + f28)), vo x0]) dX4_run_159 cV_X4_63 rfl hg ⟨_, _, rfl⟩ rfl (Nat.le_of_ble_eq_true rfl) hF (fun v h29 hG => ?_)
              clear hF
              revert hG
              intro hF
              replace hF := atL_e hF
              obtain ⟨r30, rfl, hF⟩ := hF
              refine rz_l2i dX4_run_162 ?_
              replace hF := rcv_e hF
              obtain ⟨fs, hg, hF⟩ := hF
              refine rz_callV (mc' := 0) (ms' := 0) (mc := 0) (ms := 0) (st := []) dX4_run_163 cV_X4_84 rfl hg ⟨_, _, rfl⟩ rfl (Nat.le_of_ble_eq_true rfl) hF (fun v h31 hG => ?_)
              clear hF
              revert hG
              intro hF
              replace hF := atV_e hF
              obtain ⟨rfl, hF⟩ := hF
              refine rz_goto (tgt := 202) dX4_run_166 (by decide) ?_
              refine rz_iinc (ls' := [some (vo x0), some (vo a1), some (vo a27), some (vi x3), some (vi (w32 (x4 + 1))), some (vi r4), some (vi r6)]) dX4_run_202 rfl (Nat.le_of_ble_eq_true rfl) rfl ?_
              refine rz_goto (tgt := 8) dX4_run_205 (by decide) ?_
              refine ez_kp [true, true, true, true, true, false, false] rfl ?_
              exact hF
            · replace hF := ite_f hF c32
              by_cases c37 : r4 = 23
              · replace hF := ite_t hF c37
                refine rz_tsIn (off := 134) (tgt := 169) dX4_run_35 (by omega) (by omega) (by rw [c37]; rfl) (by decide) ?_
                refine rz_aload_n dX4_run_169 rfl (show _ = some (some (vo x0)) from rfl) ?_
                refine rz_aload_n dX4_run_170 rfl (show _ = some (some (vr x2)) from rfl) ?_
                refine rz_aload_n dX4_run_171 rfl (show _ = some (some (vo x0)) from rfl) ?_
                replace hF := rcv_e hF
                obtain ⟨fs, hg, hF⟩ := hF
                refine rz_callV (mc' := 0) (ms' := 0) (mc := 0) (ms := 0) (st := [vr x2, vo x0]) dX4_run_172 cV_X4_63 rfl hg ⟨_, _, rfl⟩ rfl (Nat.le_of_ble_eq_true rfl) hF (fun v h33 hG => ?_)
                clear hF
                revert hG
                intro hF
                replace hF := atL_e hF
                obtain ⟨r34, rfl, hF⟩ := hF
                refine rz_iload_n dX4_run_175 rfl (show _ = some (some (vi x3)) from rfl) ?_
                replace hF := rcv_e hF
                obtain ⟨fs, hg, hF⟩ := hF
                refine rz_callV (mc' := 0) (ms' := 0) (mc := 0) (ms := 0) (st := []) dX4_run_176 cV_X4_115 rfl hg ⟨_, _, rfl⟩ rfl (Nat.le_of_ble_eq_true rfl) hF (fun v h35 hG => ?_)
                clear hF
                revert hG
                intro hF
                replace hF := atI_e hF
                obtain ⟨r36, rfl, hF⟩ := hF
                refine rz_if_ne (tgt := 202) dX4_run_179 (by decide) (fun c => ?_) (fun c => ?_)
                · replace hF := ite_f hF c
                  refine rz_iinc (ls' := [some (vo x0), some (vo a1), some (vr x2), some (vi x3), some (vi (w32 (x4 + 1))), some (vi r4), some (vi r6)]) dX4_run_202 rfl (Nat.le_of_ble_eq_true rfl) rfl ?_
                  refine rz_goto (tgt := 8) dX4_run_205 (by decide) ?_
                  refine ez_kp [true, true, true, true, true, false, false] rfl ?_
                  exact hF
                · replace hF := ite_t hF c
                  refine rz_iconst dX4_run_182 rfl (by decide) ?_
                  exact rz_iret dX4_run_183 (Or.inl rfl) hF
              · replace hF := ite_f hF c37
                refine rz_tsOut (tgt := 184) dX4_run_35 (by omega) (by decide) ?_
                refine rz_aload_n dX4_run_184 rfl (show _ = some (some (vo x0)) from rfl) ?_
                refine rz_aload_n dX4_run_185 rfl (show _ = some (some (vo x0)) from rfl) ?_
                refine rz_iload dX4_run_186 (show _ = some (some (vi r4)) from rfl) ?_
                refine rz_iload dX4_run_188 (show _ = some (some (vi r6)) from rfl) ?_
                refine rz_aload_n dX4_run_190 rfl (show _ = some (some (vr x2)) from rfl) ?_
                replace hF := rcv_e hF
                obtain ⟨fs, hg, hF⟩ := hF
                refine rz_callV (mc' := 0) (ms' := 0) (mc := 0) (ms := 0) (st := [vo x0]) dX4_run_191 cV_X4_119 rfl hg ⟨_, _, rfl⟩ rfl (Nat.le_of_ble_eq_true rfl) hF (fun v h38 hG => ?_)
                clear hF
                revert hG
                intro hF
                replace hF := atL_e hF
                obtain ⟨r39, rfl, hF⟩ := hF
                replace hF := rcv_e hF
                obtain ⟨fs, hg, hF⟩ := hF
                refine rz_callV (mc' := 0) (ms' := 0) (mc := 0) (ms := 0) (st := []) dX4_run_194 cV_X4_123 rfl hg ⟨_, _, rfl⟩ rfl (Nat.le_of_ble_eq_true rfl) hF (fun v h40 hG => ?_)
                clear hF
                revert hG
                intro hF
                replace hF := atI_e hF
                obtain ⟨r41, rfl, hF⟩ := hF
                refine rz_if_ne (tgt := 202) dX4_run_197 (by decide) (fun c => ?_) (fun c => ?_)
                · replace hF := ite_f hF c
                  refine rz_iinc (ls' := [some (vo x0), some (vo a1), some (vr x2), some (vi x3), some (vi (w32 (x4 + 1))), some (vi r4), some (vi r6)]) dX4_run_202 rfl (Nat.le_of_ble_eq_true rfl) rfl ?_
                  refine rz_goto (tgt := 8) dX4_run_205 (by decide) ?_
                  refine ez_kp [true, true, true, true, true, false, false] rfl ?_
                  exact hF
                · replace hF := ite_t hF c
                  refine rz_iconst dX4_run_200 rfl (by decide) ?_
                  exact rz_iret dX4_run_201 (Or.inl rfl) hF
theorem vX4_run {G : az_G} {d : Nat} {x0 : Nat} {x1 : Option Nat} {x2 : Option Nat} {x3 : Int} {h : az_H} {Q : Option az_V → az_H → Prop} (hF : wrF h x0 4 5 (.int) (vi 0) (fun h1 => pX4_run_8 G d x0 x1 x2 x3 0 h1 Q)) : cz G mX4_run (d + 1) 0 0 [vo x0, vr x1, vr x2, vi x3] h Q := by
  refine cz_of (ls := [some (vo x0), some (vr x1), some (vr x2), some (vi x3), none, none, none]) (by decide +kernel) (Nat.le_of_ble_eq_true rfl) rfl ?_
  refine rz_aload_n dX4_run_0 rfl (show _ = some (some (vo x0)) from rfl) ?_
  refine rz_iconst dX4_run_1 rfl (by decide) ?_
  replace hF := wrF_e hF
  obtain ⟨fs, hg, hv, hF⟩ := hF
  refine rz_putf dX4_run_2 fl_X4_88 (Or.inl rfl) hg hv ?_
  refine rz_iconst dX4_run_5 rfl (by decide) ?_
  refine rz_istore (ls' := [some (vo x0), some (vr x1), some (vr x2), some (vi x3), some (vi 0), none, none]) dX4_run_6 (Nat.le_of_ble_eq_true rfl) rfl ?_
  exact hF
theorem vX4_perform {G : az_G} {d : Nat} {x0 : Nat} {x1 : Option Nat} {x2 : Int} {h : az_H} {Q : Option az_V → az_H → Prop} (hF : rdO h x0 4 0 (fun o1 => nnR x1 (fun a2 => rdI h a2 0 1 (fun f3 => rcv h o1 9 (cz G mX9_codeOf d 0 0 [vo o1, vi f3] h (fun v h4 => atR v (fun r5 => rdI h4 a2 0 0 (fun f6 => (match r5 with | none => Q (some (vi 0)) h4 | some b7 => (if x2 < 1 then Q (some (vi 0)) h4 else (if 3 < x2 then Q (some (vi 0)) h4 else rcv h4 x0 4 (cz G mX4_cell d 0 0 [vo x0, vi (w32 (14 + f6))] h4 (fun v h8 => atI v (fun r9 => rdI h8 a2 0 3 (fun f10 => (if f10 ≤ r9 then rdO h8 x0 4 2 (fun o11 => rdO h8 x0 4 3 (fun o12 => ldR h8 o12 (.array (.int)) (w32 (x2 - 1)) (fun e13 => nnR e13 (fun a14 => acp h8 o11 a14 0 0 19 (fun h15 => rcv h15 x0 4 (cz G mX4_cell d 0 0 [vo x0, vi (w32 (14 + f6))] h15 (fun v h16 => atI v (fun r17 => rdI h16 a2 0 3 (fun f18 => rcv h16 x0 4 (cz G mX4_put d 0 0 [vo x0, vi (w32 (14 + f6)), vi (w32 (r17 - f18))] h16 (fun v h19 => atV v (rdO h19 x0 4 2 (fun o20 => ldI h19 o20 (.int) 18 (fun e21 => rdI h19 a2 0 3 (fun f22 => stI h19 o20 .int 18 (w32 (e21 + f22)) (fun h23 => rcv h23 x0 4 (cz G mX4_run d 0 0 [vo x0, vo b7, vo a2, vi x2] h23 (fun v h24 => atI v (fun r25 => (if r25 = 0 then rdO h24 x0 4 3 (fun o27 => ldR h24 o27 (.array (.int)) (w32 (x2 - 1)) (fun e28 => rdO h24 x0 4 2 (fun o29 => nnR e28 (fun a30 => acp h24 a30 o29 0 0 19 (fun h31 => wrF h31 x0 4 5 (.int) (vi 0) (fun h32 => (az_fit (.boolean) (vi r25) ∧ Q (some (vi r25)) h32))))))) else wrF h24 x0 4 5 (.int) (vi 0) (fun h26 => (az_fit (.boolean) (vi r25) ∧ Q (some (vi r25)) h26)))))))))))))))))))))) else Q (some (vi 0)) h8)))))))))))))))) : cz G mX4_perform (d + 1) 0 0 [vo x0, vr x1, vi x2] h Q := by
  refine cz_of (ls := [some (vo x0), some (vr x1), some (vi x2), none, none, none]) (by decide +kernel) (Nat.le_of_ble_eq_true rfl) rfl ?_
  refine rz_aload_n dX4_perform_0 rfl (show _ = some (some (vo x0)) from rfl) ?_
  replace hF := rdO_e hF
  obtain ⟨fs, o1, hg, hv, hF⟩ := hF
  refine rz_getf dX4_perform_1 fl_X4_33 hg hv ?_
  refine rz_aload_n dX4_perform_4 rfl (show _ = some (some (vr x1)) from rfl) ?_
  replace hF := nnR_e hF
  obtain ⟨a2, ea2, hF⟩ := hF
  subst ea2
  replace hF := rdI_e hF
  obtain ⟨fs, f3, hg, hv, hF⟩ := hF
  refine rz_getg dX4_perform_5 fr_X4_67 hg hv ?_
  replace hF := rcv_e hF
  obtain ⟨fs, hg, hF⟩ := hF
  refine rz_callV (mc' := 0) (ms' := 0) (mc := 0) (ms := 0) (st := []) dX4_perform_8 cV_X4_71 rfl hg ⟨_, _, rfl⟩ rfl (Nat.le_of_ble_eq_true rfl) hF (fun v h4 hG => ?_)
  clear hF
  revert hG
  intro hF
  replace hF := atR_e hF
  obtain ⟨r5, rfl, hF⟩ := hF
  refine rz_astore_n (ls' := [some (vo x0), some (vo a2), some (vi x2), some (vr r5), none, none]) dX4_perform_11 rfl (Nat.le_of_ble_eq_true rfl) rfl ?_
  refine rz_bipush (v := 14) dX4_perform_12 (by decide) (by decide) ?_
  refine rz_aload_n dX4_perform_14 rfl (show _ = some (some (vo a2)) from rfl) ?_
  replace hF := rdI_e hF
  obtain ⟨fs, f6, hg, hv, hF⟩ := hF
  refine rz_getg dX4_perform_15 fr_X4_75 hg hv ?_
  refine rz_iadd dX4_perform_18 ?_
  refine rz_istore (ls' := [some (vo x0), some (vo a2), some (vi x2), some (vr r5), some (vi (w32 (14 + f6))), none]) dX4_perform_19 (Nat.le_of_ble_eq_true rfl) rfl ?_
  refine rz_aload_n dX4_perform_21 rfl (show _ = some (some (vr r5)) from rfl) ?_
  cases r5 with
  | none =>
    refine rz_ifnull (tgt := 48) dX4_perform_22 (by decide) (fun c => ?_) (fun c => absurd rfl c)
    refine rz_iconst dX4_perform_48 rfl (by decide) ?_
    exact rz_iret dX4_perform_49 (Or.inl rfl) hF
  | some b7 =>
    refine rz_ifnull (tgt := 48) dX4_perform_22 (by decide) (fun c => absurd c (by simp)) (fun c => ?_)
    refine rz_iload_n dX4_perform_25 rfl (show _ = some (some (vi x2)) from rfl) ?_
    refine rz_iconst dX4_perform_26 rfl (by decide) ?_
    refine rz_icmp_lt (tgt := 48) dX4_perform_27 (by decide) (fun c => ?_) (fun c => ?_)
    · replace hF := ite_t hF c
      refine rz_iconst dX4_perform_48 rfl (by decide) ?_
      exact rz_iret dX4_perform_49 (Or.inl rfl) hF
    · replace hF := ite_f hF c
      refine rz_iload_n dX4_perform_30 rfl (show _ = some (some (vi x2)) from rfl) ?_
      refine rz_iconst dX4_perform_31 rfl (by decide) ?_
      refine rz_icmp_gt (tgt := 48) dX4_perform_32 (by decide) (fun c => ?_) (fun c => ?_)
      · replace hF := ite_t hF c
        refine rz_iconst dX4_perform_48 rfl (by decide) ?_
        exact rz_iret dX4_perform_49 (Or.inl rfl) hF
      · replace hF := ite_f hF c
        refine rz_aload_n dX4_perform_35 rfl (show _ = some (some (vo x0)) from rfl) ?_
        refine rz_iload dX4_perform_36 (show _ = some (some (vi (w32 (14 + f6)))) from rfl) ?_
        replace hF := rcv_e hF
        obtain ⟨fs, hg, hF⟩ := hF
        refine rz_callV (mc' := 0) (ms' := 0) (mc := 0) (ms := 0) (st := []) dX4_perform_38 cV_X4_78 rfl hg ⟨_, _, rfl⟩ rfl (Nat.le_of_ble_eq_true rfl) hF (fun v h8 hG => ?_)
        clear hF
        revert hG
        intro hF
        replace hF := atI_e hF
        obtain ⟨r9, rfl, hF⟩ := hF
        refine rz_aload_n dX4_perform_41 rfl (show _ = some (some (vo a2)) from rfl) ?_
        replace hF := rdI_e hF
        obtain ⟨fs, f10, hg, hv, hF⟩ := hF
        refine rz_getg dX4_perform_42 fr_X4_81 hg hv ?_
        refine rz_icmp_ge (tgt := 50) dX4_perform_45 (by decide) (fun c => ?_) (fun c => ?_)
        · replace hF := ite_t hF c
          refine rz_aload_n dX4_perform_50 rfl (show _ = some (some (vo x0)) from rfl) ?_
          replace hF := rdO_e hF
          obtain ⟨fs, o11, hg, hv, hF⟩ := hF
          refine rz_getf dX4_perform_51 fl_X4_20 hg hv ?_
          refine rz_iconst dX4_perform_54 rfl (by decide) ?_
          refine rz_aload_n dX4_perform_55 rfl (show _ = some (some (vo x0)) from rfl) ?_
          replace hF := rdO_e hF
          obtain ⟨fs, o12, hg, hv, hF⟩ := hF
          refine rz_getf dX4_perform_56 fl_X4_26 hg hv ?_
          refine rz_iload_n dX4_perform_59 rfl (show _ = some (some (vi x2)) from rfl) ?_
          refine rz_iconst dX4_perform_60 rfl (by decide) ?_
          refine rz_isub dX4_perform_61 ?_
          replace hF := ldR_e hF
          obtain ⟨xs, hg, h0, h1, hF⟩ := hF
          refine rz_aald dX4_perform_62 hg (by decide) rfl h0 h1 ?_
          generalize xs.getD _ none = e13 at hF ⊢
          refine rz_iconst dX4_perform_63 rfl (by decide) ?_
          refine rz_bipush (v := 19) dX4_perform_64 (by decide) (by decide) ?_
          replace hF := nnR_e hF
          obtain ⟨a14, ea14, hF⟩ := hF
          subst ea14
          replace hF := acp_e hF
          obtain ⟨xs, ys, hg0, hg1, g0, g1, g2, g3, g4, hF⟩ := hF
          refine rz_acpy dX4_perform_66 k_722 k_652 k_651 k_92 hg0 hg1 g0 g1 g2 g3 g4 (Nat.le_of_ble_eq_true rfl) ?_
          refine rz_aload_n dX4_perform_69 rfl (show _ = some (some (vo x0)) from rfl) ?_
          refine rz_iload dX4_perform_70 (show _ = some (some (vi (w32 (14 + f6)))) from rfl) ?_
          refine rz_aload_n dX4_perform_72 rfl (show _ = some (some (vo x0)) from rfl) ?_
          refine rz_iload dX4_perform_73 (show _ = some (some (vi (w32 (14 + f6)))) from rfl) ?_
          replace hF := rcv_e hF
          obtain ⟨fs, hg, hF⟩ := hF
          refine rz_callV (mc' := 0) (ms' := 0) (mc := 0) (ms := 0) (st := [vi (w32 (14 + f6)), vo x0]) dX4_perform_75 cV_X4_78 rfl hg ⟨_, _, rfl⟩ rfl (Nat.le_of_ble_eq_true rfl) hF (fun v h16 hG => ?_)
          clear hF
          revert hG
          intro hF
          replace hF := atI_e hF
          obtain ⟨r17, rfl, hF⟩ := hF
          refine rz_aload_n dX4_perform_78 rfl (show _ = some (some (vo a2)) from rfl) ?_
          replace hF := rdI_e hF
          obtain ⟨fs, f18, hg, hv, hF⟩ := hF
          refine rz_getg dX4_perform_79 fr_X4_81 hg hv ?_
          refine rz_isub dX4_perform_82 ?_
          replace hF := rcv_e hF
          obtain ⟨fs, hg, hF⟩ := hF
          refine rz_callV (mc' := 0) (ms' := 0) (mc := 0) (ms := 0) (st := []) dX4_perform_83 cV_X4_84 rfl hg ⟨_, _, rfl⟩ rfl (Nat.le_of_ble_eq_true rfl) hF (fun v h19 hG => ?_)
          clear hF
          revert hG
          intro hF
          replace hF := atV_e hF
          obtain ⟨rfl, hF⟩ := hF
          refine rz_aload_n dX4_perform_86 rfl (show _ = some (some (vo x0)) from rfl) ?_
          replace hF := rdO_e hF
          obtain ⟨fs, o20, hg, hv, hF⟩ := hF
          refine rz_getf dX4_perform_87 fl_X4_20 hg hv ?_
          refine rz_bipush (v := 18) dX4_perform_90 (by decide) (by decide) ?_
          refine rz_dup2_11 dX4_perform_92 (by rintro ⟨_, q⟩; cases q) (by rintro ⟨_, q⟩; cases q) ?_
          replace hF := ldI_e hF
          obtain ⟨xs, hg, h0, h1, hF⟩ := hF
          refine rz_iald dX4_perform_93 hg h0 h1 ?_
          generalize xs.getD _ 0 = e21 at hF ⊢
          refine rz_aload_n dX4_perform_94 rfl (show _ = some (some (vo a2)) from rfl) ?_
          replace hF := rdI_e hF
          obtain ⟨fs, f22, hg, hv, hF⟩ := hF
          refine rz_getg dX4_perform_95 fr_X4_81 hg hv ?_
          refine rz_iadd dX4_perform_98 ?_
          replace hF := stI_e hF
          obtain ⟨xs, hg, h0, h1, hF⟩ := hF
          refine rz_iast dX4_perform_99 hg h0 h1 ?_
          refine rz_aload_n dX4_perform_100 rfl (show _ = some (some (vo x0)) from rfl) ?_
          refine rz_aload_n dX4_perform_101 rfl (show _ = some (some (vo b7)) from rfl) ?_
          refine rz_aload_n dX4_perform_102 rfl (show _ = some (some (vo a2)) from rfl) ?_
          refine rz_iload_n dX4_perform_103 rfl (show _ = some (some (vi x2)) from rfl) ?_
          replace hF := rcv_e hF
          obtain ⟨fs, hg, hF⟩ := hF
          refine rz_callV (mc' := 0) (ms' := 0) (mc := 0) (ms := 0) (st := []) dX4_perform_104 cV_X4_59 rfl hg ⟨_, _, rfl⟩ rfl (Nat.le_of_ble_eq_true rfl) hF (fun v h24 hG => ?_)
          clear hF
          revert hG
          intro hF
          replace hF := atI_e hF
          obtain ⟨r25, rfl, hF⟩ := hF
          refine rz_istore (ls' := [some (vo x0), some (vo a2), some (vi x2), some (vo b7), some (vi (w32 (14 + f6))), some (vi r25)]) dX4_perform_107 (Nat.le_of_ble_eq_true rfl) rfl ?_
          refine rz_iload dX4_perform_109 (show _ = some (some (vi r25)) from rfl) ?_
          refine rz_if_ne (tgt := 133) dX4_perform_111 (by decide) (fun c => ?_) (fun c => ?_)
          · replace hF := ite_f hF c
            refine rz_aload_n dX4_perform_133 rfl (show _ = some (some (vo x0)) from rfl) ?_
            refine rz_iconst dX4_perform_134 rfl (by decide) ?_
            replace hF := wrF_e hF
            obtain ⟨fs, hg, hv, hF⟩ := hF
            refine rz_putf dX4_perform_135 fl_X4_88 (Or.inl rfl) hg hv ?_
            refine rz_iload dX4_perform_138 (show _ = some (some (vi r25)) from rfl) ?_
            exact rz_iret dX4_perform_140 hF.1 hF.2
          · replace hF := ite_t hF c
            refine rz_aload_n dX4_perform_114 rfl (show _ = some (some (vo x0)) from rfl) ?_
            replace hF := rdO_e hF
            obtain ⟨fs, o27, hg, hv, hF⟩ := hF
            refine rz_getf dX4_perform_115 fl_X4_26 hg hv ?_
            refine rz_iload_n dX4_perform_118 rfl (show _ = some (some (vi x2)) from rfl) ?_
            refine rz_iconst dX4_perform_119 rfl (by decide) ?_
            refine rz_isub dX4_perform_120 ?_
            replace hF := ldR_e hF
            obtain ⟨xs, hg, h0, h1, hF⟩ := hF
            refine rz_aald dX4_perform_121 hg (by decide) rfl h0 h1 ?_
            generalize xs.getD _ none = e28 at hF ⊢
            refine rz_iconst dX4_perform_122 rfl (by decide) ?_
            refine rz_aload_n dX4_perform_123 rfl (show _ = some (some (vo x0)) from rfl) ?_
            replace hF := rdO_e hF
            obtain ⟨fs, o29, hg, hv, hF⟩ := hF
            refine rz_getf dX4_perform_124 fl_X4_20 hg hv ?_
            refine rz_iconst dX4_perform_127 rfl (by decide) ?_
            refine rz_bipush (v := 19) dX4_perform_128 (by decide) (by decide) ?_
            replace hF := nnR_e hF
            obtain ⟨a30, ea30, hF⟩ := hF
            subst ea30
            replace hF := acp_e hF
            obtain ⟨xs, ys, hg0, hg1, g0, g1, g2, g3, g4, hF⟩ := hF
            refine rz_acpy dX4_perform_130 k_722 k_652 k_651 k_92 hg0 hg1 g0 g1 g2 g3 g4 (Nat.le_of_ble_eq_true rfl) ?_
            refine rz_aload_n dX4_perform_133 rfl (show _ = some (some (vo x0)) from rfl) ?_
            refine rz_iconst dX4_perform_134 rfl (by decide) ?_
            replace hF := wrF_e hF
            obtain ⟨fs, hg, hv, hF⟩ := hF
            refine rz_putf dX4_perform_135 fl_X4_88 (Or.inl rfl) hg hv ?_
            refine rz_iload dX4_perform_138 (show _ = some (some (vi r25)) from rfl) ?_
            exact rz_iret dX4_perform_140 hF.1 hF.2
        · replace hF := ite_f hF c
          refine rz_iconst dX4_perform_48 rfl (by decide) ?_
          exact rz_iret dX4_perform_49 (Or.inl rfl) hF
theorem vX4_attempt {G : az_G} {d : Nat} {x0 : Nat} {x1 : Option Nat} {h : az_H} {Q : Option az_V → az_H → Prop} (hF : (match x1 with | none => Q (some (vi 0)) h | some b1 => rcv h x0 4 (cz G mX4_perform d 0 0 [vo x0, vo b1, vi 1] h (fun v h2 => atI v (fun r3 => (if r3 = 0 then Q (some (vi 0)) h2 else Q (some (vi 1)) h2)))))) : cz G mX4_attempt (d + 1) 0 0 [vo x0, vr x1] h Q := by
  refine cz_of (ls := [some (vo x0), some (vr x1)]) (by decide +kernel) (Nat.le_of_ble_eq_true rfl) rfl ?_
  refine rz_aload_n dX4_attempt_0 rfl (show _ = some (some (vr x1)) from rfl) ?_
  cases x1 with
  | none =>
    refine rz_ifnull (tgt := 17) dX4_attempt_1 (by decide) (fun c => ?_) (fun c => absurd rfl c)
    refine rz_iconst dX4_attempt_17 rfl (by decide) ?_
    exact rz_iret dX4_attempt_18 (Or.inl rfl) hF
  | some b1 =>
    refine rz_ifnull (tgt := 17) dX4_attempt_1 (by decide) (fun c => absurd c (by simp)) (fun c => ?_)
    refine rz_aload_n dX4_attempt_4 rfl (show _ = some (some (vo x0)) from rfl) ?_
    refine rz_aload_n dX4_attempt_5 rfl (show _ = some (some (vo b1)) from rfl) ?_
    refine rz_iconst dX4_attempt_6 rfl (by decide) ?_
    replace hF := rcv_e hF
    obtain ⟨fs, hg, hF⟩ := hF
    refine rz_callV (mc' := 0) (ms' := 0) (mc := 0) (ms := 0) (st := []) dX4_attempt_7 cV_X4_55 rfl hg ⟨_, _, rfl⟩ rfl (Nat.le_of_ble_eq_true rfl) hF (fun v h2 hG => ?_)
    clear hF
    revert hG
    intro hF
    replace hF := atI_e hF
    obtain ⟨r3, rfl, hF⟩ := hF
    refine rz_if_eq (tgt := 17) dX4_attempt_10 (by decide) (fun c => ?_) (fun c => ?_)
    · replace hF := ite_t hF c
      refine rz_iconst dX4_attempt_17 rfl (by decide) ?_
      exact rz_iret dX4_attempt_18 (Or.inl rfl) hF
    · replace hF := ite_f hF c
      refine rz_iconst dX4_attempt_13 rfl (by decide) ?_
      refine rz_goto (tgt := 18) dX4_attempt_14 (by decide) ?_
      exact rz_iret dX4_attempt_18 (Or.inr rfl) hF
theorem vX4_keeps {G : az_G} {d : Nat} {x0 : Nat} {x1 : Option Nat} {h : az_H} {Q : Option az_V → az_H → Prop} (hF : (match x1 with | none => Q (some (vi 0)) h | some b1 => rdO h x0 4 1 (fun o2 => rcv h x0 4 (cz G mX4_run d 0 0 [vo x0, vo b1, vo o2, vi 3] h (fun v h3 => atI v (fun r4 => (if r4 = 0 then Q (some (vi 0)) h3 else rcv h3 x0 4 (cz G mX4_pop d 0 0 [vo x0] h3 (fun v h5 => atL v (fun r6 => (if r6 = 0 then Q (some (vi 0)) h5 else Q (some (vi 1)) h5))))))))))) : cz G mX4_keeps (d + 1) 0 0 [vo x0, vr x1] h Q := by
  refine cz_of (ls := [some (vo x0), some (vr x1)]) (by decide +kernel) (Nat.le_of_ble_eq_true rfl) rfl ?_
  refine rz_aload_n dX4_keeps_0 rfl (show _ = some (some (vr x1)) from rfl) ?_
  cases x1 with
  | none =>
    refine rz_ifnull (tgt := 30) dX4_keeps_1 (by decide) (fun c => ?_) (fun c => absurd rfl c)
    refine rz_iconst dX4_keeps_30 rfl (by decide) ?_
    exact rz_iret dX4_keeps_31 (Or.inl rfl) hF
  | some b1 =>
    refine rz_ifnull (tgt := 30) dX4_keeps_1 (by decide) (fun c => absurd c (by simp)) (fun c => ?_)
    refine rz_aload_n dX4_keeps_4 rfl (show _ = some (some (vo x0)) from rfl) ?_
    refine rz_aload_n dX4_keeps_5 rfl (show _ = some (some (vo b1)) from rfl) ?_
    refine rz_aload_n dX4_keeps_6 rfl (show _ = some (some (vo x0)) from rfl) ?_
    replace hF := rdO_e hF
    obtain ⟨fs, o2, hg, hv, hF⟩ := hF
    refine rz_getf dX4_keeps_7 fl_X4_16 hg hv ?_
    refine rz_iconst dX4_keeps_10 rfl (by decide) ?_
    replace hF := rcv_e hF
    obtain ⟨fs, hg, hF⟩ := hF
    refine rz_callV (mc' := 0) (ms' := 0) (mc := 0) (ms := 0) (st := []) dX4_keeps_11 cV_X4_59 rfl hg ⟨_, _, rfl⟩ rfl (Nat.le_of_ble_eq_true rfl) hF (fun v h3 hG => ?_)
    clear hF
    revert hG
    intro hF
    replace hF := atI_e hF
    obtain ⟨r4, rfl, hF⟩ := hF
    refine rz_if_eq (tgt := 30) dX4_keeps_14 (by decide) (fun c => ?_) (fun c => ?_)
    · replace hF := ite_t hF c
      refine rz_iconst dX4_keeps_30 rfl (by decide) ?_
      exact rz_iret dX4_keeps_31 (Or.inl rfl) hF
    · replace hF := ite_f hF c
      refine rz_aload_n dX4_keeps_17 rfl (show _ = some (some (vo x0)) from rfl) ?_
      replace hF := rcv_e hF
      obtain ⟨fs, hg, hF⟩ := hF
      refine rz_callV (mc' := 0) (ms' := 0) (mc := 0) (ms := 0) (st := []) dX4_keeps_18 cV_X4_63 rfl hg ⟨_, _, rfl⟩ rfl (Nat.le_of_ble_eq_true rfl) hF (fun v h5 hG => ?_)
      clear hF
      revert hG
      intro hF
      replace hF := atL_e hF
      obtain ⟨r6, rfl, hF⟩ := hF
      refine rz_lconst (v := 0) dX4_keeps_21 (by decide) (by decide) ?_
      refine rz_lcmp dX4_keeps_22 ?_
      refine rz_if_eq (tgt := 30) dX4_keeps_23 (by decide) (fun c => ?_) (fun c => ?_)
      · replace hF := ite_t hF (lC_eq.mp c)
        refine rz_iconst dX4_keeps_30 rfl (by decide) ?_
        exact rz_iret dX4_keeps_31 (Or.inl rfl) hF
      · replace hF := ite_f hF (fun q => c (lC_eq.mpr q))
        refine rz_iconst dX4_keeps_26 rfl (by decide) ?_
        refine rz_goto (tgt := 31) dX4_keeps_27 (by decide) ?_
        exact rz_iret dX4_keeps_31 (Or.inr rfl) hF
def pX7_breaksAt_10 (G : az_G) (d : Nat) (x0 : Nat) (x1 : Option Nat) (x2 : Int) (x3 : Option Nat) (x4 : Int) (h : az_H) (Q : Option az_V → az_H → Prop) : Prop := ez G mX7_breaksAt (d + 1) 0 0 10 [some (vo x0), some (vr x1), some (vi x2), some (vr x3), some (vi x4)] [] h Q
theorem vX7_breaksAt_10 {G : az_G} {d : Nat} {x0 : Nat} {x1 : Option Nat} {x2 : Int} {x3 : Option Nat} {x4 : Int} {h : az_H} {Q : Option az_V → az_H → Prop} (hF : (if x2 ≤ x4 then Q (some (vi ((-2)))) h else nnR x1 (fun a1 => aln h a1 (fun n2 => (if n2 ≤ x4 then Q (some (vi ((-2)))) h else rdO h x0 7 0 (fun o3 => ldI h a1 (.int) x4 (fun e4 => rcv h x0 7 (cz G mX7_choiceAt d 0 0 [vo x0, vi e4] h (fun v h5 => atR v (fun r6 => rcv h5 o3 4 (cz G mX4_attempt d 0 0 [vo o3, vr r6] h5 (fun v h7 => atI v (fun r8 => rdO h7 x0 7 0 (fun o9 => rcv h7 o9 4 (cz G mX4_keeps d 0 0 [vo o9, vr x3] h7 (fun v h10 => atI v (fun r11 => (if r11 = 0 then Q (some (vi x4)) h10 else pX7_breaksAt_10 G d x0 (some a1) x2 x3 (w32 (x4 + 1)) h10 Q)))))))))))))))))) : pX7_breaksAt_10 G d x0 x1 x2 x3 x4 h Q := by
  unfold pX7_breaksAt_10
  refine rz_iload dX7_breaksAt_10 (show _ = some (some (vi x4)) from rfl) ?_
  refine rz_iload_n dX7_breaksAt_12 rfl (show _ = some (some (vi x2)) from rfl) ?_
  refine rz_icmp_ge (tgt := 59) dX7_breaksAt_13 (by decide) (fun c => ?_) (fun c => ?_)
  · replace hF := ite_t hF c
    refine rz_bipush (v := (-2)) dX7_breaksAt_59 (by decide) (by decide) ?_
    exact rz_iret dX7_breaksAt_61 trivial hF
  · replace hF := ite_f hF c
    refine rz_iload dX7_breaksAt_16 (show _ = some (some (vi x4)) from rfl) ?_
    refine rz_aload_n dX7_breaksAt_18 rfl (show _ = some (some (vr x1)) from rfl) ?_
    replace hF := nnR_e hF
    obtain ⟨a1, ea1, hF⟩ := hF
    subst ea1
    replace hF := aln_e hF
    obtain ⟨n2, hg, hr, hF⟩ := hF
    refine rz_alen dX7_breaksAt_19 hg hr ?_
    refine rz_icmp_ge (tgt := 59) dX7_breaksAt_20 (by decide) (fun c => ?_) (fun c => ?_)
    · replace hF := ite_t hF c
      refine rz_bipush (v := (-2)) dX7_breaksAt_59 (by decide) (by decide) ?_
      exact rz_iret dX7_breaksAt_61 trivial hF
    · replace hF := ite_f hF c
      refine rz_aload_n dX7_breaksAt_23 rfl (show _ = some (some (vo x0)) from rfl) ?_
      replace hF := rdO_e hF
      obtain ⟨fs, o3, hg, hv, hF⟩ := hF
      refine rz_getf dX7_breaksAt_24 fl_X7_28 hg hv ?_
      refine rz_aload_n dX7_breaksAt_27 rfl (show _ = some (some (vo x0)) from rfl) ?_
      refine rz_aload_n dX7_breaksAt_28 rfl (show _ = some (some (vo a1)) from rfl) ?_
      refine rz_iload dX7_breaksAt_29 (show _ = some (some (vi x4)) from rfl) ?_
      replace hF := ldI_e hF
      obtain ⟨xs, hg, h0, h1, hF⟩ := hF
      refine rz_iald dX7_breaksAt_31 hg h0 h1 ?_
      generalize xs.getD _ 0 = e4 at hF ⊢
      replace hF := rcv_e hF
      obtain ⟨fs, hg, hF⟩ := hF
      refine rz_callV (mc' := 0) (ms' := 0) (mc := 0) (ms := 0) (st := [vo o3]) dX7_breaksAt_32 cV_X7_44 rfl hg ⟨_, _, rfl⟩ rfl (Nat.le_of_ble_eq_true rfl) hF (fun v h5 hG => ?_)
      clear hF
      revert hG
      intro hF
      replace hF := atR_e hF
      obtain ⟨r6, rfl, hF⟩ := hF
      replace hF := rcv_e hF
      obtain ⟨fs, hg, hF⟩ := hF
      refine rz_callV (mc' := 0) (ms' := 0) (mc := 0) (ms := 0) (st := []) dX7_breaksAt_35 cV_X7_48 rfl hg ⟨_, _, rfl⟩ rfl (Nat.le_of_ble_eq_true rfl) hF (fun v h7 hG => ?_)
      clear hF
      revert hG
      intro hF
      replace hF := atI_e hF
      obtain ⟨r8, rfl, hF⟩ := hF
      refine rz_pop dX7_breaksAt_38 (by rintro ⟨_, q⟩; cases q) ?_
      refine rz_aload_n dX7_breaksAt_39 rfl (show _ = some (some (vo x0)) from rfl) ?_
      replace hF := rdO_e hF
      obtain ⟨fs, o9, hg, hv, hF⟩ := hF
      refine rz_getf dX7_breaksAt_40 fl_X7_28 hg hv ?_
      refine rz_aload_n dX7_breaksAt_43 rfl (show _ = some (some (vr x3)) from rfl) ?_
      replace hF := rcv_e hF
      obtain ⟨fs, hg, hF⟩ := hF
      refine rz_callV (mc' := 0) (ms' := 0) (mc := 0) (ms := 0) (st := []) dX7_breaksAt_44 cV_X7_52 rfl hg ⟨_, _, rfl⟩ rfl (Nat.le_of_ble_eq_true rfl) hF (fun v h10 hG => ?_)
      clear hF
      revert hG
      intro hF
      replace hF := atI_e hF
      obtain ⟨r11, rfl, hF⟩ := hF
      refine rz_if_ne (tgt := 53) dX7_breaksAt_47 (by decide) (fun c => ?_) (fun c => ?_)
      · replace hF := ite_f hF c
        refine rz_iinc (ls' := [some (vo x0), some (vo a1), some (vi x2), some (vr x3), some (vi (w32 (x4 + 1)))]) dX7_breaksAt_53 rfl (Nat.le_of_ble_eq_true rfl) rfl ?_
        refine rz_goto (tgt := 10) dX7_breaksAt_56 (by decide) ?_
        exact hF
      · replace hF := ite_t hF c
        refine rz_iload dX7_breaksAt_50 (show _ = some (some (vi x4)) from rfl) ?_
        exact rz_iret dX7_breaksAt_52 trivial hF
theorem vX7_breaksAt {G : az_G} {d : Nat} {x0 : Nat} {x1 : Option Nat} {x2 : Int} {x3 : Option Nat} {h : az_H} {Q : Option az_V → az_H → Prop} (hF : rdO h x0 7 0 (fun o1 => rcv h o1 4 (cz G mX4_toStart d 0 0 [vo o1] h (fun v h2 => atV v (pX7_breaksAt_10 G d x0 x1 x2 x3 0 h2 Q))))) : cz G mX7_breaksAt (d + 1) 0 0 [vo x0, vr x1, vi x2, vr x3] h Q := by
  refine cz_of (ls := [some (vo x0), some (vr x1), some (vi x2), some (vr x3), none]) (by decide +kernel) (Nat.le_of_ble_eq_true rfl) rfl ?_
  refine rz_aload_n dX7_breaksAt_0 rfl (show _ = some (some (vo x0)) from rfl) ?_
  replace hF := rdO_e hF
  obtain ⟨fs, o1, hg, hv, hF⟩ := hF
  refine rz_getf dX7_breaksAt_1 fl_X7_28 hg hv ?_
  replace hF := rcv_e hF
  obtain ⟨fs, hg, hF⟩ := hF
  refine rz_callV (mc' := 0) (ms' := 0) (mc := 0) (ms := 0) (st := []) dX7_breaksAt_4 cV_X7_39 rfl hg ⟨_, _, rfl⟩ rfl (Nat.le_of_ble_eq_true rfl) hF (fun v h2 hG => ?_)
  clear hF
  revert hG
  intro hF
  replace hF := atV_e hF
  obtain ⟨rfl, hF⟩ := hF
  refine rz_iconst dX7_breaksAt_7 rfl (by decide) ?_
  refine rz_istore (ls' := [some (vo x0), some (vr x1), some (vi x2), some (vr x3), some (vi 0)]) dX7_breaksAt_8 (Nat.le_of_ble_eq_true rfl) rfl ?_
  exact hF
theorem vX9_stopWatching {G : az_G} {d : Nat} {x0 : Nat} {h : az_H} {Q : Option az_V → az_H → Prop} (hF : wrF h x0 9 4 (.boolean) (vi 0) (fun h1 => rdI h1 x0 9 5 (fun f2 => (az_fit (.boolean) (vi f2) ∧ Q (some (vi f2)) h1)))) : cz G mX9_stopWatching d 0 0 [vo x0] h Q := by
  refine cz_of (ls := [some (vo x0)]) (by decide +kernel) (Nat.le_of_ble_eq_true rfl) rfl ?_
  refine rz_aload_n dX9_stopWatching_0 rfl (show _ = some (some (vo x0)) from rfl) ?_
  refine rz_iconst dX9_stopWatching_1 rfl (by decide) ?_
  replace hF := wrF_e hF
  obtain ⟨fs, hg, hv, hF⟩ := hF
  refine rz_putf dX9_stopWatching_2 fl_X9_38 (Or.inl rfl) hg hv ?_
  refine rz_aload_n dX9_stopWatching_5 rfl (show _ = some (some (vo x0)) from rfl) ?_
  replace hF := rdI_e hF
  obtain ⟨fs, f2, hg, hv, hF⟩ := hF
  refine rz_getf dX9_stopWatching_6 fl_X9_42 hg hv ?_
  exact rz_iret dX9_stopWatching_9 hF.1 hF.2
theorem vX6_isFull {G : az_G} {d : Nat} {x0 : Nat} {h : az_H} {Q : Option az_V → az_H → Prop} (hF : rdI h x0 6 3 (fun f1 => rdI h x0 6 0 (fun f2 => (if f1 < f2 then Q (some (vi 0)) h else Q (some (vi 1)) h)))) : cz G mX6_isFull d 0 0 [vo x0] h Q := by
  refine cz_of (ls := [some (vo x0)]) (by decide +kernel) (Nat.le_of_ble_eq_true rfl) rfl ?_
  refine rz_aload_n dX6_isFull_0 rfl (show _ = some (some (vo x0)) from rfl) ?_
  replace hF := rdI_e hF
  obtain ⟨fs, f1, hg, hv, hF⟩ := hF
  refine rz_getf dX6_isFull_1 fl_X6_28 hg hv ?_
  refine rz_aload_n dX6_isFull_4 rfl (show _ = some (some (vo x0)) from rfl) ?_
  replace hF := rdI_e hF
  obtain ⟨fs, f2, hg, hv, hF⟩ := hF
  refine rz_getf dX6_isFull_5 fl_X6_15 hg hv ?_
  refine rz_icmp_lt (tgt := 15) dX6_isFull_8 (by decide) (fun c => ?_) (fun c => ?_)
  · replace hF := ite_t hF c
    refine rz_iconst dX6_isFull_15 rfl (by decide) ?_
    exact rz_iret dX6_isFull_16 (Or.inl rfl) hF
  · replace hF := ite_f hF c
    refine rz_iconst dX6_isFull_11 rfl (by decide) ?_
    refine rz_goto (tgt := 16) dX6_isFull_12 (by decide) ?_
    exact rz_iret dX6_isFull_16 (Or.inr rfl) hF
theorem vX6_add {G : az_G} {d : Nat} {x0 : Nat} {x1 : Option Nat} {x2 : Int} {h : az_H} {Q : Option az_V → az_H → Prop} (hF : rcv h x0 6 (cz G mX6_isFull d 0 0 [vo x0] h (fun v h1 => atI v (fun r2 => (if r2 = 0 then nnR x1 (fun a3 => aln h1 a3 (fun n4 => cz G mJ9_min_7cf53 d 0 0 [vi n4, vi 12] h1 (fun v h5 => atI v (fun r6 => cz G mJ9_min_7cf53 d 0 0 [vi x2, vi r6] h5 (fun v h7 => atI v (fun r8 => cz G mJ9_max_7cf53 d 0 0 [vi 0, vi r8] h7 (fun v h9 => atI v (fun r10 => rdO h9 x0 6 1 (fun o11 => rdI h9 x0 6 3 (fun f12 => acp h9 a3 o11 0 (w32 (f12 * 12)) r10 (fun h13 => rdO h13 x0 6 2 (fun o14 => rdI h13 x0 6 3 (fun f15 => stI h13 o14 .int f15 r10 (fun h16 => rdI h16 x0 6 3 (fun f17 => wrF h16 x0 6 3 (.int) (vi (w32 (f17 + 1))) (fun h18 => rdI h18 x0 6 3 (fun f19 => Q (some (vi (w32 (f19 - 1)))) h18))))))))))))))))) else Q (some (vi ((-3)))) h1))))) : cz G mX6_add (d + 1) 0 0 [vo x0, vr x1, vi x2] h Q := by
  refine cz_of (ls := [some (vo x0), some (vr x1), some (vi x2), none]) (by decide +kernel) (Nat.le_of_ble_eq_true rfl) rfl ?_
  refine rz_aload_n dX6_add_0 rfl (show _ = some (some (vo x0)) from rfl) ?_
  replace hF := rcv_e hF
  obtain ⟨fs, hg, hF⟩ := hF
  refine rz_callV (mc' := 0) (ms' := 0) (mc := 0) (ms := 0) (st := []) dX6_add_1 cV_X6_31 rfl hg ⟨_, _, rfl⟩ rfl (Nat.le_of_ble_eq_true rfl) hF (fun v h1 hG => ?_)
  clear hF
  revert hG
  intro hF
  replace hF := atI_e hF
  obtain ⟨r2, rfl, hF⟩ := hF
  refine rz_if_eq (tgt := 10) dX6_add_4 (by decide) (fun c => ?_) (fun c => ?_)
  · replace hF := ite_t hF c
    refine rz_iconst dX6_add_10 rfl (by decide) ?_
    refine rz_iload_n dX6_add_11 rfl (show _ = some (some (vi x2)) from rfl) ?_
    refine rz_aload_n dX6_add_12 rfl (show _ = some (some (vr x1)) from rfl) ?_
    replace hF := nnR_e hF
    obtain ⟨a3, ea3, hF⟩ := hF
    subst ea3
    replace hF := aln_e hF
    obtain ⟨n4, hg, hr, hF⟩ := hF
    refine rz_alen dX6_add_13 hg hr ?_
    refine rz_bipush (v := 12) dX6_add_14 (by decide) (by decide) ?_
    refine rz_callS (mc' := 0) (ms' := 0) (mc := 0) (ms := 0) (st := [vi x2, vi 0]) dX6_add_16 cS_X6_35 rfl rfl (Nat.le_of_ble_eq_true rfl) hF (fun v h5 hG => ?_)
    clear hF
    revert hG
    intro hF
    replace hF := atI_e hF
    obtain ⟨r6, rfl, hF⟩ := hF
    refine rz_callS (mc' := 0) (ms' := 0) (mc := 0) (ms := 0) (st := [vi 0]) dX6_add_19 cS_X6_35 rfl rfl (Nat.le_of_ble_eq_true rfl) hF (fun v h7 hG => ?_)
    clear hF
    revert hG
    intro hF
    replace hF := atI_e hF
    obtain ⟨r8, rfl, hF⟩ := hF
    refine rz_callS (mc' := 0) (ms' := 0) (mc := 0) (ms := 0) (st := []) dX6_add_22 cS_X6_9 rfl rfl (Nat.le_of_ble_eq_true rfl) hF (fun v h9 hG => ?_)
    clear hF
    revert hG
    intro hF
    replace hF := atI_e hF
    obtain ⟨r10, rfl, hF⟩ := hF
    refine rz_istore_n (ls' := [some (vo x0), some (vo a3), some (vi x2), some (vi r10)]) dX6_add_25 rfl (Nat.le_of_ble_eq_true rfl) rfl ?_
    refine rz_aload_n dX6_add_26 rfl (show _ = some (some (vo a3)) from rfl) ?_
    refine rz_iconst dX6_add_27 rfl (by decide) ?_
    refine rz_aload_n dX6_add_28 rfl (show _ = some (some (vo x0)) from rfl) ?_
    replace hF := rdO_e hF
    obtain ⟨fs, o11, hg, hv, hF⟩ := hF
    refine rz_getf dX6_add_29 fl_X6_21 hg hv ?_
    refine rz_aload_n dX6_add_32 rfl (show _ = some (some (vo x0)) from rfl) ?_
    replace hF := rdI_e hF
    obtain ⟨fs, f12, hg, hv, hF⟩ := hF
    refine rz_getf dX6_add_33 fl_X6_28 hg hv ?_
    refine rz_bipush (v := 12) dX6_add_36 (by decide) (by decide) ?_
    refine rz_imul dX6_add_38 ?_
    refine rz_iload_n dX6_add_39 rfl (show _ = some (some (vi r10)) from rfl) ?_
    replace hF := acp_e hF
    obtain ⟨xs, ys, hg0, hg1, g0, g1, g2, g3, g4, hF⟩ := hF
    refine rz_acpy dX6_add_40 k_927 k_652 k_651 k_92 hg0 hg1 g0 g1 g2 g3 g4 (Nat.le_of_ble_eq_true rfl) ?_
    refine rz_aload_n dX6_add_43 rfl (show _ = some (some (vo x0)) from rfl) ?_
    replace hF := rdO_e hF
    obtain ⟨fs, o14, hg, hv, hF⟩ := hF
    refine rz_getf dX6_add_44 fl_X6_25 hg hv ?_
    refine rz_aload_n dX6_add_47 rfl (show _ = some (some (vo x0)) from rfl) ?_
    replace hF := rdI_e hF
    obtain ⟨fs, f15, hg, hv, hF⟩ := hF
    refine rz_getf dX6_add_48 fl_X6_28 hg hv ?_
    refine rz_iload_n dX6_add_51 rfl (show _ = some (some (vi r10)) from rfl) ?_
    replace hF := stI_e hF
    obtain ⟨xs, hg, h0, h1, hF⟩ := hF
    refine rz_iast dX6_add_52 hg h0 h1 ?_
    refine rz_aload_n dX6_add_53 rfl (show _ = some (some (vo x0)) from rfl) ?_
    refine rz_dup dX6_add_54 (by rintro ⟨_, q⟩; cases q) ?_
    replace hF := rdI_e hF
    obtain ⟨fs, f17, hg, hv, hF⟩ := hF
    refine rz_getf dX6_add_55 fl_X6_28 hg hv ?_
    refine rz_iconst dX6_add_58 rfl (by decide) ?_
    refine rz_iadd dX6_add_59 ?_
    replace hF := wrF_e hF
    obtain ⟨fs, hg, hv, hF⟩ := hF
    refine rz_putf dX6_add_60 fl_X6_28 (Or.inl rfl) hg hv ?_
    refine rz_aload_n dX6_add_63 rfl (show _ = some (some (vo x0)) from rfl) ?_
    replace hF := rdI_e hF
    obtain ⟨fs, f19, hg, hv, hF⟩ := hF
    refine rz_getf dX6_add_64 fl_X6_28 hg hv ?_
    refine rz_iconst dX6_add_67 rfl (by decide) ?_
    refine rz_isub dX6_add_68 ?_
    exact rz_iret dX6_add_69 trivial hF
  · replace hF := ite_f hF c
    refine rz_bipush (v := (-3)) dX6_add_7 (by decide) (by decide) ?_
    exact rz_iret dX6_add_9 trivial hF
def pX2_drawUntilBroken_8 (G : az_G) (d : Nat) (x0 : Nat) (x1 : Option Nat) (x3 : Int) (x4 : Option Nat) (x5 : Int) (h : az_H) (Q : Option az_V → az_H → Prop) : Prop := ez G mX2_drawUntilBroken (d + 1) 0 0 8 [some (vo x0), some (vr x1), none, some (vi x3), some (vr x4), some (vi x5), none, none, none, none] [] h Q
def pX2_drawUntilBroken_68 (G : az_G) (d : Nat) (x0 : Nat) (x1 : Option Nat) (x3 : Int) (x4 : Option Nat) (x5 : Int) (x7 : Int) (x8 : Int) (s0 : Int) (h : az_H) (Q : Option az_V → az_H → Prop) : Prop := ez G mX2_drawUntilBroken (d + 1) 0 0 68 [some (vo x0), some (vr x1), none, some (vi x3), some (vr x4), some (vi x5), none, some (vi x7), some (vi x8), none] [vi s0] h Q
theorem vX2_drawUntilBroken_68 {G : az_G} {d : Nat} {x0 : Nat} {x1 : Option Nat} {x3 : Int} {x4 : Option Nat} {x5 : Int} {x7 : Int} {x8 : Int} {s0 : Int} {h : az_H} {Q : Option az_V → az_H → Prop} (hF : (if x8 = 0 then (if x7 = (-2) then pX2_drawUntilBroken_8 G d x0 x1 x3 x4 (w32 (x5 + 1)) h Q else Q (some (vi s0)) h) else rdO h x0 2 2 (fun o1 => rcv h o1 6 (cz G mX6_isFull d 0 0 [vo o1] h (fun v h2 => atI v (fun r3 => (if r3 = 0 then rdO h2 x0 2 2 (fun o4 => rcv h2 o4 6 (cz G mX6_add d 0 0 [vo o4, vr x4, vi s0] h2 (fun v h5 => atI v (fun r6 => (if x7 = (-2) then pX2_drawUntilBroken_8 G d x0 x1 x3 x4 (w32 (x5 + 1)) h5 Q else Q (some (vi s0)) h5))))) else (if x7 = (-2) then pX2_drawUntilBroken_8 G d x0 x1 x3 x4 (w32 (x5 + 1)) h2 Q else Q (some (vi s0)) h2)))))))) : pX2_drawUntilBroken_68 G d x0 x1 x3 x4 x5 x7 x8 s0 h Q := by
  unfold pX2_drawUntilBroken_68
  refine rz_istore (ls' := [some (vo x0), some (vr x1), none, some (vi x3), some (vr x4), some (vi x5), none, some (vi x7), some (vi x8), some (vi s0)]) dX2_drawUntilBroken_68 (Nat.le_of_ble_eq_true rfl) rfl ?_
  refine rz_iload dX2_drawUntilBroken_70 (show _ = some (some (vi x8)) from rfl) ?_
  refine rz_if_eq (tgt := 97) dX2_drawUntilBroken_72 (by decide) (fun c => ?_) (fun c => ?_)
  · replace hF := ite_t hF c
    refine rz_iload dX2_drawUntilBroken_97 (show _ = some (some (vi x7)) from rfl) ?_
    refine rz_bipush (v := (-2)) dX2_drawUntilBroken_99 (by decide) (by decide) ?_
    refine rz_icmp_eq (tgt := 107) dX2_drawUntilBroken_101 (by decide) (fun c => ?_) (fun c => ?_)
    · replace hF := ite_t hF c
      refine rz_iinc (ls' := [some (vo x0), some (vr x1), none, some (vi x3), some (vr x4), some (vi (w32 (x5 + 1))), none, some (vi x7), some (vi x8), some (vi s0)]) dX2_drawUntilBroken_107 rfl (Nat.le_of_ble_eq_true rfl) rfl ?_
      refine rz_goto (tgt := 8) dX2_drawUntilBroken_110 (by decide) ?_
      refine ez_kp [true, true, false, true, true, true, false, false, false, false] rfl ?_
      exact hF
    · replace hF := ite_f hF c
      refine rz_iload dX2_drawUntilBroken_104 (show _ = some (some (vi s0)) from rfl) ?_
      exact rz_iret dX2_drawUntilBroken_106 trivial hF
  · replace hF := ite_f hF c
    refine rz_aload_n dX2_drawUntilBroken_75 rfl (show _ = some (some (vo x0)) from rfl) ?_
    replace hF := rdO_e hF
    obtain ⟨fs, o1, hg, hv, hF⟩ := hF
    refine rz_getf dX2_drawUntilBroken_76 fl_X2_14 hg hv ?_
    replace hF := rcv_e hF
    obtain ⟨fs, hg, hF⟩ := hF
    refine rz_callV (mc' := 0) (ms' := 0) (mc := 0) (ms := 0) (st := []) dX2_drawUntilBroken_79 cV_X2_65 rfl hg ⟨_, _, rfl⟩ rfl (Nat.le_of_ble_eq_true rfl) hF (fun v h2 hG => ?_)
    clear hF
    revert hG
    intro hF
    replace hF := atI_e hF
    obtain ⟨r3, rfl, hF⟩ := hF
    refine rz_if_ne (tgt := 97) dX2_drawUntilBroken_82 (by decide) (fun c => ?_) (fun c => ?_)
    · replace hF := ite_f hF c
      refine rz_iload dX2_drawUntilBroken_97 (show _ = some (some (vi x7)) from rfl) ?_
      refine rz_bipush (v := (-2)) dX2_drawUntilBroken_99 (by decide) (by decide) ?_
      refine rz_icmp_eq (tgt := 107) dX2_drawUntilBroken_101 (by decide) (fun c => ?_) (fun c => ?_)
      · replace hF := ite_t hF c
        refine rz_iinc (ls' := [some (vo x0), some (vr x1), none, some (vi x3), some (vr x4), some (vi (w32 (x5 + 1))), none, some (vi x7), some (vi x8), some (vi s0)]) dX2_drawUntilBroken_107 rfl (Nat.le_of_ble_eq_true rfl) rfl ?_
        refine rz_goto (tgt := 8) dX2_drawUntilBroken_110 (by decide) ?_
        refine ez_kp [true, true, false, true, true, true, false, false, false, false] rfl ?_
        exact hF
      · replace hF := ite_f hF c
        refine rz_iload dX2_drawUntilBroken_104 (show _ = some (some (vi s0)) from rfl) ?_
        exact rz_iret dX2_drawUntilBroken_106 trivial hF
    · replace hF := ite_t hF c
      refine rz_aload_n dX2_drawUntilBroken_85 rfl (show _ = some (some (vo x0)) from rfl) ?_
      replace hF := rdO_e hF
      obtain ⟨fs, o4, hg, hv, hF⟩ := hF
      refine rz_getf dX2_drawUntilBroken_86 fl_X2_14 hg hv ?_
      refine rz_aload dX2_drawUntilBroken_89 (show _ = some (some (vr x4)) from rfl) ?_
      refine rz_iload dX2_drawUntilBroken_91 (show _ = some (some (vi s0)) from rfl) ?_
      replace hF := rcv_e hF
      obtain ⟨fs, hg, hF⟩ := hF
      refine rz_callV (mc' := 0) (ms' := 0) (mc := 0) (ms := 0) (st := []) dX2_drawUntilBroken_93 cV_X2_68 rfl hg ⟨_, _, rfl⟩ rfl (Nat.le_of_ble_eq_true rfl) hF (fun v h5 hG => ?_)
      clear hF
      revert hG
      intro hF
      replace hF := atI_e hF
      obtain ⟨r6, rfl, hF⟩ := hF
      refine rz_pop dX2_drawUntilBroken_96 (by rintro ⟨_, q⟩; cases q) ?_
      refine rz_iload dX2_drawUntilBroken_97 (show _ = some (some (vi x7)) from rfl) ?_
      refine rz_bipush (v := (-2)) dX2_drawUntilBroken_99 (by decide) (by decide) ?_
      refine rz_icmp_eq (tgt := 107) dX2_drawUntilBroken_101 (by decide) (fun c => ?_) (fun c => ?_)
      · replace hF := ite_t hF c
        refine rz_iinc (ls' := [some (vo x0), some (vr x1), none, some (vi x3), some (vr x4), some (vi (w32 (x5 + 1))), none, some (vi x7), some (vi x8), some (vi s0)]) dX2_drawUntilBroken_107 rfl (Nat.le_of_ble_eq_true rfl) rfl ?_
        refine rz_goto (tgt := 8) dX2_drawUntilBroken_110 (by decide) ?_
        refine ez_kp [true, true, false, true, true, true, false, false, false, false] rfl ?_
        exact hF
      · replace hF := ite_f hF c
        refine rz_iload dX2_drawUntilBroken_104 (show _ = some (some (vi s0)) from rfl) ?_
        exact rz_iret dX2_drawUntilBroken_106 trivial hF
theorem vX2_drawUntilBroken_8 {G : az_G} {d : Nat} {x0 : Nat} {x1 : Option Nat} {x3 : Int} {x4 : Option Nat} {x5 : Int} {h : az_H} {Q : Option az_V → az_H → Prop} (hF : (if x3 ≤ x5 then Q (some (vi ((-2)))) h else rcv h x0 2 (cz G mX2_drawInto d 0 0 [vo x0, vr x4] h (fun v h1 => atI v (fun r2 => rdO h1 x0 2 1 (fun o3 => rcv h1 o3 9 (cz G mX9_watch d 0 0 [vo o3] h1 (fun v h4 => atV v (rdO h4 x0 2 0 (fun o5 => rcv h4 o5 7 (cz G mX7_breaksAt d 0 0 [vo o5, vr x4, vi r2, vr x1] h4 (fun v h6 => atI v (fun r7 => rdO h6 x0 2 1 (fun o8 => rcv h6 o8 9 (cz G mX9_stopWatching d 0 0 [vo o8] h6 (fun v h9 => atI v (fun r10 => (if r7 = (-2) then pX2_drawUntilBroken_68 G d x0 x1 x3 x4 x5 r7 r10 r2 h9 Q else pX2_drawUntilBroken_68 G d x0 x1 x3 x4 x5 r7 r10 (w32 (r7 + 1)) h9 Q)))))))))))))))))) : pX2_drawUntilBroken_8 G d x0 x1 x3 x4 x5 h Q := by
  unfold pX2_drawUntilBroken_8
  refine rz_iload dX2_drawUntilBroken_8 (show _ = some (some (vi x5)) from rfl) ?_
  refine rz_iload_n dX2_drawUntilBroken_10 rfl (show _ = some (some (vi x3)) from rfl) ?_
  refine rz_icmp_ge (tgt := 113) dX2_drawUntilBroken_11 (by decide) (fun c => ?_) (fun c => ?_)
  · replace hF := ite_t hF c
    refine rz_bipush (v := (-2)) dX2_drawUntilBroken_113 (by decide) (by decide) ?_
    exact rz_iret dX2_drawUntilBroken_115 trivial hF
  · replace hF := ite_f hF c
    refine rz_aload_n dX2_drawUntilBroken_14 rfl (show _ = some (some (vo x0)) from rfl) ?_
    refine rz_aload dX2_drawUntilBroken_15 (show _ = some (some (vr x4)) from rfl) ?_
    replace hF := rcv_e hF
    obtain ⟨fs, hg, hF⟩ := hF
    refine rz_callV (mc' := 0) (ms' := 0) (mc := 0) (ms := 0) (st := []) dX2_drawUntilBroken_17 cV_X2_48 rfl hg ⟨_, _, rfl⟩ rfl (Nat.le_of_ble_eq_true rfl) hF (fun v h1 hG => ?_)
    clear hF
    revert hG
    intro hF
    replace hF := atI_e hF
    obtain ⟨r2, rfl, hF⟩ := hF
    refine rz_istore (ls' := [some (vo x0), some (vr x1), none, some (vi x3), some (vr x4), some (vi x5), some (vi r2), none, none, none]) dX2_drawUntilBroken_20 (Nat.le_of_ble_eq_true rfl) rfl ?_
    refine rz_aload_n dX2_drawUntilBroken_22 rfl (show _ = some (some (vo x0)) from rfl) ?_
    replace hF := rdO_e hF
    obtain ⟨fs, o3, hg, hv, hF⟩ := hF
    refine rz_getf dX2_drawUntilBroken_23 fl_X2_24 hg hv ?_
    replace hF := rcv_e hF
    obtain ⟨fs, hg, hF⟩ := hF
    refine rz_callV (mc' := 0) (ms' := 0) (mc := 0) (ms := 0) (st := []) dX2_drawUntilBroken_26 cV_X2_52 rfl hg ⟨_, _, rfl⟩ rfl (Nat.le_of_ble_eq_true rfl) hF (fun v h4 hG => ?_)
    clear hF
    revert hG
    intro hF
    replace hF := atV_e hF
    obtain ⟨rfl, hF⟩ := hF
    refine rz_aload_n dX2_drawUntilBroken_29 rfl (show _ = some (some (vo x0)) from rfl) ?_
    replace hF := rdO_e hF
    obtain ⟨fs, o5, hg, hv, hF⟩ := hF
    refine rz_getf dX2_drawUntilBroken_30 fl_X2_20 hg hv ?_
    refine rz_aload dX2_drawUntilBroken_33 (show _ = some (some (vr x4)) from rfl) ?_
    refine rz_iload dX2_drawUntilBroken_35 (show _ = some (some (vi r2)) from rfl) ?_
    refine rz_aload_n dX2_drawUntilBroken_37 rfl (show _ = some (some (vr x1)) from rfl) ?_
    replace hF := rcv_e hF
    obtain ⟨fs, hg, hF⟩ := hF
    refine rz_callV (mc' := 0) (ms' := 0) (mc := 0) (ms := 0) (st := []) dX2_drawUntilBroken_38 cV_X2_55 rfl hg ⟨_, _, rfl⟩ rfl (Nat.le_of_ble_eq_true rfl) hF (fun v h6 hG => ?_)
    clear hF
    revert hG
    intro hF
    replace hF := atI_e hF
    obtain ⟨r7, rfl, hF⟩ := hF
    refine rz_istore (ls' := [some (vo x0), some (vr x1), none, some (vi x3), some (vr x4), some (vi x5), some (vi r2), some (vi r7), none, none]) dX2_drawUntilBroken_41 (Nat.le_of_ble_eq_true rfl) rfl ?_
    refine rz_aload_n dX2_drawUntilBroken_43 rfl (show _ = some (some (vo x0)) from rfl) ?_
    replace hF := rdO_e hF
    obtain ⟨fs, o8, hg, hv, hF⟩ := hF
    refine rz_getf dX2_drawUntilBroken_44 fl_X2_24 hg hv ?_
    replace hF := rcv_e hF
    obtain ⟨fs, hg, hF⟩ := hF
    refine rz_callV (mc' := 0) (ms' := 0) (mc := 0) (ms := 0) (st := []) dX2_drawUntilBroken_47 cV_X2_61 rfl hg ⟨_, _, rfl⟩ rfl (Nat.le_of_ble_eq_true rfl) hF (fun v h9 hG => ?_)
    clear hF
    revert hG
    intro hF
    replace hF := atI_e hF
    obtain ⟨r10, rfl, hF⟩ := hF
    refine rz_istore (ls' := [some (vo x0), some (vr x1), none, some (vi x3), some (vr x4), some (vi x5), some (vi r2), some (vi r7), some (vi r10), none]) dX2_drawUntilBroken_50 (Nat.le_of_ble_eq_true rfl) rfl ?_
    refine rz_iload dX2_drawUntilBroken_52 (show _ = some (some (vi r7)) from rfl) ?_
    refine rz_bipush (v := (-2)) dX2_drawUntilBroken_54 (by decide) (by decide) ?_
    refine rz_icmp_ne (tgt := 64) dX2_drawUntilBroken_56 (by decide) (fun c => ?_) (fun c => ?_)
    · replace hF := ite_f hF c
      refine rz_iload dX2_drawUntilBroken_64 (show _ = some (some (vi r7)) from rfl) ?_
      refine rz_iconst dX2_drawUntilBroken_66 rfl (by decide) ?_
      refine rz_iadd dX2_drawUntilBroken_67 ?_
      refine ez_kp [true, true, false, true, true, true, false, true, true, false] rfl ?_
      exact hF
    · replace hF := ite_t hF c
      refine rz_iload dX2_drawUntilBroken_59 (show _ = some (some (vi r2)) from rfl) ?_
      refine rz_goto (tgt := 68) dX2_drawUntilBroken_61 (by decide) ?_
      refine ez_kp [true, true, false, true, true, true, false, true, true, false] rfl ?_
      exact hF
theorem vX2_drawUntilBroken {G : az_G} {d : Nat} {x0 : Nat} {x1 : Option Nat} {x2 : Int} {x3 : Int} {x4 : Option Nat} {h : az_H} {Q : Option az_V → az_H → Prop} (hF : wrF h x0 2 3 (.int) (vi x2) (fun h1 => pX2_drawUntilBroken_8 G d x0 x1 x3 x4 0 h1 Q)) : cz G mX2_drawUntilBroken (d + 1) 0 0 [vo x0, vr x1, vi x2, vi x3, vr x4] h Q := by
  refine cz_of (ls := [some (vo x0), some (vr x1), some (vi x2), some (vi x3), some (vr x4), none, none, none, none, none]) (by decide +kernel) (Nat.le_of_ble_eq_true rfl) rfl ?_
  refine rz_aload_n dX2_drawUntilBroken_0 rfl (show _ = some (some (vo x0)) from rfl) ?_
  refine rz_iload_n dX2_drawUntilBroken_1 rfl (show _ = some (some (vi x2)) from rfl) ?_
  replace hF := wrF_e hF
  obtain ⟨fs, hg, hv, hF⟩ := hF
  refine rz_putf dX2_drawUntilBroken_2 fl_X2_44 (Or.inl rfl) hg hv ?_
  refine rz_iconst dX2_drawUntilBroken_5 rfl (by decide) ?_
  refine rz_istore (ls' := [some (vo x0), some (vr x1), some (vi x2), some (vi x3), some (vr x4), some (vi 0), none, none, none, none]) dX2_drawUntilBroken_6 (Nat.le_of_ble_eq_true rfl) rfl ?_
  refine ez_kp [true, true, false, true, true, true, false, false, false, false] rfl ?_
  exact hF
