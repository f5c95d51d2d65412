theorem vX3_init {G : az_G} {d : Nat} {x0 : Nat} {h : az_H} {Q : Option az_V → az_H → Prop} (hF : nwO h (cA .int (List.replicate 7600 0)) (fun No1 Nh2 => wrF Nh2 x0 3 0 (.array (.int)) (vo No1) (fun h3 => nwO h3 (cA .int (List.replicate 400 0)) (fun No4 Nh5 => wrF Nh5 x0 3 1 (.array (.int)) (vo No4) (fun h6 => nwO h6 (cA .int (List.replicate 400 0)) (fun No7 Nh8 => wrF Nh8 x0 3 2 (.array (.int)) (vo No7) (fun h9 => nwO h9 (cA .int (List.replicate 400 0)) (fun No10 Nh11 => wrF Nh11 x0 3 3 (.array (.int)) (vo No10) (fun h12 => nwO h12 (cA .int (List.replicate 1024 0)) (fun No13 Nh14 => wrF Nh14 x0 3 4 (.array (.int)) (vo No13) (fun h15 => Q none h15))))))))))) : cz G mX3_init (d + 1) 5 9824 [vo x0] h Q := by
  refine cz_of (ls := [some (vo x0)]) (by decide +kernel) (Nat.le_of_ble_eq_true rfl) rfl ?_
  refine rz_aload_n dX3_init_0 rfl (show _ = some (some (vo x0)) from rfl) ?_
  refine rz_obj dX3_init_1 k_247 k_99 k_100 (Nat.le_of_ble_eq_true rfl) ?_
  refine rz_aload_n dX3_init_4 rfl (show _ = some (some (vo x0)) from rfl) ?_
  refine rz_sipush (v := 7600) dX3_init_5 (by decide) (by decide) ?_
  refine ez_wide (mc := 4 + 1) (ms := 2224 + (7600 : Int).toNat) (Nat.le_of_ble_eq_true rfl) (by decide +kernel) ?_
  refine rz_newa dX3_init_8 rfl (by decide) k_155 (by decide) (by decide) ?_
  replace hF := nwO_e hF
  replace hF := wrF_e hF
  obtain ⟨fs, hg, hv, hF⟩ := hF
  refine rz_putf dX3_init_10 fl_X3_11 (Or.inr rfl) hg hv ?_
  refine rz_aload_n dX3_init_13 rfl (show _ = some (some (vo x0)) from rfl) ?_
  refine rz_sipush (v := 400) dX3_init_14 (by decide) (by decide) ?_
  refine ez_wide (mc := 3 + 1) (ms := 1824 + (400 : Int).toNat) (Nat.le_of_ble_eq_true rfl) (by decide +kernel) ?_
  refine rz_newa dX3_init_17 rfl (by decide) k_155 (by decide) (by decide) ?_
  replace hF := nwO_e hF
  replace hF := wrF_e hF
  obtain ⟨fs, hg, hv, hF⟩ := hF
  refine rz_putf dX3_init_19 fl_X3_15 (Or.inr rfl) hg hv ?_
  refine rz_aload_n dX3_init_22 rfl (show _ = some (some (vo x0)) from rfl) ?_
  refine rz_sipush (v := 400) dX3_init_23 (by decide) (by decide) ?_
  refine ez_wide (mc := 2 + 1) (ms := 1424 + (400 : Int).toNat) (Nat.le_of_ble_eq_true rfl) (by decide +kernel) ?_
  refine rz_newa dX3_init_26 rfl (by decide) k_155 (by decide) (by decide) ?_
  replace hF := nwO_e hF
  replace hF := wrF_e hF
  obtain ⟨fs, hg, hv, hF⟩ := hF
  refine rz_putf dX3_init_28 fl_X3_18 (Or.inr rfl) hg hv ?_
  refine rz_aload_n dX3_init_31 rfl (show _ = some (some (vo x0)) from rfl) ?_
  refine rz_sipush (v := 400) dX3_init_32 (by decide) (by decide) ?_
  refine ez_wide (mc := 1 + 1) (ms := 1024 + (400 : Int).toNat) (Nat.le_of_ble_eq_true rfl) (by decide +kernel) ?_
  refine rz_newa dX3_init_35 rfl (by decide) k_155 (by decide) (by decide) ?_
  replace hF := nwO_e hF
  replace hF := wrF_e hF
  obtain ⟨fs, hg, hv, hF⟩ := hF
  refine rz_putf dX3_init_37 fl_X3_21 (Or.inr rfl) hg hv ?_
  refine rz_aload_n dX3_init_40 rfl (show _ = some (some (vo x0)) from rfl) ?_
  refine rz_sipush (v := 1024) dX3_init_41 (by decide) (by decide) ?_
  refine ez_wide (mc := 0 + 1) (ms := 0 + (1024 : Int).toNat) (Nat.le_of_ble_eq_true rfl) (by decide +kernel) ?_
  refine rz_newa dX3_init_44 rfl (by decide) k_155 (by decide) (by decide) ?_
  replace hF := nwO_e hF
  replace hF := wrF_e hF
  obtain ⟨fs, hg, hv, hF⟩ := hF
  refine rz_putf dX3_init_46 fl_X3_24 (Or.inr rfl) hg hv ?_
  exact rz_vret dX3_init_49 trivial hF
theorem vX3_size {G : az_G} {d : Nat} {x0 : Nat} {h : az_H} {Q : Option az_V → az_H → Prop} (hF : rdI h x0 3 5 (fun f1 => Q (some (vi f1)) h)) : cz G mX3_size d 0 0 [vo x0] h Q := by
  refine cz_of (ls := [some (vo x0)]) (by decide +kernel) (Nat.le_of_ble_eq_true rfl) rfl ?_
  refine rz_aload_n dX3_size_0 rfl (show _ = some (some (vo x0)) from rfl) ?_
  replace hF := rdI_e hF
  obtain ⟨fs, f1, hg, hv, hF⟩ := hF
  refine rz_getf dX3_size_1 fl_X3_27 hg hv ?_
  exact rz_iret dX3_size_4 trivial hF
theorem vX3_isFull {G : az_G} {d : Nat} {x0 : Nat} {h : az_H} {Q : Option az_V → az_H → Prop} (hF : rdI h x0 3 5 (fun f1 => (if f1 < 400 then Q (some (vi 0)) h else Q (some (vi 1)) h))) : cz G mX3_isFull d 0 0 [vo x0] h Q := by
  refine cz_of (ls := [some (vo x0)]) (by decide +kernel) (Nat.le_of_ble_eq_true rfl) rfl ?_
  refine rz_aload_n dX3_isFull_0 rfl (show _ = some (some (vo x0)) from rfl) ?_
  replace hF := rdI_e hF
  obtain ⟨fs, f1, hg, hv, hF⟩ := hF
  refine rz_getf dX3_isFull_1 fl_X3_27 hg hv ?_
  refine rz_sipush (v := 400) dX3_isFull_4 (by decide) (by decide) ?_
  refine rz_icmp_lt (tgt := 14) dX3_isFull_7 (by decide) (fun c => ?_) (fun c => ?_)
  · replace hF := ite_t hF c
    refine rz_iconst dX3_isFull_14 rfl (by decide) ?_
    exact rz_iret dX3_isFull_15 (Or.inl rfl) hF
  · replace hF := ite_f hF c
    refine rz_iconst dX3_isFull_10 rfl (by decide) ?_
    refine rz_goto (tgt := 15) dX3_isFull_11 (by decide) ?_
    exact rz_iret dX3_isFull_15 (Or.inr rfl) hF
theorem vX3_clear {G : az_G} {d : Nat} {x0 : Nat} {h : az_H} {Q : Option az_V → az_H → Prop} (hF : rdO h x0 3 4 (fun o1 => cz G mJ7_fill_53178 d 0 0 [vo o1, vi 0] h (fun v h2 => atV v (wrF h2 x0 3 5 (.int) (vi 0) (fun h3 => Q none h3))))) : cz G mX3_clear (d + 1) 0 0 [vo x0] h Q := by
  refine cz_of (ls := [some (vo x0)]) (by decide +kernel) (Nat.le_of_ble_eq_true rfl) rfl ?_
  refine rz_aload_n dX3_clear_0 rfl (show _ = some (some (vo x0)) from rfl) ?_
  replace hF := rdO_e hF
  obtain ⟨fs, o1, hg, hv, hF⟩ := hF
  refine rz_getf dX3_clear_1 fl_X3_24 hg hv ?_
  refine rz_iconst dX3_clear_4 rfl (by decide) ?_
  refine rz_callS (mc' := 0) (ms' := 0) (mc := 0) (ms := 0) (st := []) dX3_clear_5 cS_X3_31 rfl rfl (Nat.le_of_ble_eq_true rfl) hF (fun v h2 hG => ?_)
  clear hF
  revert hG
  intro hF
  replace hF := atV_e hF
  obtain ⟨rfl, hF⟩ := hF
  refine rz_aload_n dX3_clear_8 rfl (show _ = some (some (vo x0)) from rfl) ?_
  refine rz_iconst dX3_clear_9 rfl (by decide) ?_
  replace hF := wrF_e hF
  obtain ⟨fs, hg, hv, hF⟩ := hF
  refine rz_putf dX3_clear_10 fl_X3_27 (Or.inl rfl) hg hv ?_
  exact rz_vret dX3_clear_13 trivial hF
theorem vX3_depth {G : az_G} {d : Nat} {x0 : Nat} {x1 : Int} {h : az_H} {Q : Option az_V → az_H → Prop} (hF : (if x1 < 0 then Q (some (vi 0)) h else rdI h x0 3 5 (fun f1 => (if f1 ≤ x1 then Q (some (vi 0)) h else rdO h x0 3 3 (fun o2 => ldI h o2 (.int) x1 (fun e3 => Q (some (vi e3)) h)))))) : cz G mX3_depth d 0 0 [vo x0, vi x1] h Q := by
  refine cz_of (ls := [some (vo x0), some (vi x1)]) (by decide +kernel) (Nat.le_of_ble_eq_true rfl) rfl ?_
  refine rz_iload_n dX3_depth_0 rfl (show _ = some (some (vi x1)) from rfl) ?_
  refine rz_if_lt (tgt := 21) dX3_depth_1 (by decide) (fun c => ?_) (fun c => ?_)
  · replace hF := ite_t hF c
    refine rz_iconst dX3_depth_21 rfl (by decide) ?_
    exact rz_iret dX3_depth_22 trivial hF
  · replace hF := ite_f hF c
    refine rz_iload_n dX3_depth_4 rfl (show _ = some (some (vi x1)) from rfl) ?_
    refine rz_aload_n dX3_depth_5 rfl (show _ = some (some (vo x0)) from rfl) ?_
    replace hF := rdI_e hF
    obtain ⟨fs, f1, hg, hv, hF⟩ := hF
    refine rz_getf dX3_depth_6 fl_X3_27 hg hv ?_
    refine rz_icmp_ge (tgt := 21) dX3_depth_9 (by decide) (fun c => ?_) (fun c => ?_)
    · replace hF := ite_t hF c
      refine rz_iconst dX3_depth_21 rfl (by decide) ?_
      exact rz_iret dX3_depth_22 trivial hF
    · replace hF := ite_f hF c
      refine rz_aload_n dX3_depth_12 rfl (show _ = some (some (vo x0)) from rfl) ?_
      replace hF := rdO_e hF
      obtain ⟨fs, o2, hg, hv, hF⟩ := hF
      refine rz_getf dX3_depth_13 fl_X3_21 hg hv ?_
      refine rz_iload_n dX3_depth_16 rfl (show _ = some (some (vi x1)) from rfl) ?_
      replace hF := ldI_e hF
      obtain ⟨xs, hg, h0, h1, hF⟩ := hF
      refine rz_iald dX3_depth_17 hg h0 h1 ?_
      generalize xs.getD _ 0 = e3 at hF ⊢
      refine rz_goto (tgt := 22) dX3_depth_18 (by decide) ?_
      exact rz_iret dX3_depth_22 trivial hF
theorem vX4_load {G : az_G} {d : Nat} {x0 : Nat} {x1 : Option Nat} {x2 : Int} {h : az_H} {Q : Option az_V → az_H → Prop} (hF : (if x2 < 0 then Q none h else nnR x1 (fun a1 => aln h a1 (fun n2 => (if w32 (n2 - 19) < x2 then Q none h else rdO h x0 4 2 (fun o3 => acp h a1 o3 x2 0 19 (fun h4 => Q none h4))))))) : cz G mX4_load (d + 1) 0 0 [vo x0, vr x1, vi x2] h Q := by
  refine cz_of (ls := [some (vo x0), some (vr x1), some (vi x2)]) (by decide +kernel) (Nat.le_of_ble_eq_true rfl) rfl ?_
  refine rz_iload_n dX4_load_0 rfl (show _ = some (some (vi x2)) from rfl) ?_
  refine rz_if_lt (tgt := 25) dX4_load_1 (by decide) (fun c => ?_) (fun c => ?_)
  · replace hF := ite_t hF c
    exact rz_vret dX4_load_25 trivial hF
  · replace hF := ite_f hF c
    refine rz_iload_n dX4_load_4 rfl (show _ = some (some (vi x2)) from rfl) ?_
    refine rz_aload_n dX4_load_5 rfl (show _ = some (some (vr x1)) from rfl) ?_
    replace hF := nnR_e hF
    obtain ⟨a1, ea1, hF⟩ := hF
    subst ea1
    replace hF := aln_e hF
    obtain ⟨n2, hg, hr, hF⟩ := hF
    refine rz_alen dX4_load_6 hg hr ?_
    refine rz_bipush (v := 19) dX4_load_7 (by decide) (by decide) ?_
    refine rz_isub dX4_load_9 ?_
    refine rz_icmp_gt (tgt := 25) dX4_load_10 (by decide) (fun c => ?_) (fun c => ?_)
    · replace hF := ite_t hF c
      exact rz_vret dX4_load_25 trivial hF
    · replace hF := ite_f hF c
      refine rz_aload_n dX4_load_13 rfl (show _ = some (some (vo a1)) from rfl) ?_
      refine rz_iload_n dX4_load_14 rfl (show _ = some (some (vi x2)) from rfl) ?_
      refine rz_aload_n dX4_load_15 rfl (show _ = some (some (vo x0)) from rfl) ?_
      replace hF := rdO_e hF
      obtain ⟨fs, o3, hg, hv, hF⟩ := hF
      refine rz_getf dX4_load_16 fl_X4_20 hg hv ?_
      refine rz_iconst dX4_load_19 rfl (by decide) ?_
      refine rz_bipush (v := 19) dX4_load_20 (by decide) (by decide) ?_
      replace hF := acp_e hF
      obtain ⟨xs, ys, hg0, hg1, g0, g1, g2, g3, g4, hF⟩ := hF
      refine rz_acpy dX4_load_22 k_722 k_652 k_651 k_92 hg0 hg1 g0 g1 g2 g3 g4 (Nat.le_of_ble_eq_true rfl) ?_
      exact rz_vret dX4_load_25 trivial hF
theorem vX3_enter {G : az_G} {d : Nat} {x0 : Nat} {x1 : Int} {x2 : Option Nat} {h : az_H} {Q : Option az_V → az_H → Prop} (hF : (if x1 < 0 then Q none h else rdI h x0 3 5 (fun f1 => (if f1 ≤ x1 then Q none h else rdO h x0 3 0 (fun o2 => nnR x2 (fun a4 => rcv h a4 4 (cz G mX4_load d 0 0 [vo a4, vo o2, vi (w32 (x1 * 19))] h (fun v h3 => atV v (Q none h3))))))))) : cz G mX3_enter (d + 1) 0 0 [vo x0, vi x1, vr x2] h Q := by
  refine cz_of (ls := [some (vo x0), some (vi x1), some (vr x2)]) (by decide +kernel) (Nat.le_of_ble_eq_true rfl) rfl ?_
  refine rz_iload_n dX3_enter_0 rfl (show _ = some (some (vi x1)) from rfl) ?_
  refine rz_if_lt (tgt := 24) dX3_enter_1 (by decide) (fun c => ?_) (fun c => ?_)
  · replace hF := ite_t hF c
    exact rz_vret dX3_enter_24 trivial hF
  · replace hF := ite_f hF c
    refine rz_iload_n dX3_enter_4 rfl (show _ = some (some (vi x1)) from rfl) ?_
    refine rz_aload_n dX3_enter_5 rfl (show _ = some (some (vo x0)) from rfl) ?_
    replace hF := rdI_e hF
    obtain ⟨fs, f1, hg, hv, hF⟩ := hF
    refine rz_getf dX3_enter_6 fl_X3_27 hg hv ?_
    refine rz_icmp_ge (tgt := 24) dX3_enter_9 (by decide) (fun c => ?_) (fun c => ?_)
    · replace hF := ite_t hF c
      exact rz_vret dX3_enter_24 trivial hF
    · replace hF := ite_f hF c
      refine rz_aload_n dX3_enter_12 rfl (show _ = some (some (vr x2)) from rfl) ?_
      refine rz_aload_n dX3_enter_13 rfl (show _ = some (some (vo x0)) from rfl) ?_
      replace hF := rdO_e hF
      obtain ⟨fs, o2, hg, hv, hF⟩ := hF
      refine rz_getf dX3_enter_14 fl_X3_11 hg hv ?_
      refine rz_iload_n dX3_enter_17 rfl (show _ = some (some (vi x1)) from rfl) ?_
      refine rz_bipush (v := 19) dX3_enter_18 (by decide) (by decide) ?_
      refine rz_imul dX3_enter_20 ?_
      replace hF := nnR_e hF
      obtain ⟨a4, ea4, hF⟩ := hF
      subst ea4
      replace hF := rcv_e hF
      obtain ⟨fs, hg, hF⟩ := hF
      refine rz_callV (mc' := 0) (ms' := 0) (mc := 0) (ms := 0) (st := []) dX3_enter_21 cV_X3_37 rfl hg ⟨_, _, rfl⟩ rfl (Nat.le_of_ble_eq_true rfl) hF (fun v h3 hG => ?_)
      clear hF
      revert hG
      intro hF
      replace hF := atV_e hF
      obtain ⟨rfl, hF⟩ := hF
      exact rz_vret dX3_enter_24 trivial hF
def pX4_hash_4 (G : az_G) (d : Nat) (x0 : Nat) (x1 : Int) (x2 : Int) (h : az_H) (Q : Option az_V → az_H → Prop) : Prop := ez G mX4_hash d 0 0 4 [some (vo x0), some (vi x1), some (vi x2)] [] h Q
theorem vX4_hash_4 {G : az_G} {d : Nat} {x0 : Nat} {x1 : Int} {x2 : Int} {h : az_H} {Q : Option az_V → az_H → Prop} (hF : (if 19 ≤ x2 then Q (some (vi (bXor (bXor x1 (bUshr x1 10)) (bUshr x1 20)))) h else rdO h x0 4 2 (fun o1 => ldI h o1 (.int) x2 (fun e2 => pX4_hash_4 G d x0 (w32 ((w32 (x1 * 31)) + e2)) (w32 (x2 + 1)) h Q)))) : pX4_hash_4 G d x0 x1 x2 h Q := by
  unfold pX4_hash_4
  refine rz_iload_n dX4_hash_4 rfl (show _ = some (some (vi x2)) from rfl) ?_
  refine rz_bipush (v := 19) dX4_hash_5 (by decide) (by decide) ?_
  refine rz_icmp_ge (tgt := 28) dX4_hash_7 (by decide) (fun c => ?_) (fun c => ?_)
  · replace hF := ite_t hF c
    refine rz_iload_n dX4_hash_28 rfl (show _ = some (some (vi x1)) from rfl) ?_
    refine rz_iload_n dX4_hash_29 rfl (show _ = some (some (vi x1)) from rfl) ?_
    refine rz_bipush (v := 10) dX4_hash_30 (by decide) (by decide) ?_
    refine rz_iushr dX4_hash_32 ?_
    refine rz_ixor dX4_hash_33 ?_
    refine rz_iload_n dX4_hash_34 rfl (show _ = some (some (vi x1)) from rfl) ?_
    refine rz_bipush (v := 20) dX4_hash_35 (by decide) (by decide) ?_
    refine rz_iushr dX4_hash_37 ?_
    refine rz_ixor dX4_hash_38 ?_
    exact rz_iret dX4_hash_39 trivial hF
  · replace hF := ite_f hF c
    refine rz_iload_n dX4_hash_10 rfl (show _ = some (some (vi x1)) from rfl) ?_
    refine rz_bipush (v := 31) dX4_hash_11 (by decide) (by decide) ?_
    refine rz_imul dX4_hash_13 ?_
    refine rz_aload_n dX4_hash_14 rfl (show _ = some (some (vo x0)) from rfl) ?_
    replace hF := rdO_e hF
    obtain ⟨fs, o1, hg, hv, hF⟩ := hF
    refine rz_getf dX4_hash_15 fl_X4_20 hg hv ?_
    refine rz_iload_n dX4_hash_18 rfl (show _ = some (some (vi x2)) from rfl) ?_
    replace hF := ldI_e hF
    obtain ⟨xs, hg, h0, h1, hF⟩ := hF
    refine rz_iald dX4_hash_19 hg h0 h1 ?_
    generalize xs.getD _ 0 = e2 at hF ⊢
    refine rz_iadd dX4_hash_20 ?_
    refine rz_istore_n (ls' := [some (vo x0), some (vi (w32 ((w32 (x1 * 31)) + e2))), some (vi x2)]) dX4_hash_21 rfl (Nat.le_of_ble_eq_true rfl) rfl ?_
    refine rz_iinc (ls' := [some (vo x0), some (vi (w32 ((w32 (x1 * 31)) + e2))), some (vi (w32 (x2 + 1)))]) dX4_hash_22 rfl (Nat.le_of_ble_eq_true rfl) rfl ?_
    refine rz_goto (tgt := 4) dX4_hash_25 (by decide) ?_
    exact hF
theorem vX4_hash {G : az_G} {d : Nat} {x0 : Nat} {h : az_H} {Q : Option az_V → az_H → Prop} (hF : pX4_hash_4 G d x0 0 0 h Q) : cz G mX4_hash d 0 0 [vo x0] h Q := by
  refine cz_of (ls := [some (vo x0), none, none]) (by decide +kernel) (Nat.le_of_ble_eq_true rfl) rfl ?_
  refine rz_iconst dX4_hash_0 rfl (by decide) ?_
  refine rz_istore_n (ls' := [some (vo x0), some (vi 0), none]) dX4_hash_1 rfl (Nat.le_of_ble_eq_true rfl) rfl ?_
  refine rz_iconst dX4_hash_2 rfl (by decide) ?_
  refine rz_istore_n (ls' := [some (vo x0), some (vi 0), some (vi 0)]) dX4_hash_3 rfl (Nat.le_of_ble_eq_true rfl) rfl ?_
  exact hF
def pX4_isAt_17 (G : az_G) (d : Nat) (x0 : Nat) (x1 : Option Nat) (x2 : Int) (x3 : Int) (h : az_H) (Q : Option az_V → az_H → Prop) : Prop := ez G mX4_isAt d 0 0 17 [some (vo x0), some (vr x1), some (vi x2), some (vi x3)] [] h Q
theorem vX4_isAt_17 {G : az_G} {d : Nat} {x0 : Nat} {x1 : Option Nat} {x2 : Int} {x3 : Int} {h : az_H} {Q : Option az_V → az_H → Prop} (hF : (if 19 ≤ x3 then Q (some (vi 1)) h else nnR x1 (fun a1 => ldI h a1 (.int) (w32 (x2 + x3)) (fun e2 => rdO h x0 4 2 (fun o3 => ldI h o3 (.int) x3 (fun e4 => (if e2 = e4 then pX4_isAt_17 G d x0 (some a1) x2 (w32 (x3 + 1)) h Q else Q (some (vi 0)) h))))))) : pX4_isAt_17 G d x0 x1 x2 x3 h Q := by
  unfold pX4_isAt_17
  refine rz_iload_n dX4_isAt_17 rfl (show _ = some (some (vi x3)) from rfl) ?_
  refine rz_bipush (v := 19) dX4_isAt_18 (by decide) (by decide) ?_
  refine rz_icmp_ge (tgt := 45) dX4_isAt_20 (by decide) (fun c => ?_) (fun c => ?_)
  · replace hF := ite_t hF c
    refine rz_iconst dX4_isAt_45 rfl (by decide) ?_
    exact rz_iret dX4_isAt_46 (Or.inr rfl) hF
  · replace hF := ite_f hF c
    refine rz_aload_n dX4_isAt_23 rfl (show _ = some (some (vr x1)) from rfl) ?_
    refine rz_iload_n dX4_isAt_24 rfl (show _ = some (some (vi x2)) from rfl) ?_
    refine rz_iload_n dX4_isAt_25 rfl (show _ = some (some (vi x3)) from rfl) ?_
    refine rz_iadd dX4_isAt_26 ?_
    replace hF := nnR_e hF
    obtain ⟨a1, ea1, hF⟩ := hF
    subst ea1
    replace hF := ldI_e hF
    obtain ⟨xs, hg, h0, h1, hF⟩ := hF
    refine rz_iald dX4_isAt_27 hg h0 h1 ?_
    generalize xs.getD _ 0 = e2 at hF ⊢
    refine rz_aload_n dX4_isAt_28 rfl (show _ = some (some (vo x0)) from rfl) ?_
    replace hF := rdO_e hF
    obtain ⟨fs, o3, hg, hv, hF⟩ := hF
    refine rz_getf dX4_isAt_29 fl_X4_20 hg hv ?_
    refine rz_iload_n dX4_isAt_32 rfl (show _ = some (some (vi x3)) from rfl) ?_
    replace hF := ldI_e hF
    obtain ⟨xs, hg, h0, h1, hF⟩ := hF
    refine rz_iald dX4_isAt_33 hg h0 h1 ?_
    generalize xs.getD _ 0 = e4 at hF ⊢
    refine rz_icmp_eq (tgt := 39) dX4_isAt_34 (by decide) (fun c => ?_) (fun c => ?_)
    · replace hF := ite_t hF c
      refine rz_iinc (ls' := [some (vo x0), some (vo a1), some (vi x2), some (vi (w32 (x3 + 1)))]) dX4_isAt_39 rfl (Nat.le_of_ble_eq_true rfl) rfl ?_
      refine rz_goto (tgt := 17) dX4_isAt_42 (by decide) ?_
      exact hF
    · replace hF := ite_f hF c
      refine rz_iconst dX4_isAt_37 rfl (by decide) ?_
      exact rz_iret dX4_isAt_38 (Or.inl rfl) hF
theorem vX4_isAt {G : az_G} {d : Nat} {x0 : Nat} {x1 : Option Nat} {x2 : Int} {h : az_H} {Q : Option az_V → az_H → Prop} (hF : (if x2 < 0 then Q (some (vi 0)) h else nnR x1 (fun a1 => aln h a1 (fun n2 => (if x2 ≤ w32 (n2 - 19) then pX4_isAt_17 G d x0 (some a1) x2 0 h Q else Q (some (vi 0)) h))))) : cz G mX4_isAt d 0 0 [vo x0, vr x1, vi x2] h Q := by
  refine cz_of (ls := [some (vo x0), some (vr x1), some (vi x2), none]) (by decide +kernel) (Nat.le_of_ble_eq_true rfl) rfl ?_
  refine rz_iload_n dX4_isAt_0 rfl (show _ = some (some (vi x2)) from rfl) ?_
  refine rz_if_lt (tgt := 13) dX4_isAt_1 (by decide) (fun c => ?_) (fun c => ?_)
  · replace hF := ite_t hF c
    refine rz_iconst dX4_isAt_13 rfl (by decide) ?_
    exact rz_iret dX4_isAt_14 (Or.inl rfl) hF
  · replace hF := ite_f hF c
    refine rz_iload_n dX4_isAt_4 rfl (show _ = some (some (vi x2)) from rfl) ?_
    refine rz_aload_n dX4_isAt_5 rfl (show _ = some (some (vr x1)) from rfl) ?_
    replace hF := nnR_e hF
    obtain ⟨a1, ea1, hF⟩ := hF
    subst ea1
    replace hF := aln_e hF
    obtain ⟨n2, hg, hr, hF⟩ := hF
    refine rz_alen dX4_isAt_6 hg hr ?_
    refine rz_bipush (v := 19) dX4_isAt_7 (by decide) (by decide) ?_
    refine rz_isub dX4_isAt_9 ?_
    refine rz_icmp_le (tgt := 15) dX4_isAt_10 (by decide) (fun c => ?_) (fun c => ?_)
    · replace hF := ite_t hF c
      refine rz_iconst dX4_isAt_15 rfl (by decide) ?_
      refine rz_istore_n (ls' := [some (vo x0), some (vo a1), some (vi x2), some (vi 0)]) dX4_isAt_16 rfl (Nat.le_of_ble_eq_true rfl) rfl ?_
      exact hF
    · replace hF := ite_f hF c
      refine rz_iconst dX4_isAt_13 rfl (by decide) ?_
      exact rz_iret dX4_isAt_14 (Or.inl rfl) hF
def pX3_slotFor_7 (G : az_G) (d : Nat) (x0 : Nat) (x1 : Option Nat) (x2 : Int) (x3 : Int) (h : az_H) (Q : Option az_V → az_H → Prop) : Prop := ez G mX3_slotFor (d + 1) 0 0 7 [some (vo x0), some (vr x1), some (vi x2), some (vi x3), none, none] [] h Q
theorem vX3_slotFor_7 {G : az_G} {d : Nat} {x0 : Nat} {x1 : Option Nat} {x2 : Int} {x3 : Int} {h : az_H} {Q : Option az_V → az_H → Prop} (hF : (if 1024 ≤ x3 then Q (some (vi ((-1)))) h else rdO h x0 3 4 (fun o1 => ldI h o1 (.int) (bAnd (w32 (x2 + x3)) 1023) (fun e2 => (if 0 ≤ w32 (e2 - 1) then rdO h x0 3 0 (fun o3 => nnR x1 (fun a5 => rcv h a5 4 (cz G mX4_isAt d 0 0 [vo a5, vo o3, vi (w32 ((w32 (e2 - 1)) * 19))] h (fun v h4 => atI v (fun r6 => (if r6 = 0 then pX3_slotFor_7 G d x0 (some a5) x2 (w32 (x3 + 1)) h4 Q else Q (some (vi ((-1)))) h4)))))) else Q (some (vi (bAnd (w32 (x2 + x3)) 1023))) h))))) : pX3_slotFor_7 G d x0 x1 x2 x3 h Q := by
  unfold pX3_slotFor_7
  refine rz_iload_n dX3_slotFor_7 rfl (show _ = some (some (vi x3)) from rfl) ?_
  refine rz_sipush (v := 1024) dX3_slotFor_8 (by decide) (by decide) ?_
  refine rz_icmp_ge (tgt := 66) dX3_slotFor_11 (by decide) (fun c => ?_) (fun c => ?_)
  · replace hF := ite_t hF c
    refine rz_iconst dX3_slotFor_66 rfl (by decide) ?_
    exact rz_iret dX3_slotFor_67 trivial hF
  · replace hF := ite_f hF c
    refine rz_iload_n dX3_slotFor_14 rfl (show _ = some (some (vi x2)) from rfl) ?_
    refine rz_iload_n dX3_slotFor_15 rfl (show _ = some (some (vi x3)) from rfl) ?_
    refine rz_iadd dX3_slotFor_16 ?_
    refine rz_sipush (v := 1023) dX3_slotFor_17 (by decide) (by decide) ?_
    refine rz_iand dX3_slotFor_20 ?_
    refine rz_istore (ls' := [some (vo x0), some (vr x1), some (vi x2), some (vi x3), some (vi (bAnd (w32 (x2 + x3)) 1023)), none]) dX3_slotFor_21 (Nat.le_of_ble_eq_true rfl) rfl ?_
    refine rz_aload_n dX3_slotFor_23 rfl (show _ = some (some (vo x0)) from rfl) ?_
    replace hF := rdO_e hF
    obtain ⟨fs, o1, hg, hv, hF⟩ := hF
    refine rz_getf dX3_slotFor_24 fl_X3_24 hg hv ?_
    refine rz_iload dX3_slotFor_27 (show _ = some (some (vi (bAnd (w32 (x2 + x3)) 1023))) from rfl) ?_
    replace hF := ldI_e hF
    obtain ⟨xs, hg, h0, h1, hF⟩ := hF
    refine rz_iald dX3_slotFor_29 hg h0 h1 ?_
    generalize xs.getD _ 0 = e2 at hF ⊢
    refine rz_iconst dX3_slotFor_30 rfl (by decide) ?_
    refine rz_isub dX3_slotFor_31 ?_
    refine rz_istore (ls' := [some (vo x0), some (vr x1), some (vi x2), some (vi x3), some (vi (bAnd (w32 (x2 + x3)) 1023)), some (vi (w32 (e2 - 1)))]) dX3_slotFor_32 (Nat.le_of_ble_eq_true rfl) rfl ?_
    refine rz_iload dX3_slotFor_34 (show _ = some (some (vi (w32 (e2 - 1)))) from rfl) ?_
    refine rz_if_ge (tgt := 42) dX3_slotFor_36 (by decide) (fun c => ?_) (fun c => ?_)
    · replace hF := ite_t hF c
      refine rz_aload_n dX3_slotFor_42 rfl (show _ = some (some (vr x1)) from rfl) ?_
      refine rz_aload_n dX3_slotFor_43 rfl (show _ = some (some (vo x0)) from rfl) ?_
      replace hF := rdO_e hF
      obtain ⟨fs, o3, hg, hv, hF⟩ := hF
      refine rz_getf dX3_slotFor_44 fl_X3_11 hg hv ?_
      refine rz_iload dX3_slotFor_47 (show _ = some (some (vi (w32 (e2 - 1)))) from rfl) ?_
      refine rz_bipush (v := 19) dX3_slotFor_49 (by decide) (by decide) ?_
      refine rz_imul dX3_slotFor_51 ?_
      replace hF := nnR_e hF
      obtain ⟨a5, ea5, hF⟩ := hF
      subst ea5
      replace hF := rcv_e hF
      obtain ⟨fs, hg, hF⟩ := hF
      refine rz_callV (mc' := 0) (ms' := 0) (mc := 0) (ms := 0) (st := []) dX3_slotFor_52 cV_X3_46 rfl hg ⟨_, _, rfl⟩ rfl (Nat.le_of_ble_eq_true rfl) hF (fun v h4 hG => ?_)
      clear hF
      revert hG
      intro hF
      replace hF := atI_e hF
      obtain ⟨r6, rfl, hF⟩ := hF
      refine rz_if_eq (tgt := 60) dX3_slotFor_55 (by decide) (fun c => ?_) (fun c => ?_)
      · replace hF := ite_t hF c
        refine rz_iinc (ls' := [some (vo x0), some (vo a5), some (vi x2), some (vi (w32 (x3 + 1))), some (vi (bAnd (w32 (x2 + x3)) 1023)), some (vi (w32 (e2 - 1)))]) dX3_slotFor_60 rfl (Nat.le_of_ble_eq_true rfl) rfl ?_
        refine rz_goto (tgt := 7) dX3_slotFor_63 (by decide) ?_
        refine ez_kp [true, true, true, true, false, false] rfl ?_
        exact hF
      · replace hF := ite_f hF c
        refine rz_iconst dX3_slotFor_58 rfl (by decide) ?_
        exact rz_iret dX3_slotFor_59 trivial hF
    · replace hF := ite_f hF c
      refine rz_iload dX3_slotFor_39 (show _ = some (some (vi (bAnd (w32 (x2 + x3)) 1023))) from rfl) ?_
      exact rz_iret dX3_slotFor_41 trivial hF
theorem vX3_slotFor {G : az_G} {d : Nat} {x0 : Nat} {x1 : Option Nat} {h : az_H} {Q : Option az_V → az_H → Prop} (hF : nnR x1 (fun a2 => rcv h a2 4 (cz G mX4_hash d 0 0 [vo a2] h (fun v h1 => atI v (fun r3 => pX3_slotFor_7 G d x0 (some a2) r3 0 h1 Q))))) : cz G mX3_slotFor (d + 1) 0 0 [vo x0, vr x1] h Q := by
  refine cz_of (ls := [some (vo x0), some (vr x1), none, none, none, none]) (by decide +kernel) (Nat.le_of_ble_eq_true rfl) rfl ?_
  refine rz_aload_n dX3_slotFor_0 rfl (show _ = some (some (vr x1)) from rfl) ?_
  replace hF := nnR_e hF
  obtain ⟨a2, ea2, hF⟩ := hF
  subst ea2
  replace hF := rcv_e hF
  obtain ⟨fs, hg, hF⟩ := hF
  refine rz_callV (mc' := 0) (ms' := 0) (mc := 0) (ms := 0) (st := []) dX3_slotFor_1 cV_X3_42 rfl hg ⟨_, _, rfl⟩ rfl (Nat.le_of_ble_eq_true rfl) hF (fun v h1 hG => ?_)
  clear hF
  revert hG
  intro hF
  replace hF := atI_e hF
  obtain ⟨r3, rfl, hF⟩ := hF
  refine rz_istore_n (ls' := [some (vo x0), some (vo a2), some (vi r3), none, none, none]) dX3_slotFor_4 rfl (Nat.le_of_ble_eq_true rfl) rfl ?_
  refine rz_iconst dX3_slotFor_5 rfl (by decide) ?_
  refine rz_istore_n (ls' := [some (vo x0), some (vo a2), some (vi r3), some (vi 0), none, none]) dX3_slotFor_6 rfl (Nat.le_of_ble_eq_true rfl) rfl ?_
  exact hF
theorem vX4_save {G : az_G} {d : Nat} {x0 : Nat} {x1 : Option Nat} {x2 : Int} {h : az_H} {Q : Option az_V → az_H → Prop} (hF : (if x2 < 0 then Q none h else nnR x1 (fun a1 => aln h a1 (fun n2 => (if w32 (n2 - 19) < x2 then Q none h else rdO h x0 4 2 (fun o3 => acp h o3 a1 0 x2 19 (fun h4 => Q none h4))))))) : cz G mX4_save (d + 1) 0 0 [vo x0, vr x1, vi x2] h Q := by
  refine cz_of (ls := [some (vo x0), some (vr x1), some (vi x2)]) (by decide +kernel) (Nat.le_of_ble_eq_true rfl) rfl ?_
  refine rz_iload_n dX4_save_0 rfl (show _ = some (some (vi x2)) from rfl) ?_
  refine rz_if_lt (tgt := 25) dX4_save_1 (by decide) (fun c => ?_) (fun c => ?_)
  · replace hF := ite_t hF c
    exact rz_vret dX4_save_25 trivial hF
  · replace hF := ite_f hF c
    refine rz_iload_n dX4_save_4 rfl (show _ = some (some (vi x2)) from rfl) ?_
    refine rz_aload_n dX4_save_5 rfl (show _ = some (some (vr x1)) from rfl) ?_
    replace hF := nnR_e hF
    obtain ⟨a1, ea1, hF⟩ := hF
    subst ea1
    replace hF := aln_e hF
    obtain ⟨n2, hg, hr, hF⟩ := hF
    refine rz_alen dX4_save_6 hg hr ?_
    refine rz_bipush (v := 19) dX4_save_7 (by decide) (by decide) ?_
    refine rz_isub dX4_save_9 ?_
    refine rz_icmp_gt (tgt := 25) dX4_save_10 (by decide) (fun c => ?_) (fun c => ?_)
    · replace hF := ite_t hF c
      exact rz_vret dX4_save_25 trivial hF
    · replace hF := ite_f hF c
      refine rz_aload_n dX4_save_13 rfl (show _ = some (some (vo x0)) from rfl) ?_
      replace hF := rdO_e hF
      obtain ⟨fs, o3, hg, hv, hF⟩ := hF
      refine rz_getf dX4_save_14 fl_X4_20 hg hv ?_
      refine rz_iconst dX4_save_17 rfl (by decide) ?_
      refine rz_aload_n dX4_save_18 rfl (show _ = some (some (vo a1)) from rfl) ?_
      refine rz_iload_n dX4_save_19 rfl (show _ = some (some (vi x2)) from rfl) ?_
      refine rz_bipush (v := 19) dX4_save_20 (by decide) (by decide) ?_
      replace hF := acp_e hF
      obtain ⟨xs, ys, hg0, hg1, g0, g1, g2, g3, g4, hF⟩ := hF
      refine rz_acpy dX4_save_22 k_722 k_652 k_651 k_92 hg0 hg1 g0 g1 g2 g3 g4 (Nat.le_of_ble_eq_true rfl) ?_
      exact rz_vret dX4_save_25 trivial hF
theorem vX3_add {G : az_G} {d : Nat} {x0 : Nat} {x1 : Option Nat} {x2 : Int} {x3 : Int} {x4 : Int} {h : az_H} {Q : Option az_V → az_H → Prop} (hF : rcv h x0 3 (cz G mX3_isFull d 0 0 [vo x0] h (fun v h1 => atI v (fun r2 => (if r2 = 0 then (if x2 < 0 then Q none h1 else (if x2 < 1024 then rdO h1 x0 3 0 (fun o3 => rdI h1 x0 3 5 (fun f4 => nnR x1 (fun a6 => rcv h1 a6 4 (cz G mX4_save d 0 0 [vo a6, vo o3, vi (w32 (f4 * 19))] h1 (fun v h5 => atV v (rdO h5 x0 3 1 (fun o7 => rdI h5 x0 3 5 (fun f8 => stI h5 o7 .int f8 x3 (fun h9 => rdO h9 x0 3 2 (fun o10 => rdI h9 x0 3 5 (fun f11 => stI h9 o10 .int f11 x4 (fun h12 => rdO h12 x0 3 3 (fun o13 => rdI h12 x0 3 5 (fun f14 => (if 0 ≤ x3 then rcv h12 x0 3 (cz G mX3_depth d 0 0 [vo x0, vi x3] h12 (fun v h15 => atI v (fun r16 => stI h15 o13 .int f14 (w32 (r16 + 1)) (fun h17 => rdI h17 x0 3 5 (fun f18 => wrF h17 x0 3 5 (.int) (vi (w32 (f18 + 1))) (fun h19 => rdO h19 x0 3 4 (fun o20 => rdI h19 x0 3 5 (fun f21 => stI h19 o20 .int x2 f21 (fun h22 => Q none h22))))))))) else stI h12 o13 .int f14 0 (fun h23 => rdI h23 x0 3 5 (fun f24 => wrF h23 x0 3 5 (.int) (vi (w32 (f24 + 1))) (fun h25 => rdO h25 x0 3 4 (fun o26 => rdI h25 x0 3 5 (fun f27 => stI h25 o26 .int x2 f27 (fun h28 => Q none h28))))))))))))))))))))) else Q none h1)) else Q none h1))))) : cz G mX3_add (d + 1) 0 0 [vo x0, vr x1, vi x2, vi x3, vi x4] h Q := by
  refine cz_of (ls := [some (vo x0), some (vr x1), some (vi x2), some (vi x3), some (vi x4)]) (by decide +kernel) (Nat.le_of_ble_eq_true rfl) rfl ?_
  refine rz_aload_n dX3_add_0 rfl (show _ = some (some (vo x0)) from rfl) ?_
  replace hF := rcv_e hF
  obtain ⟨fs, hg, hF⟩ := hF
  refine rz_callV (mc' := 0) (ms' := 0) (mc := 0) (ms := 0) (st := []) dX3_add_1 cV_X3_50 rfl hg ⟨_, _, rfl⟩ rfl (Nat.le_of_ble_eq_true rfl) hF (fun v h1 hG => ?_)
  clear hF
  revert hG
  intro hF
  replace hF := atI_e hF
  obtain ⟨r2, rfl, hF⟩ := hF
  refine rz_if_ne (tgt := 18) dX3_add_4 (by decide) (fun c => ?_) (fun c => ?_)
  · replace hF := ite_f hF c
    exact rz_vret dX3_add_18 trivial hF
  · replace hF := ite_t hF c
    refine rz_iload_n dX3_add_7 rfl (show _ = some (some (vi x2)) from rfl) ?_
    refine rz_if_lt (tgt := 18) dX3_add_8 (by decide) (fun c => ?_) (fun c => ?_)
    · replace hF := ite_t hF c
      exact rz_vret dX3_add_18 trivial hF
    · replace hF := ite_f hF c
      refine rz_iload_n dX3_add_11 rfl (show _ = some (some (vi x2)) from rfl) ?_
      refine rz_sipush (v := 1024) dX3_add_12 (by decide) (by decide) ?_
      refine rz_icmp_lt (tgt := 19) dX3_add_15 (by decide) (fun c => ?_) (fun c => ?_)
      · replace hF := ite_t hF c
        refine rz_aload_n dX3_add_19 rfl (show _ = some (some (vr x1)) from rfl) ?_
        refine rz_aload_n dX3_add_20 rfl (show _ = some (some (vo x0)) from rfl) ?_
        replace hF := rdO_e hF
        obtain ⟨fs, o3, hg, hv, hF⟩ := hF
        refine rz_getf dX3_add_21 fl_X3_11 hg hv ?_
        refine rz_aload_n dX3_add_24 rfl (show _ = some (some (vo x0)) from rfl) ?_
        replace hF := rdI_e hF
        obtain ⟨fs, f4, hg, hv, hF⟩ := hF
        refine rz_getf dX3_add_25 fl_X3_27 hg hv ?_
        refine rz_bipush (v := 19) dX3_add_28 (by decide) (by decide) ?_
        refine rz_imul dX3_add_30 ?_
        replace hF := nnR_e hF
        obtain ⟨a6, ea6, hF⟩ := hF
        subst ea6
        replace hF := rcv_e hF
        obtain ⟨fs, hg, hF⟩ := hF
        refine rz_callV (mc' := 0) (ms' := 0) (mc := 0) (ms := 0) (st := []) dX3_add_31 cV_X3_54 rfl hg ⟨_, _, rfl⟩ rfl (Nat.le_of_ble_eq_true rfl) hF (fun v h5 hG => ?_)
        clear hF
        revert hG
        intro hF
        replace hF := atV_e hF
        obtain ⟨rfl, hF⟩ := hF
        refine rz_aload_n dX3_add_34 rfl (show _ = some (some (vo x0)) from rfl) ?_
        replace hF := rdO_e hF
        obtain ⟨fs, o7, hg, hv, hF⟩ := hF
        refine rz_getf dX3_add_35 fl_X3_15 hg hv ?_
        refine rz_aload_n dX3_add_38 rfl (show _ = some (some (vo x0)) from rfl) ?_
        replace hF := rdI_e hF
        obtain ⟨fs, f8, hg, hv, hF⟩ := hF
        refine rz_getf dX3_add_39 fl_X3_27 hg hv ?_
        refine rz_iload_n dX3_add_42 rfl (show _ = some (some (vi x3)) from rfl) ?_
        replace hF := stI_e hF
        obtain ⟨xs, hg, h0, h1, hF⟩ := hF
        refine rz_iast dX3_add_43 hg h0 h1 ?_
        refine rz_aload_n dX3_add_44 rfl (show _ = some (some (vo x0)) from rfl) ?_
        replace hF := rdO_e hF
        obtain ⟨fs, o10, hg, hv, hF⟩ := hF
        refine rz_getf dX3_add_45 fl_X3_18 hg hv ?_
        refine rz_aload_n dX3_add_48 rfl (show _ = some (some (vo x0)) from rfl) ?_
        replace hF := rdI_e hF
        obtain ⟨fs, f11, hg, hv, hF⟩ := hF
        refine rz_getf dX3_add_49 fl_X3_27 hg hv ?_
        refine rz_iload dX3_add_52 (show _ = some (some (vi x4)) from rfl) ?_
        replace hF := stI_e hF
        obtain ⟨xs, hg, h0, h1, hF⟩ := hF
        refine rz_iast dX3_add_54 hg h0 h1 ?_
        refine rz_aload_n dX3_add_55 rfl (show _ = some (some (vo x0)) from rfl) ?_
        replace hF := rdO_e hF
        obtain ⟨fs, o13, hg, hv, hF⟩ := hF
        refine rz_getf dX3_add_56 fl_X3_21 hg hv ?_
        refine rz_aload_n dX3_add_59 rfl (show _ = some (some (vo x0)) from rfl) ?_
        replace hF := rdI_e hF
        obtain ⟨fs, f14, hg, hv, hF⟩ := hF
        refine rz_getf dX3_add_60 fl_X3_27 hg hv ?_
        refine rz_iload_n dX3_add_63 rfl (show _ = some (some (vi x3)) from rfl) ?_
        refine rz_if_ge (tgt := 71) dX3_add_64 (by decide) (fun c => ?_) (fun c => ?_)
        · replace hF := ite_t hF c
          refine rz_aload_n dX3_add_71 rfl (show _ = some (some (vo x0)) from rfl) ?_
          refine rz_iload_n dX3_add_72 rfl (show _ = some (some (vi x3)) from rfl) ?_
          replace hF := rcv_e hF
          obtain ⟨fs, hg, hF⟩ := hF
          refine rz_callV (mc' := 0) (ms' := 0) (mc := 0) (ms := 0) (st := [vi f14, vo o13]) dX3_add_73 cV_X3_57 rfl hg ⟨_, _, rfl⟩ rfl (Nat.le_of_ble_eq_true rfl) hF (fun v h15 hG => ?_)
          clear hF
          revert hG
          intro hF
          replace hF := atI_e hF
          obtain ⟨r16, rfl, hF⟩ := hF
          refine rz_iconst dX3_add_76 rfl (by decide) ?_
          refine rz_iadd dX3_add_77 ?_
          replace hF := stI_e hF
          obtain ⟨xs, hg, h0, h1, hF⟩ := hF
          refine rz_iast dX3_add_78 hg h0 h1 ?_
          refine rz_aload_n dX3_add_79 rfl (show _ = some (some (vo x0)) from rfl) ?_
          refine rz_dup dX3_add_80 (by rintro ⟨_, q⟩; cases q) ?_
          replace hF := rdI_e hF
          obtain ⟨fs, f18, hg, hv, hF⟩ := hF
          refine rz_getf dX3_add_81 fl_X3_27 hg hv ?_
          refine rz_iconst dX3_add_84 rfl (by decide) ?_
          refine rz_iadd dX3_add_85 ?_
          replace hF := wrF_e hF
          obtain ⟨fs, hg, hv, hF⟩ := hF
          refine rz_putf dX3_add_86 fl_X3_27 (Or.inl rfl) hg hv ?_
          refine rz_aload_n dX3_add_89 rfl (show _ = some (some (vo x0)) from rfl) ?_
          replace hF := rdO_e hF
          obtain ⟨fs, o20, hg, hv, hF⟩ := hF
          refine rz_getf dX3_add_90 fl_X3_24 hg hv ?_
          refine rz_iload_n dX3_add_93 rfl (show _ = some (some (vi x2)) from rfl) ?_
          refine rz_aload_n dX3_add_94 rfl (show _ = some (some (vo x0)) from rfl) ?_
          replace hF := rdI_e hF
          obtain ⟨fs, f21, hg, hv, hF⟩ := hF
          refine rz_getf dX3_add_95 fl_X3_27 hg hv ?_
          replace hF := stI_e hF
          obtain ⟨xs, hg, h0, h1, hF⟩ := hF
          refine rz_iast dX3_add_98 hg h0 h1 ?_
          exact rz_vret dX3_add_99 trivial hF
        · replace hF := ite_f hF c
          refine rz_iconst dX3_add_67 rfl (by decide) ?_
          refine rz_goto (tgt := 78) dX3_add_68 (by decide) ?_
          replace hF := stI_e hF
          obtain ⟨xs, hg, h0, h1, hF⟩ := hF
          refine rz_iast dX3_add_78 hg h0 h1 ?_
          refine rz_aload_n dX3_add_79 rfl (show _ = some (some (vo x0)) from rfl) ?_
          refine rz_dup dX3_add_80 (by rintro ⟨_, q⟩; cases q) ?_
          replace hF := rdI_e hF
          obtain ⟨fs, f24, hg, hv, hF⟩ := hF
          refine rz_getf dX3_add_81 fl_X3_27 hg hv ?_
          refine rz_iconst dX3_add_84 rfl (by decide) ?_
          refine rz_iadd dX3_add_85 ?_
          replace hF := wrF_e hF
          obtain ⟨fs, hg, hv, hF⟩ := hF
          refine rz_putf dX3_add_86 fl_X3_27 (Or.inl rfl) hg hv ?_
          refine rz_aload_n dX3_add_89 rfl (show _ = some (some (vo x0)) from rfl) ?_
          replace hF := rdO_e hF
          obtain ⟨fs, o26, hg, hv, hF⟩ := hF
          refine rz_getf dX3_add_90 fl_X3_24 hg hv ?_
          refine rz_iload_n dX3_add_93 rfl (show _ = some (some (vi x2)) from rfl) ?_
          refine rz_aload_n dX3_add_94 rfl (show _ = some (some (vo x0)) from rfl) ?_
          replace hF := rdI_e hF
          obtain ⟨fs, f27, hg, hv, hF⟩ := hF
          refine rz_getf dX3_add_95 fl_X3_27 hg hv ?_
          replace hF := stI_e hF
          obtain ⟨xs, hg, h0, h1, hF⟩ := hF
          refine rz_iast dX3_add_98 hg h0 h1 ?_
          exact rz_vret dX3_add_99 trivial hF
      · replace hF := ite_f hF c
        exact rz_vret dX3_add_18 trivial hF
def pX3_rowThrough_26 (G : az_G) (d : Nat) (x0 : Nat) (x3 : Option Nat) (x4 : Int) (x5 : Int) (x6 : Int) (x7 : Int) (h : az_H) (Q : Option az_V → az_H → Prop) : Prop := ez G mX3_rowThrough (d + 1) 0 0 26 [some (vo x0), none, none, some (vr x3), some (vi x4), some (vi x5), some (vi x6), some (vi x7)] [] h Q
theorem vX3_rowThrough_26 {G : az_G} {d : Nat} {x0 : Nat} {x3 : Option Nat} {x4 : Int} {x5 : Int} {x6 : Int} {x7 : Int} {h : az_H} {Q : Option az_V → az_H → Prop} (hF : (if x7 < 0 then Q (some (vi x4)) h else nnR x3 (fun a1 => stI h a1 .int x7 x6 (fun h2 => (if x5 < 0 then pX3_rowThrough_26 G d x0 (some a1) x4 x5 x6 (w32 (x7 + (-1))) h2 Q else rdI h2 x0 3 5 (fun f3 => (if f3 ≤ x5 then pX3_rowThrough_26 G d x0 (some a1) x4 x5 x6 (w32 (x7 + (-1))) h2 Q else rdO h2 x0 3 2 (fun o4 => ldI h2 o4 (.int) x5 (fun e5 => rdO h2 x0 3 1 (fun o6 => ldI h2 o6 (.int) x5 (fun e7 => pX3_rowThrough_26 G d x0 (some a1) x4 e7 e5 (w32 (x7 + (-1))) h2 Q))))))))))) : pX3_rowThrough_26 G d x0 x3 x4 x5 x6 x7 h Q := by
  unfold pX3_rowThrough_26
  refine rz_iload dX3_rowThrough_26 (show _ = some (some (vi x7)) from rfl) ?_
  refine rz_if_lt (tgt := 75) dX3_rowThrough_28 (by decide) (fun c => ?_) (fun c => ?_)
  · replace hF := ite_t hF c
    refine rz_iload dX3_rowThrough_75 (show _ = some (some (vi x4)) from rfl) ?_
    exact rz_iret dX3_rowThrough_77 trivial hF
  · replace hF := ite_f hF c
    refine rz_aload_n dX3_rowThrough_31 rfl (show _ = some (some (vr x3)) from rfl) ?_
    refine rz_iload dX3_rowThrough_32 (show _ = some (some (vi x7)) from rfl) ?_
    refine rz_iload dX3_rowThrough_34 (show _ = some (some (vi x6)) from rfl) ?_
    replace hF := nnR_e hF
    obtain ⟨a1, ea1, hF⟩ := hF
    subst ea1
    replace hF := stI_e hF
    obtain ⟨xs, hg, h0, h1, hF⟩ := hF
    refine rz_iast dX3_rowThrough_36 hg h0 h1 ?_
    refine rz_iload dX3_rowThrough_37 (show _ = some (some (vi x5)) from rfl) ?_
    refine rz_if_lt (tgt := 69) dX3_rowThrough_39 (by decide) (fun c => ?_) (fun c => ?_)
    · replace hF := ite_t hF c
      refine rz_iinc (ls' := [some (vo x0), none, none, some (vo a1), some (vi x4), some (vi x5), some (vi x6), some (vi (w32 (x7 + (-1))))]) dX3_rowThrough_69 rfl (Nat.le_of_ble_eq_true rfl) rfl ?_
      refine rz_goto (tgt := 26) dX3_rowThrough_72 (by decide) ?_
      exact hF
    · replace hF := ite_f hF c
      refine rz_iload dX3_rowThrough_42 (show _ = some (some (vi x5)) from rfl) ?_
      refine rz_aload_n dX3_rowThrough_44 rfl (show _ = some (some (vo x0)) from rfl) ?_
      replace hF := rdI_e hF
      obtain ⟨fs, f3, hg, hv, hF⟩ := hF
      refine rz_getf dX3_rowThrough_45 fl_X3_27 hg hv ?_
      refine rz_icmp_ge (tgt := 69) dX3_rowThrough_48 (by decide) (fun c => ?_) (fun c => ?_)
      · replace hF := ite_t hF c
        refine rz_iinc (ls' := [some (vo x0), none, none, some (vo a1), some (vi x4), some (vi x5), some (vi x6), some (vi (w32 (x7 + (-1))))]) dX3_rowThrough_69 rfl (Nat.le_of_ble_eq_true rfl) rfl ?_
        refine rz_goto (tgt := 26) dX3_rowThrough_72 (by decide) ?_
        exact hF
      · replace hF := ite_f hF c
        refine rz_aload_n dX3_rowThrough_51 rfl (show _ = some (some (vo x0)) from rfl) ?_
        replace hF := rdO_e hF
        obtain ⟨fs, o4, hg, hv, hF⟩ := hF
        refine rz_getf dX3_rowThrough_52 fl_X3_18 hg hv ?_
        refine rz_iload dX3_rowThrough_55 (show _ = some (some (vi x5)) from rfl) ?_
        replace hF := ldI_e hF
        obtain ⟨xs, hg, h0, h1, hF⟩ := hF
        refine rz_iald dX3_rowThrough_57 hg h0 h1 ?_
        generalize xs.getD _ 0 = e5 at hF ⊢
        refine rz_istore (ls' := [some (vo x0), none, none, some (vo a1), some (vi x4), some (vi x5), some (vi e5), some (vi x7)]) dX3_rowThrough_58 (Nat.le_of_ble_eq_true rfl) rfl ?_
        refine rz_aload_n dX3_rowThrough_60 rfl (show _ = some (some (vo x0)) from rfl) ?_
        replace hF := rdO_e hF
        obtain ⟨fs, o6, hg, hv, hF⟩ := hF
        refine rz_getf dX3_rowThrough_61 fl_X3_15 hg hv ?_
        refine rz_iload dX3_rowThrough_64 (show _ = some (some (vi x5)) from rfl) ?_
        replace hF := ldI_e hF
        obtain ⟨xs, hg, h0, h1, hF⟩ := hF
        refine rz_iald dX3_rowThrough_66 hg h0 h1 ?_
        generalize xs.getD _ 0 = e7 at hF ⊢
        refine rz_istore (ls' := [some (vo x0), none, none, some (vo a1), some (vi x4), some (vi e7), some (vi e5), some (vi x7)]) dX3_rowThrough_67 (Nat.le_of_ble_eq_true rfl) rfl ?_
        refine rz_iinc (ls' := [some (vo x0), none, none, some (vo a1), some (vi x4), some (vi e7), some (vi e5), some (vi (w32 (x7 + (-1))))]) dX3_rowThrough_69 rfl (Nat.le_of_ble_eq_true rfl) rfl ?_
        refine rz_goto (tgt := 26) dX3_rowThrough_72 (by decide) ?_
        exact hF
theorem vX3_rowThrough {G : az_G} {d : Nat} {x0 : Nat} {x1 : Int} {x2 : Int} {x3 : Option Nat} {h : az_H} {Q : Option az_V → az_H → Prop} (hF : rcv h x0 3 (cz G mX3_depth d 0 0 [vo x0, vi x1] h (fun v h1 => atI v (fun r2 => nnR x3 (fun a3 => aln h1 a3 (fun n4 => cz G mJ9_min_7cf53 d 0 0 [vi (w32 (r2 + 1)), vi n4] h1 (fun v h5 => atI v (fun r6 => pX3_rowThrough_26 G d x0 (some a3) r6 x1 x2 (w32 (r6 - 1)) h5 Q)))))))) : cz G mX3_rowThrough (d + 1) 0 0 [vo x0, vi x1, vi x2, vr x3] h Q := by
  refine cz_of (ls := [some (vo x0), some (vi x1), some (vi x2), some (vr x3), none, none, none, none]) (by decide +kernel) (Nat.le_of_ble_eq_true rfl) rfl ?_
  refine rz_aload_n dX3_rowThrough_0 rfl (show _ = some (some (vo x0)) from rfl) ?_
  refine rz_iload_n dX3_rowThrough_1 rfl (show _ = some (some (vi x1)) from rfl) ?_
  replace hF := rcv_e hF
  obtain ⟨fs, hg, hF⟩ := hF
  refine rz_callV (mc' := 0) (ms' := 0) (mc := 0) (ms := 0) (st := []) dX3_rowThrough_2 cV_X3_57 rfl hg ⟨_, _, rfl⟩ rfl (Nat.le_of_ble_eq_true rfl) hF (fun v h1 hG => ?_)
  clear hF
  revert hG
  intro hF
  replace hF := atI_e hF
  obtain ⟨r2, rfl, hF⟩ := hF
  refine rz_iconst dX3_rowThrough_5 rfl (by decide) ?_
  refine rz_iadd dX3_rowThrough_6 ?_
  refine rz_aload_n dX3_rowThrough_7 rfl (show _ = some (some (vr x3)) from rfl) ?_
  replace hF := nnR_e hF
  obtain ⟨a3, ea3, hF⟩ := hF
  subst ea3
  replace hF := aln_e hF
  obtain ⟨n4, hg, hr, hF⟩ := hF
  refine rz_alen dX3_rowThrough_8 hg hr ?_
  refine rz_callS (mc' := 0) (ms' := 0) (mc := 0) (ms := 0) (st := []) dX3_rowThrough_9 cS_X3_61 rfl rfl (Nat.le_of_ble_eq_true rfl) hF (fun v h5 hG => ?_)
  clear hF
  revert hG
  intro hF
  replace hF := atI_e hF
  obtain ⟨r6, rfl, hF⟩ := hF
  refine rz_istore (ls' := [some (vo x0), some (vi x1), some (vi x2), some (vo a3), some (vi r6), none, none, none]) dX3_rowThrough_12 (Nat.le_of_ble_eq_true rfl) rfl ?_
  refine rz_iload_n dX3_rowThrough_14 rfl (show _ = some (some (vi x1)) from rfl) ?_
  refine rz_istore (ls' := [some (vo x0), some (vi x1), some (vi x2), some (vo a3), some (vi r6), some (vi x1), none, none]) dX3_rowThrough_15 (Nat.le_of_ble_eq_true rfl) rfl ?_
  refine rz_iload_n dX3_rowThrough_17 rfl (show _ = some (some (vi x2)) from rfl) ?_
  refine rz_istore (ls' := [some (vo x0), some (vi x1), some (vi x2), some (vo a3), some (vi r6), some (vi x1), some (vi x2), none]) dX3_rowThrough_18 (Nat.le_of_ble_eq_true rfl) rfl ?_
  refine rz_iload dX3_rowThrough_20 (show _ = some (some (vi r6)) from rfl) ?_
  refine rz_iconst dX3_rowThrough_22 rfl (by decide) ?_
  refine rz_isub dX3_rowThrough_23 ?_
  refine rz_istore (ls' := [some (vo x0), some (vi x1), some (vi x2), some (vo a3), some (vi r6), some (vi x1), some (vi x2), some (vi (w32 (r6 - 1)))]) dX3_rowThrough_24 (Nat.le_of_ble_eq_true rfl) rfl ?_
  refine ez_kp [true, false, false, true, true, true, true, true] rfl ?_
  exact hF
theorem vX4_init {G : az_G} {d : Nat} {x0 : Nat} {x1 : Option Nat} {h : az_H} {Q : Option az_V → az_H → Prop} (hF : nwO h (cO 0 [vi 0, vi 0, vi 0, vi 0]) (fun No1 Nh2 => cz G mX0_init d 0 0 [vo No1, vi 0, vi 0, vi 0, vi 0] Nh2 (fun v h3 => atV v (wrF h3 x0 4 1 (.object "InvariantSearch$Call") (vo No1) (fun h4 => nwO h4 (cA .int (List.replicate 19 0)) (fun No5 Nh6 => wrF Nh6 x0 4 2 (.array (.int)) (vo No5) (fun h7 => nwG h7 (fun No8 Nh9 => wrF Nh9 x0 4 3 (.array (.array (.int))) (vo No8) (fun h10 => nwO h10 (cA .long (List.replicate 32 0)) (fun No11 Nh12 => wrF Nh12 x0 4 4 (.array (.long)) (vo No11) (fun h13 => wrF h13 x0 4 0 (.object "InvariantSearch$World") (vr x1) (fun h14 => Q none h14)))))))))))) : cz G mX4_init (d + 1) 7 115 [vo x0, vr x1] h Q := by
  refine cz_of (ls := [some (vo x0), some (vr x1)]) (by decide +kernel) (Nat.le_of_ble_eq_true rfl) rfl ?_
  refine rz_aload_n dX4_init_0 rfl (show _ = some (some (vo x0)) from rfl) ?_
  refine rz_obj dX4_init_1 k_190 k_99 k_100 (Nat.le_of_ble_eq_true rfl) ?_
  refine rz_aload_n dX4_init_4 rfl (show _ = some (some (vo x0)) from rfl) ?_
  refine ez_wide (mc := 6 + 1) (ms := 111 + 4) (Nat.le_of_ble_eq_true rfl) (Nat.le_of_ble_eq_true rfl) ?_
  refine rz_new (fs := [vi 0, vi 0, vi 0, vi 0]) dX4_init_5 nw_X4_11 ?_
  replace hF := nwO_e hF
  refine rz_dup dX4_init_8 (by rintro ⟨_, q⟩; cases q) ?_
  refine rz_iconst dX4_init_9 rfl (by decide) ?_
  refine rz_iconst dX4_init_10 rfl (by decide) ?_
  refine rz_iconst dX4_init_11 rfl (by decide) ?_
  refine rz_iconst dX4_init_12 rfl (by decide) ?_
  refine rz_callI (mc' := 0) (ms' := 0) (mc := 6) (ms := 111) (st := [vo _, vo x0]) dX4_init_13 cI_X4_13 rfl rfl (Nat.le_of_ble_eq_true rfl) hF (fun v h3 hG => ?_)
  clear hF
  revert hG
  intro hF
  replace hF := atV_e hF
  obtain ⟨rfl, hF⟩ := hF
  replace hF := wrF_e hF
  obtain ⟨fs, hg, hv, hF⟩ := hF
  refine rz_putf dX4_init_16 fl_X4_16 (Or.inr rfl) hg hv ?_
  refine rz_aload_n dX4_init_19 rfl (show _ = some (some (vo x0)) from rfl) ?_
  refine rz_bipush (v := 19) dX4_init_20 (by decide) (by decide) ?_
  refine ez_wide (mc := 5 + 1) (ms := 92 + (19 : Int).toNat) (Nat.le_of_ble_eq_true rfl) (by decide +kernel) ?_
  refine rz_newa dX4_init_22 rfl (by decide) k_155 (by decide) (by decide) ?_
  replace hF := nwO_e hF
  replace hF := wrF_e hF
  obtain ⟨fs, hg, hv, hF⟩ := hF
  refine rz_putf dX4_init_24 fl_X4_20 (Or.inr rfl) hg hv ?_
  refine rz_aload_n dX4_init_27 rfl (show _ = some (some (vo x0)) from rfl) ?_
  refine rz_iconst dX4_init_28 rfl (by decide) ?_
  refine rz_bipush (v := 19) dX4_init_29 (by decide) (by decide) ?_
  refine ez_wide (mc := 1 + 4) (ms := 32 + 60) (Nat.le_of_ble_eq_true rfl) (Nat.le_of_ble_eq_true rfl) ?_
  refine rz_mnew dX4_init_31 k_214 ?_
  replace hF := nwG_e hF
  replace hF := wrF_e hF
  obtain ⟨fs, hg, hv, hF⟩ := hF
  refine rz_putf dX4_init_35 fl_X4_26 (Or.inr rfl) hg hv ?_
  refine rz_aload_n dX4_init_38 rfl (show _ = some (some (vo x0)) from rfl) ?_
  refine rz_bipush (v := 32) dX4_init_39 (by decide) (by decide) ?_
  refine ez_wide (mc := 0 + 1) (ms := 0 + (32 : Int).toNat) (Nat.le_of_ble_eq_true rfl) (by decide +kernel) ?_
  refine rz_newa dX4_init_41 rfl (by decide) k_235 (by decide) (by decide) ?_
  replace hF := nwO_e hF
  replace hF := wrF_e hF
  obtain ⟨fs, hg, hv, hF⟩ := hF
  refine rz_putf dX4_init_43 fl_X4_29 (Or.inr rfl) hg hv ?_
  refine rz_aload_n dX4_init_46 rfl (show _ = some (some (vo x0)) from rfl) ?_
  refine rz_aload_n dX4_init_47 rfl (show _ = some (some (vr x1)) from rfl) ?_
  replace hF := wrF_e hF
  obtain ⟨fs, hg, hv, hF⟩ := hF
  refine rz_putf dX4_init_48 fl_X4_33 (Or.inr rfl) hg hv ?_
  exact rz_vret dX4_init_51 trivial hF
theorem vX5_init {G : az_G} {d : Nat} {x0 : Nat} {x1 : Option Nat} {h : az_H} {Q : Option az_V → az_H → Prop} (hF : nwO h (cA .int (List.replicate 208 0)) (fun No1 Nh2 => wrF Nh2 x0 5 1 (.array (.int)) (vo No1) (fun h3 => nwO h3 (cA .int (List.replicate 208 0)) (fun No4 Nh5 => wrF Nh5 x0 5 2 (.array (.int)) (vo No4) (fun h6 => wrF h6 x0 5 0 (.object "InvariantSearch$Text") (vr x1) (fun h7 => Q none h7)))))) : cz G mX5_init (d + 1) 2 416 [vo x0, vr x1] h Q := by
  refine cz_of (ls := [some (vo x0), some (vr x1)]) (by decide +kernel) (Nat.le_of_ble_eq_true rfl) rfl ?_
  refine rz_aload_n dX5_init_0 rfl (show _ = some (some (vo x0)) from rfl) ?_
  refine rz_obj dX5_init_1 k_132 k_99 k_100 (Nat.le_of_ble_eq_true rfl) ?_
  refine rz_aload_n dX5_init_4 rfl (show _ = some (some (vo x0)) from rfl) ?_
  refine rz_sipush (v := 208) dX5_init_5 (by decide) (by decide) ?_
  refine ez_wide (mc := 1 + 1) (ms := 208 + (208 : Int).toNat) (Nat.le_of_ble_eq_true rfl) (by decide +kernel) ?_
  refine rz_newa dX5_init_8 rfl (by decide) k_155 (by decide) (by decide) ?_
  replace hF := nwO_e hF
  replace hF := wrF_e hF
  obtain ⟨fs, hg, hv, hF⟩ := hF
  refine rz_putf dX5_init_10 fl_X5_11 (Or.inr rfl) hg hv ?_
  refine rz_aload_n dX5_init_13 rfl (show _ = some (some (vo x0)) from rfl) ?_
  refine rz_sipush (v := 208) dX5_init_14 (by decide) (by decide) ?_
  refine ez_wide (mc := 0 + 1) (ms := 0 + (208 : Int).toNat) (Nat.le_of_ble_eq_true rfl) (by decide +kernel) ?_
  refine rz_newa dX5_init_17 rfl (by decide) k_155 (by decide) (by decide) ?_
  replace hF := nwO_e hF
  replace hF := wrF_e hF
  obtain ⟨fs, hg, hv, hF⟩ := hF
  refine rz_putf dX5_init_19 fl_X5_17 (Or.inr rfl) hg hv ?_
  refine rz_aload_n dX5_init_22 rfl (show _ = some (some (vo x0)) from rfl) ?_
  refine rz_aload_n dX5_init_23 rfl (show _ = some (some (vr x1)) from rfl) ?_
  replace hF := wrF_e hF
  obtain ⟨fs, hg, hv, hF⟩ := hF
  refine rz_putf dX5_init_24 fl_X5_20 (Or.inr rfl) hg hv ?_
  exact rz_vret dX5_init_27 trivial hF
theorem vX8_isLetter {G : az_G} {d : Nat} {x0 : Int} {h : az_H} {Q : Option az_V → az_H → Prop} (hF : (if x0 < 97 then (if x0 < 65 then Q (some (vi 0)) h else (if 90 < x0 then Q (some (vi 0)) h else Q (some (vi 1)) h)) else (if x0 ≤ 122 then Q (some (vi 1)) h else (if x0 < 65 then Q (some (vi 0)) h else (if 90 < x0 then Q (some (vi 0)) h else Q (some (vi 1)) h))))) : cz G mX8_isLetter d 0 0 [vi x0] h Q := by
  refine cz_of (ls := [some (vi x0)]) (by decide +kernel) (Nat.le_of_ble_eq_true rfl) rfl ?_
  refine rz_iload_n dX8_isLetter_0 rfl (show _ = some (some (vi x0)) from rfl) ?_
  refine rz_bipush (v := 97) dX8_isLetter_1 (by decide) (by decide) ?_
  refine rz_icmp_lt (tgt := 12) dX8_isLetter_3 (by decide) (fun c => ?_) (fun c => ?_)
  · replace hF := ite_t hF c
    refine rz_iload_n dX8_isLetter_12 rfl (show _ = some (some (vi x0)) from rfl) ?_
    refine rz_bipush (v := 65) dX8_isLetter_13 (by decide) (by decide) ?_
    refine rz_icmp_lt (tgt := 28) dX8_isLetter_15 (by decide) (fun c => ?_) (fun c => ?_)
    · replace hF := ite_t hF c
      refine rz_iconst dX8_isLetter_28 rfl (by decide) ?_
      exact rz_iret dX8_isLetter_29 (Or.inl rfl) hF
    · replace hF := ite_f hF c
      refine rz_iload_n dX8_isLetter_18 rfl (show _ = some (some (vi x0)) from rfl) ?_
      refine rz_bipush (v := 90) dX8_isLetter_19 (by decide) (by decide) ?_
      refine rz_icmp_gt (tgt := 28) dX8_isLetter_21 (by decide) (fun c => ?_) (fun c => ?_)
      · replace hF := ite_t hF c
        refine rz_iconst dX8_isLetter_28 rfl (by decide) ?_
        exact rz_iret dX8_isLetter_29 (Or.inl rfl) hF
      · replace hF := ite_f hF c
        refine rz_iconst dX8_isLetter_24 rfl (by decide) ?_
        refine rz_goto (tgt := 29) dX8_isLetter_25 (by decide) ?_
        exact rz_iret dX8_isLetter_29 (Or.inr rfl) hF
  · replace hF := ite_f hF c
    refine rz_iload_n dX8_isLetter_6 rfl (show _ = some (some (vi x0)) from rfl) ?_
    refine rz_bipush (v := 122) dX8_isLetter_7 (by decide) (by decide) ?_
    refine rz_icmp_le (tgt := 24) dX8_isLetter_9 (by decide) (fun c => ?_) (fun c => ?_)
    · replace hF := ite_t hF c
      refine rz_iconst dX8_isLetter_24 rfl (by decide) ?_
      refine rz_goto (tgt := 29) dX8_isLetter_25 (by decide) ?_
      exact rz_iret dX8_isLetter_29 (Or.inr rfl) hF
    · replace hF := ite_f hF c
      refine rz_iload_n dX8_isLetter_12 rfl (show _ = some (some (vi x0)) from rfl) ?_
      refine rz_bipush (v := 65) dX8_isLetter_13 (by decide) (by decide) ?_
      refine rz_icmp_lt (tgt := 28) dX8_isLetter_15 (by decide) (fun c => ?_) (fun c => ?_)
      · replace hF := ite_t hF c
        refine rz_iconst dX8_isLetter_28 rfl (by decide) ?_
        exact rz_iret dX8_isLetter_29 (Or.inl rfl) hF
      · replace hF := ite_f hF c
        refine rz_iload_n dX8_isLetter_18 rfl (show _ = some (some (vi x0)) from rfl) ?_
        refine rz_bipush (v := 90) dX8_isLetter_19 (by decide) (by decide) ?_
        refine rz_icmp_gt (tgt := 28) dX8_isLetter_21 (by decide) (fun c => ?_) (fun c => ?_)
        · replace hF := ite_t hF c
          refine rz_iconst dX8_isLetter_28 rfl (by decide) ?_
          exact rz_iret dX8_isLetter_29 (Or.inl rfl) hF
        · replace hF := ite_f hF c
          refine rz_iconst dX8_isLetter_24 rfl (by decide) ?_
          refine rz_goto (tgt := 29) dX8_isLetter_25 (by decide) ?_
          exact rz_iret dX8_isLetter_29 (Or.inr rfl) hF
theorem vX8_isFigure {G : az_G} {d : Nat} {x0 : Int} {h : az_H} {Q : Option az_V → az_H → Prop} (hF : (if x0 < 48 then Q (some (vi 0)) h else (if 57 < x0 then Q (some (vi 0)) h else Q (some (vi 1)) h))) : cz G mX8_isFigure d 0 0 [vi x0] h Q := by
  refine cz_of (ls := [some (vi x0)]) (by decide +kernel) (Nat.le_of_ble_eq_true rfl) rfl ?_
  refine rz_iload_n dX8_isFigure_0 rfl (show _ = some (some (vi x0)) from rfl) ?_
  refine rz_bipush (v := 48) dX8_isFigure_1 (by decide) (by decide) ?_
  refine rz_icmp_lt (tgt := 16) dX8_isFigure_3 (by decide) (fun c => ?_) (fun c => ?_)
  · replace hF := ite_t hF c
    refine rz_iconst dX8_isFigure_16 rfl (by decide) ?_
    exact rz_iret dX8_isFigure_17 (Or.inl rfl) hF
  · replace hF := ite_f hF c
    refine rz_iload_n dX8_isFigure_6 rfl (show _ = some (some (vi x0)) from rfl) ?_
    refine rz_bipush (v := 57) dX8_isFigure_7 (by decide) (by decide) ?_
    refine rz_icmp_gt (tgt := 16) dX8_isFigure_9 (by decide) (fun c => ?_) (fun c => ?_)
    · replace hF := ite_t hF c
      refine rz_iconst dX8_isFigure_16 rfl (by decide) ?_
      exact rz_iret dX8_isFigure_17 (Or.inl rfl) hF
    · replace hF := ite_f hF c
      refine rz_iconst dX8_isFigure_12 rfl (by decide) ?_
      refine rz_goto (tgt := 17) dX8_isFigure_13 (by decide) ?_
      exact rz_iret dX8_isFigure_17 (Or.inr rfl) hF
theorem vJ0_coder_7d493 {G : az_G} {d : Nat} {x0 : Nat} {h : az_H} {Q : Option az_V → az_H → Prop} (hF : rdI h x0 101 1 (fun f1 => (az_fit (.byte) (vi f1) ∧ Q (some (vi f1)) h))) : cz G mJ0_coder_7d493 d 0 0 [vo x0] h Q := by
  refine cz_of (ls := [some (vo x0)]) (by decide +kernel) (Nat.le_of_ble_eq_true rfl) rfl ?_
  refine rz_getC dJ0_coder_7d493_0 k_442 ?_
  refine rz_if_eq (tgt := 13) dJ0_coder_7d493_3 (by decide) (fun c => absurd c (by decide)) (fun c => ?_)
  refine rz_aload_n dJ0_coder_7d493_6 rfl (show _ = some (some (vo x0)) from rfl) ?_
  replace hF := rdI_e hF
  obtain ⟨fs, f1, hg, hv, hF⟩ := hF
  refine rz_getKc dJ0_coder_7d493_7 k_1534 hg hv ?_
  refine rz_goto (tgt := 14) dJ0_coder_7d493_10 (by decide) ?_
  exact rz_iret dJ0_coder_7d493_14 hF.1 hF.2
theorem vJ0_length_8abf5 {G : az_G} {d : Nat} {x0 : Nat} {h : az_H} {Q : Option az_V → az_H → Prop} (hF : rdO h x0 101 0 (fun o1 => alk h o1 (fun n2 => rcv h x0 101 (cz G mJ0_coder_7d493 d 0 0 [vo x0] h (fun v h3 => atI v (fun r4 => Q (some (vi (bShr n2 r4))) h3)))))) : cz G mJ0_length_8abf5 (d + 1) 0 0 [vo x0] h Q := by
  refine cz_of (ls := [some (vo x0)]) (by decide +kernel) (Nat.le_of_ble_eq_true rfl) rfl ?_
  refine rz_aload_n dJ0_length_8abf5_0 rfl (show _ = some (some (vo x0)) from rfl) ?_
  replace hF := rdO_e hF
  obtain ⟨fs, o1, hg, hv, hF⟩ := hF
  refine rz_getKv dJ0_length_8abf5_1 k_1533 hg hv ?_
  replace hF := alk_e hF
  obtain ⟨xs, n2, hg, hn, hF⟩ := hF
  refine rz_alenK dJ0_length_8abf5_4 hg hn ?_
  refine rz_aload_n dJ0_length_8abf5_5 rfl (show _ = some (some (vo x0)) from rfl) ?_
  replace hF := rcv_e hF
  obtain ⟨fs, hg, hF⟩ := hF
  refine rz_callK (mc' := 0) (ms' := 0) (mc := 0) (ms := 0) (st := [vi n2]) dJ0_length_8abf5_6 cV_J0_335 rfl hg rfl rfl (Nat.le_of_ble_eq_true rfl) hF (fun v h3 hG => ?_)
  clear hF
  revert hG
  intro hF
  replace hF := atI_e hF
  obtain ⟨r4, rfl, hF⟩ := hF
  refine rz_ishr dJ0_length_8abf5_9 ?_
  exact rz_iret dJ0_length_8abf5_10 trivial hF
theorem vJ0_isLatin1_aae02 {G : az_G} {d : Nat} {x0 : Nat} {h : az_H} {Q : Option az_V → az_H → Prop} (hF : rdI h x0 101 1 (fun f1 => (if f1 = 0 then Q (some (vi 1)) h else Q (some (vi 0)) h))) : cz G mJ0_isLatin1_aae02 d 0 0 [vo x0] h Q := by
  refine cz_of (ls := [some (vo x0)]) (by decide +kernel) (Nat.le_of_ble_eq_true rfl) rfl ?_
  refine rz_getC dJ0_isLatin1_aae02_0 k_442 ?_
  refine rz_if_eq (tgt := 17) dJ0_isLatin1_aae02_3 (by decide) (fun c => absurd c (by decide)) (fun c => ?_)
  refine rz_aload_n dJ0_isLatin1_aae02_6 rfl (show _ = some (some (vo x0)) from rfl) ?_
  replace hF := rdI_e hF
  obtain ⟨fs, f1, hg, hv, hF⟩ := hF
  refine rz_getKc dJ0_isLatin1_aae02_7 k_1534 hg hv ?_
  refine rz_if_ne (tgt := 17) dJ0_isLatin1_aae02_10 (by decide) (fun c => ?_) (fun c => ?_)
  · replace hF := ite_f hF c
    refine rz_iconst dJ0_isLatin1_aae02_17 rfl (by decide) ?_
    exact rz_iret dJ0_isLatin1_aae02_18 (Or.inl rfl) hF
  · replace hF := ite_t hF c
    refine rz_iconst dJ0_isLatin1_aae02_13 rfl (by decide) ?_
    refine rz_goto (tgt := 18) dJ0_isLatin1_aae02_14 (by decide) ?_
    exact rz_iret dJ0_isLatin1_aae02_18 (Or.inr rfl) hF
theorem vJ3_checkIndex_8e157 {G : az_G} {d : Nat} {x0 : Int} {x1 : Int} {x2 : Option Nat} {h : az_H} {Q : Option az_V → az_H → Prop} (hF : (if x0 < 0 then False else (if x0 < x1 then Q (some (vi x0)) h else False))) : cz G mJ3_checkIndex_8e157 (d + 1) 0 0 [vi x0, vi x1, vr x2] h Q := by
  refine cz_of (ls := [some (vi x0), some (vi x1), some (vr x2)]) (by decide +kernel) (Nat.le_of_ble_eq_true rfl) rfl ?_
  refine rz_iload_n dJ3_checkIndex_8e157_0 rfl (show _ = some (some (vi x0)) from rfl) ?_
  refine rz_if_lt (tgt := 9) dJ3_checkIndex_8e157_1 (by decide) (fun c => ?_) (fun c => ?_)
  · replace hF := ite_t hF c
    refine rz_aload_n dJ3_checkIndex_8e157_9 rfl (show _ = some (some (vr x2)) from rfl) ?_
    refine rz_iload_n dJ3_checkIndex_8e157_10 rfl (show _ = some (some (vi x0)) from rfl) ?_
    refine rz_iload_n dJ3_checkIndex_8e157_11 rfl (show _ = some (some (vi x1)) from rfl) ?_
    exact absurd hF id
  · replace hF := ite_f hF c
    refine rz_iload_n dJ3_checkIndex_8e157_4 rfl (show _ = some (some (vi x0)) from rfl) ?_
    refine rz_iload_n dJ3_checkIndex_8e157_5 rfl (show _ = some (some (vi x1)) from rfl) ?_
    refine rz_icmp_lt (tgt := 16) dJ3_checkIndex_8e157_6 (by decide) (fun c => ?_) (fun c => ?_)
    · replace hF := ite_t hF c
      refine rz_iload_n dJ3_checkIndex_8e157_16 rfl (show _ = some (some (vi x0)) from rfl) ?_
      exact rz_iret dJ3_checkIndex_8e157_17 trivial hF
    · replace hF := ite_f hF c
      refine rz_aload_n dJ3_checkIndex_8e157_9 rfl (show _ = some (some (vr x2)) from rfl) ?_
      refine rz_iload_n dJ3_checkIndex_8e157_10 rfl (show _ = some (some (vi x0)) from rfl) ?_
      refine rz_iload_n dJ3_checkIndex_8e157_11 rfl (show _ = some (some (vi x1)) from rfl) ?_
      exact absurd hF id
theorem vJ0_checkIndex_df160 {G : az_G} {d : Nat} {x0 : Int} {x1 : Int} {h : az_H} {Q : Option az_V → az_H → Prop} (hF : (∀ q1 : Option Nat, cz G mJ3_checkIndex_8e157 d 0 0 [vi x0, vi x1, vr q1] h (fun v h2 => atI v (fun r3 => Q none h2)))) : cz G mJ0_checkIndex_df160 (d + 1) 0 0 [vi x0, vi x1] h Q := by
  refine cz_of (ls := [some (vi x0), some (vi x1)]) (by decide +kernel) (Nat.le_of_ble_eq_true rfl) rfl ?_
  refine rz_iload_n dJ0_checkIndex_df160_0 rfl (show _ = some (some (vi x0)) from rfl) ?_
  refine rz_iload_n dJ0_checkIndex_df160_1 rfl (show _ = some (some (vi x1)) from rfl) ?_
  refine rz_getF dJ0_checkIndex_df160_2 k_458 (fun q1 => ?_)
  replace hF := hF q1
  refine rz_callS (mc' := 0) (ms' := 0) (mc := 0) (ms := 0) (st := []) dJ0_checkIndex_df160_5 cS_J0_1059 rfl rfl (Nat.le_of_ble_eq_true rfl) hF (fun v h2 hG => ?_)
  clear hF
  revert hG
  intro hF
  replace hF := atI_e hF
  obtain ⟨r3, rfl, hF⟩ := hF
  refine rz_pop dJ0_checkIndex_df160_8 (by rintro ⟨_, q⟩; cases q) ?_
  exact rz_vret dJ0_checkIndex_df160_9 trivial hF
theorem vJ1_charAt_3b067 {G : az_G} {d : Nat} {x0 : Option Nat} {x1 : Int} {h : az_H} {Q : Option az_V → az_H → Prop} (hF : nnR x0 (fun a1 => alk h a1 (fun n2 => cz G mJ0_checkIndex_df160 d 0 0 [vi x1, vi n2] h (fun v h3 => atV v (ldI h3 a1 (.short) x1 (fun e4 => (az_fit (.char) (vi ((bAnd e4 255) % 65536)) ∧ Q (some (vi ((bAnd e4 255) % 65536))) h3))))))) : cz G mJ1_charAt_3b067 (d + 1) 0 0 [vr x0, vi x1] h Q := by
  refine cz_of (ls := [some (vr x0), some (vi x1)]) (by decide +kernel) (Nat.le_of_ble_eq_true rfl) rfl ?_
  refine rz_iload_n dJ1_charAt_3b067_0 rfl (show _ = some (some (vi x1)) from rfl) ?_
  refine rz_aload_n dJ1_charAt_3b067_1 rfl (show _ = some (some (vr x0)) from rfl) ?_
  replace hF := nnR_e hF
  obtain ⟨a1, ea1, hF⟩ := hF
  subst ea1
  replace hF := alk_e hF
  obtain ⟨xs, n2, hg, hn, hF⟩ := hF
  refine rz_alenK dJ1_charAt_3b067_2 hg hn ?_
  refine rz_callS (mc' := 0) (ms' := 0) (mc := 0) (ms := 0) (st := []) dJ1_charAt_3b067_3 cS_J1_9 rfl rfl (Nat.le_of_ble_eq_true rfl) hF (fun v h3 hG => ?_)
  clear hF
  revert hG
  intro hF
  replace hF := atV_e hF
  obtain ⟨rfl, hF⟩ := hF
  refine rz_aload_n dJ1_charAt_3b067_6 rfl (show _ = some (some (vo a1)) from rfl) ?_
  refine rz_iload_n dJ1_charAt_3b067_7 rfl (show _ = some (some (vi x1)) from rfl) ?_
  replace hF := ldI_e hF
  obtain ⟨xs, hg, h0, h1, hF⟩ := hF
  refine rz_bldK dJ1_charAt_3b067_8 hg h0 h1 ?_
  generalize xs.getD _ 0 = e4 at hF ⊢
  refine rz_sipush (v := 255) dJ1_charAt_3b067_9 (by decide) (by decide) ?_
  refine rz_iand dJ1_charAt_3b067_12 ?_
  refine rz_i2c dJ1_charAt_3b067_13 ?_
  exact rz_iret dJ1_charAt_3b067_14 hF.1 hF.2
theorem vJ0_charAt_5068e {G : az_G} {d : Nat} {x0 : Nat} {x1 : Int} {h : az_H} {Q : Option az_V → az_H → Prop} (hF : rcv h x0 101 (cz G mJ0_isLatin1_aae02 d 0 0 [vo x0] h (fun v h1 => atI v (fun r2 => (if r2 = 0 then rdO h1 x0 101 0 (fun o3 => cz G mJ2_charAt_3b067 d 0 0 [vo o3, vi x1] h1 (fun v h4 => atI v (fun r5 => (az_fit (.char) (vi r5) ∧ Q (some (vi r5)) h4)))) else rdO h1 x0 101 0 (fun o6 => cz G mJ1_charAt_3b067 d 0 0 [vo o6, vi x1] h1 (fun v h7 => atI v (fun r8 => (az_fit (.char) (vi r8) ∧ Q (some (vi r8)) h7))))))))) : cz G mJ0_charAt_5068e (d + 1) 0 0 [vo x0, vi x1] h Q := by
  refine cz_of (ls := [some (vo x0), some (vi x1)]) (by decide +kernel) (Nat.le_of_ble_eq_true rfl) rfl ?_
  refine rz_aload_n dJ0_charAt_5068e_0 rfl (show _ = some (some (vo x0)) from rfl) ?_
  replace hF := rcv_e hF
  obtain ⟨fs, hg, hF⟩ := hF
  refine rz_callK (mc' := 0) (ms' := 0) (mc := 0) (ms := 0) (st := []) dJ0_charAt_5068e_1 cV_J0_492 rfl hg rfl rfl (Nat.le_of_ble_eq_true rfl) hF (fun v h1 hG => ?_)
  clear hF
  revert hG
  intro hF
  replace hF := atI_e hF
  obtain ⟨r2, rfl, hF⟩ := hF
  refine rz_if_eq (tgt := 16) dJ0_charAt_5068e_4 (by decide) (fun c => ?_) (fun c => ?_)
  · replace hF := ite_t hF c
    refine rz_aload_n dJ0_charAt_5068e_16 rfl (show _ = some (some (vo x0)) from rfl) ?_
    replace hF := rdO_e hF
    obtain ⟨fs, o3, hg, hv, hF⟩ := hF
    refine rz_getKv dJ0_charAt_5068e_17 k_1533 hg hv ?_
    refine rz_iload_n dJ0_charAt_5068e_20 rfl (show _ = some (some (vi x1)) from rfl) ?_
    refine rz_callS (mc' := 0) (ms' := 0) (mc := 0) (ms := 0) (st := []) dJ0_charAt_5068e_21 cS_J0_498 rfl rfl (Nat.le_of_ble_eq_true rfl) hF (fun v h4 hG => ?_)
    clear hF
    revert hG
    intro hF
    replace hF := atI_e hF
    obtain ⟨r5, rfl, hF⟩ := hF
    exact rz_iret dJ0_charAt_5068e_24 hF.1 hF.2
  · replace hF := ite_f hF c
    refine rz_aload_n dJ0_charAt_5068e_7 rfl (show _ = some (some (vo x0)) from rfl) ?_
    replace hF := rdO_e hF
    obtain ⟨fs, o6, hg, hv, hF⟩ := hF
    refine rz_getKv dJ0_charAt_5068e_8 k_1533 hg hv ?_
    refine rz_iload_n dJ0_charAt_5068e_11 rfl (show _ = some (some (vi x1)) from rfl) ?_
    refine rz_callS (mc' := 0) (ms' := 0) (mc := 0) (ms := 0) (st := []) dJ0_charAt_5068e_12 cS_J0_495 rfl rfl (Nat.le_of_ble_eq_true rfl) hF (fun v h7 hG => ?_)
    clear hF
    revert hG
    intro hF
    replace hF := atI_e hF
    obtain ⟨r8, rfl, hF⟩ := hF
    exact rz_iret dJ0_charAt_5068e_15 hF.1 hF.2
def pX8_isSpelled_20 (G : az_G) (d : Nat) (x0 : Nat) (x1 : Option Nat) (x2 : Int) (h : az_H) (Q : Option az_V → az_H → Prop) : Prop := ez G mX8_isSpelled (d + 1) 0 0 20 [some (vo x0), some (vr x1), some (vi x2)] [] h Q
theorem vX8_isSpelled_20 {G : az_G} {d : Nat} {x0 : Nat} {x1 : Option Nat} {x2 : Int} {h : az_H} {Q : Option az_V → az_H → Prop} (hF : nnR x1 (fun a2 => rcv h a2 101 (cz G mJ0_length_8abf5 d 0 0 [vo a2] h (fun v h1 => atI v (fun r3 => (if r3 ≤ x2 then Q (some (vi 1)) h1 else rdO h1 x0 8 0 (fun o4 => rdI h1 x0 8 2 (fun f5 => ldI h1 o4 (.byte) (w32 (f5 + x2)) (fun e6 => rcv h1 a2 101 (cz G mJ0_charAt_5068e d 0 0 [vo a2, vi x2] h1 (fun v h7 => atI v (fun r8 => (if e6 = r8 then pX8_isSpelled_20 G d x0 (some a2) (w32 (x2 + 1)) h7 Q else Q (some (vi 0)) h7))))))))))))) : pX8_isSpelled_20 G d x0 x1 x2 h Q := by
  unfold pX8_isSpelled_20
  refine rz_iload_n dX8_isSpelled_20 rfl (show _ = some (some (vi x2)) from rfl) ?_
  refine rz_aload_n dX8_isSpelled_21 rfl (show _ = some (some (vr x1)) from rfl) ?_
  replace hF := nnR_e hF
  obtain ⟨a2, ea2, hF⟩ := hF
  subst ea2
  replace hF := rcv_e hF
  obtain ⟨fs, hg, hF⟩ := hF
  refine rz_callK (mc' := 0) (ms' := 0) (mc := 0) (ms := 0) (st := [vi x2]) dX8_isSpelled_22 cV_X8_75 rfl hg rfl rfl (Nat.le_of_ble_eq_true rfl) hF (fun v h1 hG => ?_)
  clear hF
  revert hG
  intro hF
  replace hF := atI_e hF
  obtain ⟨r3, rfl, hF⟩ := hF
  refine rz_icmp_ge (tgt := 55) dX8_isSpelled_25 (by decide) (fun c => ?_) (fun c => ?_)
  · replace hF := ite_t hF c
    refine rz_iconst dX8_isSpelled_55 rfl (by decide) ?_
    exact rz_iret dX8_isSpelled_56 (Or.inr rfl) hF
  · replace hF := ite_f hF c
    refine rz_aload_n dX8_isSpelled_28 rfl (show _ = some (some (vo x0)) from rfl) ?_
    replace hF := rdO_e hF
    obtain ⟨fs, o4, hg, hv, hF⟩ := hF
    refine rz_getf dX8_isSpelled_29 fl_X8_11 hg hv ?_
    refine rz_aload_n dX8_isSpelled_32 rfl (show _ = some (some (vo x0)) from rfl) ?_
    replace hF := rdI_e hF
    obtain ⟨fs, f5, hg, hv, hF⟩ := hF
    refine rz_getf dX8_isSpelled_33 fl_X8_25 hg hv ?_
    refine rz_iload_n dX8_isSpelled_36 rfl (show _ = some (some (vi x2)) from rfl) ?_
    refine rz_iadd dX8_isSpelled_37 ?_
    replace hF := ldI_e hF
    obtain ⟨xs, hg, h0, h1, hF⟩ := hF
    refine rz_bald dX8_isSpelled_38 hg h0 h1 ?_
    generalize xs.getD _ 0 = e6 at hF ⊢
    refine rz_aload_n dX8_isSpelled_39 rfl (show _ = some (some (vo a2)) from rfl) ?_
    refine rz_iload_n dX8_isSpelled_40 rfl (show _ = some (some (vi x2)) from rfl) ?_
    replace hF := rcv_e hF
    obtain ⟨fs, hg, hF⟩ := hF
    refine rz_callK (mc' := 0) (ms' := 0) (mc := 0) (ms := 0) (st := [vi e6]) dX8_isSpelled_41 cV_X8_77 rfl hg rfl rfl (Nat.le_of_ble_eq_true rfl) hF (fun v h7 hG => ?_)
    clear hF
    revert hG
    intro hF
    replace hF := atI_e hF
    obtain ⟨r8, rfl, hF⟩ := hF
    refine rz_icmp_eq (tgt := 49) dX8_isSpelled_44 (by decide) (fun c => ?_) (fun c => ?_)
    · replace hF := ite_t hF c
      refine rz_iinc (ls' := [some (vo x0), some (vo a2), some (vi (w32 (x2 + 1)))]) dX8_isSpelled_49 rfl (Nat.le_of_ble_eq_true rfl) rfl ?_
      refine rz_goto (tgt := 20) dX8_isSpelled_52 (by decide) ?_
      exact hF
    · replace hF := ite_f hF c
      refine rz_iconst dX8_isSpelled_47 rfl (by decide) ?_
      exact rz_iret dX8_isSpelled_48 (Or.inl rfl) hF
theorem vX8_isSpelled {G : az_G} {d : Nat} {x0 : Nat} {x1 : Option Nat} {h : az_H} {Q : Option az_V → az_H → Prop} (hF : rdI h x0 8 3 (fun f1 => rdI h x0 8 2 (fun f2 => nnR x1 (fun a4 => rcv h a4 101 (cz G mJ0_length_8abf5 d 0 0 [vo a4] h (fun v h3 => atI v (fun r5 => (if w32 (f1 - f2) = r5 then pX8_isSpelled_20 G d x0 (some a4) 0 h3 Q else Q (some (vi 0)) h3)))))))) : cz G mX8_isSpelled (d + 1) 0 0 [vo x0, vr x1] h Q := by
  refine cz_of (ls := [some (vo x0), some (vr x1), none]) (by decide +kernel) (Nat.le_of_ble_eq_true rfl) rfl ?_
  refine rz_aload_n dX8_isSpelled_0 rfl (show _ = some (some (vo x0)) from rfl) ?_
  replace hF := rdI_e hF
  obtain ⟨fs, f1, hg, hv, hF⟩ := hF
  refine rz_getf dX8_isSpelled_1 fl_X8_34 hg hv ?_
  refine rz_aload_n dX8_isSpelled_4 rfl (show _ = some (some (vo x0)) from rfl) ?_
  replace hF := rdI_e hF
  obtain ⟨fs, f2, hg, hv, hF⟩ := hF
  refine rz_getf dX8_isSpelled_5 fl_X8_25 hg hv ?_
  refine rz_isub dX8_isSpelled_8 ?_
  refine rz_aload_n dX8_isSpelled_9 rfl (show _ = some (some (vr x1)) from rfl) ?_
  replace hF := nnR_e hF
  obtain ⟨a4, ea4, hF⟩ := hF
  subst ea4
  replace hF := rcv_e hF
  obtain ⟨fs, hg, hF⟩ := hF
  refine rz_callK (mc' := 0) (ms' := 0) (mc := 0) (ms := 0) (st := [vi (w32 (f1 - f2))]) dX8_isSpelled_10 cV_X8_75 rfl hg rfl rfl (Nat.le_of_ble_eq_true rfl) hF (fun v h3 hG => ?_)
  clear hF
  revert hG
  intro hF
  replace hF := atI_e hF
  obtain ⟨r5, rfl, hF⟩ := hF
  refine rz_icmp_eq (tgt := 18) dX8_isSpelled_13 (by decide) (fun c => ?_) (fun c => ?_)
  · replace hF := ite_t hF c
    refine rz_iconst dX8_isSpelled_18 rfl (by decide) ?_
    refine rz_istore_n (ls' := [some (vo x0), some (vo a4), some (vi 0)]) dX8_isSpelled_19 rfl (Nat.le_of_ble_eq_true rfl) rfl ?_
    exact hF
  · replace hF := ite_f hF c
    refine rz_iconst dX8_isSpelled_16 rfl (by decide) ?_
    exact rz_iret dX8_isSpelled_17 (Or.inl rfl) hF
theorem vX8_moneyWord {G : az_G} {d : Nat} {x0 : Nat} {h : az_H} {Q : Option az_V → az_H → Prop} (hF : rdI h x0 8 3 (fun f1 => rdI h x0 8 2 (fun f2 => (if w32 (f1 - f2) = 2 then rdO h x0 8 0 (fun o3 => rdI h x0 8 2 (fun f4 => ldI h o3 (.byte) f4 (fun e5 => (if e5 = 109 then rdO h x0 8 0 (fun o6 => rdI h x0 8 2 (fun f7 => ldI h o6 (.byte) (w32 (f7 + 1)) (fun e8 => (if w32 (e8 - 48) < 0 then Q (some (vi 9)) h else (if 4 ≤ w32 (e8 - 48) then Q (some (vi 9)) h else Q (some (vi (w32 (5 + (w32 (e8 - 48)))))) h))))) else Q (some (vi 9)) h)))) else Q (some (vi 9)) h)))) : cz G mX8_moneyWord d 0 0 [vo x0] h Q := by
  refine cz_of (ls := [some (vo x0), none]) (by decide +kernel) (Nat.le_of_ble_eq_true rfl) rfl ?_
  refine rz_aload_n dX8_moneyWord_0 rfl (show _ = some (some (vo x0)) from rfl) ?_
  replace hF := rdI_e hF
  obtain ⟨fs, f1, hg, hv, hF⟩ := hF
  refine rz_getf dX8_moneyWord_1 fl_X8_34 hg hv ?_
  refine rz_aload_n dX8_moneyWord_4 rfl (show _ = some (some (vo x0)) from rfl) ?_
  replace hF := rdI_e hF
  obtain ⟨fs, f2, hg, hv, hF⟩ := hF
  refine rz_getf dX8_moneyWord_5 fl_X8_25 hg hv ?_
  refine rz_isub dX8_moneyWord_8 ?_
  refine rz_iconst dX8_moneyWord_9 rfl (by decide) ?_
  refine rz_icmp_ne (tgt := 27) dX8_moneyWord_10 (by decide) (fun c => ?_) (fun c => ?_)
  · replace hF := ite_f hF c
    refine rz_bipush (v := 9) dX8_moneyWord_27 (by decide) (by decide) ?_
    exact rz_iret dX8_moneyWord_29 trivial hF
  · replace hF := ite_t hF c
    refine rz_aload_n dX8_moneyWord_13 rfl (show _ = some (some (vo x0)) from rfl) ?_
    replace hF := rdO_e hF
    obtain ⟨fs, o3, hg, hv, hF⟩ := hF
    refine rz_getf dX8_moneyWord_14 fl_X8_11 hg hv ?_
    refine rz_aload_n dX8_moneyWord_17 rfl (show _ = some (some (vo x0)) from rfl) ?_
    replace hF := rdI_e hF
    obtain ⟨fs, f4, hg, hv, hF⟩ := hF
    refine rz_getf dX8_moneyWord_18 fl_X8_25 hg hv ?_
    replace hF := ldI_e hF
    obtain ⟨xs, hg, h0, h1, hF⟩ := hF
    refine rz_bald dX8_moneyWord_21 hg h0 h1 ?_
    generalize xs.getD _ 0 = e5 at hF ⊢
    refine rz_bipush (v := 109) dX8_moneyWord_22 (by decide) (by decide) ?_
    refine rz_icmp_eq (tgt := 30) dX8_moneyWord_24 (by decide) (fun c => ?_) (fun c => ?_)
    · replace hF := ite_t hF c
      refine rz_aload_n dX8_moneyWord_30 rfl (show _ = some (some (vo x0)) from rfl) ?_
      replace hF := rdO_e hF
      obtain ⟨fs, o6, hg, hv, hF⟩ := hF
      refine rz_getf dX8_moneyWord_31 fl_X8_11 hg hv ?_
      refine rz_aload_n dX8_moneyWord_34 rfl (show _ = some (some (vo x0)) from rfl) ?_
      replace hF := rdI_e hF
      obtain ⟨fs, f7, hg, hv, hF⟩ := hF
      refine rz_getf dX8_moneyWord_35 fl_X8_25 hg hv ?_
      refine rz_iconst dX8_moneyWord_38 rfl (by decide) ?_
      refine rz_iadd dX8_moneyWord_39 ?_
      replace hF := ldI_e hF
      obtain ⟨xs, hg, h0, h1, hF⟩ := hF
      refine rz_bald dX8_moneyWord_40 hg h0 h1 ?_
      generalize xs.getD _ 0 = e8 at hF ⊢
      refine rz_bipush (v := 48) dX8_moneyWord_41 (by decide) (by decide) ?_
      refine rz_isub dX8_moneyWord_43 ?_
      refine rz_istore_n (ls' := [some (vo x0), some (vi (w32 (e8 - 48)))]) dX8_moneyWord_44 rfl (Nat.le_of_ble_eq_true rfl) rfl ?_
      refine rz_iload_n dX8_moneyWord_45 rfl (show _ = some (some (vi (w32 (e8 - 48)))) from rfl) ?_
      refine rz_if_lt (tgt := 60) dX8_moneyWord_46 (by decide) (fun c => ?_) (fun c => ?_)
      · replace hF := ite_t hF c
        refine rz_bipush (v := 9) dX8_moneyWord_60 (by decide) (by decide) ?_
        exact rz_iret dX8_moneyWord_62 trivial hF
      · replace hF := ite_f hF c
        refine rz_iload_n dX8_moneyWord_49 rfl (show _ = some (some (vi (w32 (e8 - 48)))) from rfl) ?_
        refine rz_iconst dX8_moneyWord_50 rfl (by decide) ?_
        refine rz_icmp_ge (tgt := 60) dX8_moneyWord_51 (by decide) (fun c => ?_) (fun c => ?_)
        · replace hF := ite_t hF c
          refine rz_bipush (v := 9) dX8_moneyWord_60 (by decide) (by decide) ?_
          exact rz_iret dX8_moneyWord_62 trivial hF
        · replace hF := ite_f hF c
          refine rz_iconst dX8_moneyWord_54 rfl (by decide) ?_
          refine rz_iload_n dX8_moneyWord_55 rfl (show _ = some (some (vi (w32 (e8 - 48)))) from rfl) ?_
          refine rz_iadd dX8_moneyWord_56 ?_
          refine rz_goto (tgt := 62) dX8_moneyWord_57 (by decide) ?_
          exact rz_iret dX8_moneyWord_62 trivial hF
    · replace hF := ite_f hF c
      refine rz_bipush (v := 9) dX8_moneyWord_27 (by decide) (by decide) ?_
      exact rz_iret dX8_moneyWord_29 trivial hF
def pX8_readWord_5 (G : az_G) (d : Nat) (x0 : Nat) (x1 : Int) (h : az_H) (Q : Option az_V → az_H → Prop) : Prop := ez G mX8_readWord (d + 1) 0 0 5 [some (vo x0), some (vi x1)] [] h Q
def pX8_readWord_31 (G : az_G) (d : Nat) (x0 : Nat) (x1 : Int) (h : az_H) (Q : Option az_V → az_H → Prop) : Prop := ez G mX8_readWord (d + 1) 0 0 31 [some (vo x0), some (vi x1)] [] h Q
def pX8_readWord_57 (G : az_G) (d : Nat) (x0 : Nat) (x1 : Int) (h : az_H) (Q : Option az_V → az_H → Prop) : Prop := ez G mX8_readWord (d + 1) 0 0 57 [some (vo x0), some (vi x1)] [] h Q
theorem vX8_readWord_57 {G : az_G} {d : Nat} {x0 : Nat} {x1 : Int} {h : az_H} {Q : Option az_V → az_H → Prop} (hF : wrF h x0 8 3 (.int) (vi x1) (fun h1 => rdI h1 x0 8 2 (fun f2 => (if w32 (x1 - f2) = 1 then rdO h1 x0 8 0 (fun o15 => rdI h1 x0 8 2 (fun f16 => ldI h1 o15 (.byte) f16 (fun e17 => wrF h1 x0 8 4 (.int) (vi e17) (fun h18 => Q none h18)))) else rcv h1 x0 8 (cz G mX8_isSpelled d 0 0 [vo x0, vo 1] h1 (fun v h3 => atI v (fun r4 => (if r4 = 0 then rcv h3 x0 8 (cz G mX8_isSpelled d 0 0 [vo x0, vo 2] h3 (fun v h5 => atI v (fun r6 => (if r6 = 0 then rcv h5 x0 8 (cz G mX8_isSpelled d 0 0 [vo x0, vo 3] h5 (fun v h7 => atI v (fun r8 => (if r8 = 0 then rcv h7 x0 8 (cz G mX8_moneyWord d 0 0 [vo x0] h7 (fun v h9 => atI v (fun r10 => wrF h9 x0 8 4 (.int) (vi r10) (fun h11 => Q none h11)))) else wrF h7 x0 8 4 (.int) (vi 4) (fun h12 => Q none h12))))) else wrF h5 x0 8 4 (.int) (vi 3) (fun h13 => Q none h13))))) else wrF h3 x0 8 4 (.int) (vi 2) (fun h14 => Q none h14))))))))) : pX8_readWord_57 G d x0 x1 h Q := by
  unfold pX8_readWord_57
  refine rz_aload_n dX8_readWord_57 rfl (show _ = some (some (vo x0)) from rfl) ?_
  refine rz_iload_n dX8_readWord_58 rfl (show _ = some (some (vi x1)) from rfl) ?_
  replace hF := wrF_e hF
  obtain ⟨fs, hg, hv, hF⟩ := hF
  refine rz_putf dX8_readWord_59 fl_X8_34 (Or.inl rfl) hg hv ?_
  refine rz_iload_n dX8_readWord_62 rfl (show _ = some (some (vi x1)) from rfl) ?_
  refine rz_aload_n dX8_readWord_63 rfl (show _ = some (some (vo x0)) from rfl) ?_
  replace hF := rdI_e hF
  obtain ⟨fs, f2, hg, hv, hF⟩ := hF
  refine rz_getf dX8_readWord_64 fl_X8_25 hg hv ?_
  refine rz_isub dX8_readWord_67 ?_
  refine rz_iconst dX8_readWord_68 rfl (by decide) ?_
  refine rz_icmp_ne (tgt := 88) dX8_readWord_69 (by decide) (fun c => ?_) (fun c => ?_)
  · replace hF := ite_f hF c
    refine rz_aload_n dX8_readWord_88 rfl (show _ = some (some (vo x0)) from rfl) ?_
    refine rz_ldcS (i := 0) dX8_readWord_89 rfl (by decide) ?_
    replace hF := rcv_e hF
    obtain ⟨fs, hg, hF⟩ := hF
    refine rz_callV (mc' := 0) (ms' := 0) (mc := 0) (ms := 0) (st := []) dX8_readWord_91 cV_X8_63 rfl hg ⟨_, _, rfl⟩ rfl (Nat.le_of_ble_eq_true rfl) hF (fun v h3 hG => ?_)
    clear hF
    revert hG
    intro hF
    replace hF := atI_e hF
    obtain ⟨r4, rfl, hF⟩ := hF
    refine rz_if_eq (tgt := 105) dX8_readWord_94 (by decide) (fun c => ?_) (fun c => ?_)
    · replace hF := ite_t hF c
      refine rz_aload_n dX8_readWord_105 rfl (show _ = some (some (vo x0)) from rfl) ?_
      refine rz_ldcS (i := 1) dX8_readWord_106 rfl (by decide) ?_
      replace hF := rcv_e hF
      obtain ⟨fs, hg, hF⟩ := hF
      refine rz_callV (mc' := 0) (ms' := 0) (mc := 0) (ms := 0) (st := []) dX8_readWord_108 cV_X8_63 rfl hg ⟨_, _, rfl⟩ rfl (Nat.le_of_ble_eq_true rfl) hF (fun v h5 hG => ?_)
      clear hF
      revert hG
      intro hF
      replace hF := atI_e hF
      obtain ⟨r6, rfl, hF⟩ := hF
      refine rz_if_eq (tgt := 122) dX8_readWord_111 (by decide) (fun c => ?_) (fun c => ?_)
      · replace hF := ite_t hF c
        refine rz_aload_n dX8_readWord_122 rfl (show _ = some (some (vo x0)) from rfl) ?_
        refine rz_ldcS (i := 2) dX8_readWord_123 rfl (by decide) ?_
        replace hF := rcv_e hF
        obtain ⟨fs, hg, hF⟩ := hF
        refine rz_callV (mc' := 0) (ms' := 0) (mc := 0) (ms := 0) (st := []) dX8_readWord_125 cV_X8_63 rfl hg ⟨_, _, rfl⟩ rfl (Nat.le_of_ble_eq_true rfl) hF (fun v h7 hG => ?_)
        clear hF
        revert hG
        intro hF
        replace hF := atI_e hF
        obtain ⟨r8, rfl, hF⟩ := hF
        refine rz_if_eq (tgt := 139) dX8_readWord_128 (by decide) (fun c => ?_) (fun c => ?_)
        · replace hF := ite_t hF c
          refine rz_aload_n dX8_readWord_139 rfl (show _ = some (some (vo x0)) from rfl) ?_
          refine rz_aload_n dX8_readWord_140 rfl (show _ = some (some (vo x0)) from rfl) ?_
          replace hF := rcv_e hF
          obtain ⟨fs, hg, hF⟩ := hF
          refine rz_callV (mc' := 0) (ms' := 0) (mc := 0) (ms := 0) (st := [vo x0]) dX8_readWord_141 cV_X8_71 rfl hg ⟨_, _, rfl⟩ rfl (Nat.le_of_ble_eq_true rfl) hF (fun v h9 hG => ?_)
          clear hF
          revert hG
          intro hF
          replace hF := atI_e hF
          obtain ⟨r10, rfl, hF⟩ := hF
          replace hF := wrF_e hF
          obtain ⟨fs, hg, hv, hF⟩ := hF
          refine rz_putf dX8_readWord_144 fl_X8_28 (Or.inl rfl) hg hv ?_
          exact rz_vret dX8_readWord_147 trivial hF
        · replace hF := ite_f hF c
          refine rz_aload_n dX8_readWord_131 rfl (show _ = some (some (vo x0)) from rfl) ?_
          refine rz_iconst dX8_readWord_132 rfl (by decide) ?_
          replace hF := wrF_e hF
          obtain ⟨fs, hg, hv, hF⟩ := hF
          refine rz_putf dX8_readWord_133 fl_X8_28 (Or.inl rfl) hg hv ?_
          refine rz_goto (tgt := 147) dX8_readWord_136 (by decide) ?_
          exact rz_vret dX8_readWord_147 trivial hF
      · replace hF := ite_f hF c
        refine rz_aload_n dX8_readWord_114 rfl (show _ = some (some (vo x0)) from rfl) ?_
        refine rz_iconst dX8_readWord_115 rfl (by decide) ?_
        replace hF := wrF_e hF
        obtain ⟨fs, hg, hv, hF⟩ := hF
        refine rz_putf dX8_readWord_116 fl_X8_28 (Or.inl rfl) hg hv ?_
        refine rz_goto (tgt := 147) dX8_readWord_119 (by decide) ?_
        exact rz_vret dX8_readWord_147 trivial hF
    · replace hF := ite_f hF c
      refine rz_aload_n dX8_readWord_97 rfl (show _ = some (some (vo x0)) from rfl) ?_
      refine rz_iconst dX8_readWord_98 rfl (by decide) ?_
      replace hF := wrF_e hF
      obtain ⟨fs, hg, hv, hF⟩ := hF
      refine rz_putf dX8_readWord_99 fl_X8_28 (Or.inl rfl) hg hv ?_
      refine rz_goto (tgt := 147) dX8_readWord_102 (by decide) ?_
      exact rz_vret dX8_readWord_147 trivial hF
  · replace hF := ite_t hF c
    refine rz_aload_n dX8_readWord_72 rfl (show _ = some (some (vo x0)) from rfl) ?_
    refine rz_aload_n dX8_readWord_73 rfl (show _ = some (some (vo x0)) from rfl) ?_
    replace hF := rdO_e hF
    obtain ⟨fs, o15, hg, hv, hF⟩ := hF
    refine rz_getf dX8_readWord_74 fl_X8_11 hg hv ?_
    refine rz_aload_n dX8_readWord_77 rfl (show _ = some (some (vo x0)) from rfl) ?_
    replace hF := rdI_e hF
    obtain ⟨fs, f16, hg, hv, hF⟩ := hF
    refine rz_getf dX8_readWord_78 fl_X8_25 hg hv ?_
    replace hF := ldI_e hF
    obtain ⟨xs, hg, h0, h1, hF⟩ := hF
    refine rz_bald dX8_readWord_81 hg h0 h1 ?_
    generalize xs.getD _ 0 = e17 at hF ⊢
    replace hF := wrF_e hF
    obtain ⟨fs, hg, hv, hF⟩ := hF
    refine rz_putf dX8_readWord_82 fl_X8_28 (Or.inl rfl) hg hv ?_
    refine rz_goto (tgt := 147) dX8_readWord_85 (by decide) ?_
    exact rz_vret dX8_readWord_147 trivial hF
theorem vX8_readWord_31 {G : az_G} {d : Nat} {x0 : Nat} {x1 : Int} {h : az_H} {Q : Option az_V → az_H → Prop} (hF : rdI h x0 8 1 (fun f1 => (if f1 ≤ x1 then pX8_readWord_57 G d x0 x1 h Q else rdO h x0 8 0 (fun o2 => ldI h o2 (.byte) x1 (fun e3 => cz G mX8_isFigure d 0 0 [vi e3] h (fun v h4 => atI v (fun r5 => (if r5 = 0 then pX8_readWord_57 G d x0 x1 h4 Q else pX8_readWord_31 G d x0 (w32 (x1 + 1)) h4 Q)))))))) : pX8_readWord_31 G d x0 x1 h Q := by
  unfold pX8_readWord_31
  refine rz_iload_n dX8_readWord_31 rfl (show _ = some (some (vi x1)) from rfl) ?_
  refine rz_aload_n dX8_readWord_32 rfl (show _ = some (some (vo x0)) from rfl) ?_
  replace hF := rdI_e hF
  obtain ⟨fs, f1, hg, hv, hF⟩ := hF
  refine rz_getf dX8_readWord_33 fl_X8_15 hg hv ?_
  refine rz_icmp_ge (tgt := 57) dX8_readWord_36 (by decide) (fun c => ?_) (fun c => ?_)
  · replace hF := ite_t hF c
    exact hF
  · replace hF := ite_f hF c
    refine rz_aload_n dX8_readWord_39 rfl (show _ = some (some (vo x0)) from rfl) ?_
    replace hF := rdO_e hF
    obtain ⟨fs, o2, hg, hv, hF⟩ := hF
    refine rz_getf dX8_readWord_40 fl_X8_11 hg hv ?_
    refine rz_iload_n dX8_readWord_43 rfl (show _ = some (some (vi x1)) from rfl) ?_
    replace hF := ldI_e hF
    obtain ⟨xs, hg, h0, h1, hF⟩ := hF
    refine rz_bald dX8_readWord_44 hg h0 h1 ?_
    generalize xs.getD _ 0 = e3 at hF ⊢
    refine rz_callS (mc' := 0) (ms' := 0) (mc := 0) (ms := 0) (st := []) dX8_readWord_45 cS_X8_47 rfl rfl (Nat.le_of_ble_eq_true rfl) hF (fun v h4 hG => ?_)
    clear hF
    revert hG
    intro hF
    replace hF := atI_e hF
    obtain ⟨r5, rfl, hF⟩ := hF
    refine rz_if_eq (tgt := 57) dX8_readWord_48 (by decide) (fun c => ?_) (fun c => ?_)
    · replace hF := ite_t hF c
      exact hF
    · replace hF := ite_f hF c
      refine rz_iinc (ls' := [some (vo x0), some (vi (w32 (x1 + 1)))]) dX8_readWord_51 rfl (Nat.le_of_ble_eq_true rfl) rfl ?_
      refine rz_goto (tgt := 31) dX8_readWord_54 (by decide) ?_
      exact hF
theorem vX8_readWord_5 {G : az_G} {d : Nat} {x0 : Nat} {x1 : Int} {h : az_H} {Q : Option az_V → az_H → Prop} (hF : rdI h x0 8 1 (fun f1 => (if f1 ≤ x1 then pX8_readWord_31 G d x0 x1 h Q else rdO h x0 8 0 (fun o2 => ldI h o2 (.byte) x1 (fun e3 => cz G mX8_isLetter d 0 0 [vi e3] h (fun v h4 => atI v (fun r5 => (if r5 = 0 then pX8_readWord_31 G d x0 x1 h4 Q else pX8_readWord_5 G d x0 (w32 (x1 + 1)) h4 Q)))))))) : pX8_readWord_5 G d x0 x1 h Q := by
  unfold pX8_readWord_5
  refine rz_iload_n dX8_readWord_5 rfl (show _ = some (some (vi x1)) from rfl) ?_
  refine rz_aload_n dX8_readWord_6 rfl (show _ = some (some (vo x0)) from rfl) ?_
  replace hF := rdI_e hF
  obtain ⟨fs, f1, hg, hv, hF⟩ := hF
  refine rz_getf dX8_readWord_7 fl_X8_15 hg hv ?_
  refine rz_icmp_ge (tgt := 31) dX8_readWord_10 (by decide) (fun c => ?_) (fun c => ?_)
  · replace hF := ite_t hF c
    exact hF
  · replace hF := ite_f hF c
    refine rz_aload_n dX8_readWord_13 rfl (show _ = some (some (vo x0)) from rfl) ?_
    replace hF := rdO_e hF
    obtain ⟨fs, o2, hg, hv, hF⟩ := hF
    refine rz_getf dX8_readWord_14 fl_X8_11 hg hv ?_
    refine rz_iload_n dX8_readWord_17 rfl (show _ = some (some (vi x1)) from rfl) ?_
    replace hF := ldI_e hF
    obtain ⟨xs, hg, h0, h1, hF⟩ := hF
    refine rz_bald dX8_readWord_18 hg h0 h1 ?_
    generalize xs.getD _ 0 = e3 at hF ⊢
    refine rz_callS (mc' := 0) (ms' := 0) (mc := 0) (ms := 0) (st := []) dX8_readWord_19 cS_X8_40 rfl rfl (Nat.le_of_ble_eq_true rfl) hF (fun v h4 hG => ?_)
    clear hF
    revert hG
    intro hF
    replace hF := atI_e hF
    obtain ⟨r5, rfl, hF⟩ := hF
    refine rz_if_eq (tgt := 31) dX8_readWord_22 (by decide) (fun c => ?_) (fun c => ?_)
    · replace hF := ite_t hF c
      exact hF
    · replace hF := ite_f hF c
      refine rz_iinc (ls' := [some (vo x0), some (vi (w32 (x1 + 1)))]) dX8_readWord_25 rfl (Nat.le_of_ble_eq_true rfl) rfl ?_
      refine rz_goto (tgt := 5) dX8_readWord_28 (by decide) ?_
      exact hF
theorem vX8_readWord {G : az_G} {d : Nat} {x0 : Nat} {h : az_H} {Q : Option az_V → az_H → Prop} (hF : rdI h x0 8 2 (fun f1 => pX8_readWord_5 G d x0 f1 h Q)) : cz G mX8_readWord (d + 1) 0 0 [vo x0] h Q := by
  refine cz_of (ls := [some (vo x0), none]) (by decide +kernel) (Nat.le_of_ble_eq_true rfl) rfl ?_
  refine rz_aload_n dX8_readWord_0 rfl (show _ = some (some (vo x0)) from rfl) ?_
  replace hF := rdI_e hF
  obtain ⟨fs, f1, hg, hv, hF⟩ := hF
  refine rz_getf dX8_readWord_1 fl_X8_25 hg hv ?_
  refine rz_istore_n (ls' := [some (vo x0), some (vi f1)]) dX8_readWord_4 rfl (Nat.le_of_ble_eq_true rfl) rfl ?_
  exact hF
def pX8_readNumber_7 (G : az_G) (d : Nat) (x0 : Nat) (x1 : Int) (x2 : Int) (h : az_H) (Q : Option az_V → az_H → Prop) : Prop := ez G mX8_readNumber (d + 1) 0 0 7 [some (vo x0), some (vi x1), some (vi x2)] [] h Q
def pX8_readNumber_48 (G : az_G) (d : Nat) (x0 : Nat) (x1 : Int) (x2 : Int) (h : az_H) (Q : Option az_V → az_H → Prop) : Prop := ez G mX8_readNumber (d + 1) 0 0 48 [some (vo x0), some (vi x1), some (vi x2)] [] h Q
theorem vX8_readNumber_48 {G : az_G} {d : Nat} {x0 : Nat} {x1 : Int} {x2 : Int} {h : az_H} {Q : Option az_V → az_H → Prop} (hF : wrF h x0 8 3 (.int) (vi x1) (fun h1 => wrF h1 x0 8 5 (.int) (vi x2) (fun h2 => rdI h2 x0 8 2 (fun f3 => (if 9 < w32 (x1 - f3) then wrF h2 x0 8 4 (.int) (vi 9) (fun h4 => Q none h4) else wrF h2 x0 8 4 (.int) (vi 1) (fun h5 => Q none h5)))))) : pX8_readNumber_48 G d x0 x1 x2 h Q := by
  unfold pX8_readNumber_48
  refine rz_aload_n dX8_readNumber_48 rfl (show _ = some (some (vo x0)) from rfl) ?_
  refine rz_iload_n dX8_readNumber_49 rfl (show _ = some (some (vi x1)) from rfl) ?_
  replace hF := wrF_e hF
  obtain ⟨fs, hg, hv, hF⟩ := hF
  refine rz_putf dX8_readNumber_50 fl_X8_34 (Or.inl rfl) hg hv ?_
  refine rz_aload_n dX8_readNumber_53 rfl (show _ = some (some (vo x0)) from rfl) ?_
  refine rz_iload_n dX8_readNumber_54 rfl (show _ = some (some (vi x2)) from rfl) ?_
  replace hF := wrF_e hF
  obtain ⟨fs, hg, hv, hF⟩ := hF
  refine rz_putf dX8_readNumber_55 fl_X8_31 (Or.inl rfl) hg hv ?_
  refine rz_aload_n dX8_readNumber_58 rfl (show _ = some (some (vo x0)) from rfl) ?_
  refine rz_iload_n dX8_readNumber_59 rfl (show _ = some (some (vi x1)) from rfl) ?_
  refine rz_aload_n dX8_readNumber_60 rfl (show _ = some (some (vo x0)) from rfl) ?_
  replace hF := rdI_e hF
  obtain ⟨fs, f3, hg, hv, hF⟩ := hF
  refine rz_getf dX8_readNumber_61 fl_X8_25 hg hv ?_
  refine rz_isub dX8_readNumber_64 ?_
  refine rz_bipush (v := 9) dX8_readNumber_65 (by decide) (by decide) ?_
  refine rz_icmp_gt (tgt := 74) dX8_readNumber_67 (by decide) (fun c => ?_) (fun c => ?_)
  · replace hF := ite_t hF c
    refine rz_bipush (v := 9) dX8_readNumber_74 (by decide) (by decide) ?_
    replace hF := wrF_e hF
    obtain ⟨fs, hg, hv, hF⟩ := hF
    refine rz_putf dX8_readNumber_76 fl_X8_28 (Or.inl rfl) hg hv ?_
    exact rz_vret dX8_readNumber_79 trivial hF
  · replace hF := ite_f hF c
    refine rz_iconst dX8_readNumber_70 rfl (by decide) ?_
    refine rz_goto (tgt := 76) dX8_readNumber_71 (by decide) ?_
    replace hF := wrF_e hF
    obtain ⟨fs, hg, hv, hF⟩ := hF
    refine rz_putf dX8_readNumber_76 fl_X8_28 (Or.inl rfl) hg hv ?_
    exact rz_vret dX8_readNumber_79 trivial hF
theorem vX8_readNumber_7 {G : az_G} {d : Nat} {x0 : Nat} {x1 : Int} {x2 : Int} {h : az_H} {Q : Option az_V → az_H → Prop} (hF : rdI h x0 8 1 (fun f1 => (if f1 ≤ x1 then pX8_readNumber_48 G d x0 x1 x2 h Q else rdO h x0 8 0 (fun o2 => ldI h o2 (.byte) x1 (fun e3 => cz G mX8_isFigure d 0 0 [vi e3] h (fun v h4 => atI v (fun r5 => (if r5 = 0 then pX8_readNumber_48 G d x0 x1 x2 h4 Q else rdO h4 x0 8 0 (fun o6 => ldI h4 o6 (.byte) x1 (fun e7 => pX8_readNumber_7 G d x0 (w32 (x1 + 1)) (w32 ((w32 (x2 * 10)) + (w32 (e7 - 48)))) h4 Q)))))))))) : pX8_readNumber_7 G d x0 x1 x2 h Q := by
  unfold pX8_readNumber_7
  refine rz_iload_n dX8_readNumber_7 rfl (show _ = some (some (vi x1)) from rfl) ?_
  refine rz_aload_n dX8_readNumber_8 rfl (show _ = some (some (vo x0)) from rfl) ?_
  replace hF := rdI_e hF
  obtain ⟨fs, f1, hg, hv, hF⟩ := hF
  refine rz_getf dX8_readNumber_9 fl_X8_15 hg hv ?_
  refine rz_icmp_ge (tgt := 48) dX8_readNumber_12 (by decide) (fun c => ?_) (fun c => ?_)
  · replace hF := ite_t hF c
    exact hF
  · replace hF := ite_f hF c
    refine rz_aload_n dX8_readNumber_15 rfl (show _ = some (some (vo x0)) from rfl) ?_
    replace hF := rdO_e hF
    obtain ⟨fs, o2, hg, hv, hF⟩ := hF
    refine rz_getf dX8_readNumber_16 fl_X8_11 hg hv ?_
    refine rz_iload_n dX8_readNumber_19 rfl (show _ = some (some (vi x1)) from rfl) ?_
    replace hF := ldI_e hF
    obtain ⟨xs, hg, h0, h1, hF⟩ := hF
    refine rz_bald dX8_readNumber_20 hg h0 h1 ?_
    generalize xs.getD _ 0 = e3 at hF ⊢
    refine rz_callS (mc' := 0) (ms' := 0) (mc := 0) (ms := 0) (st := []) dX8_readNumber_21 cS_X8_47 rfl rfl (Nat.le_of_ble_eq_true rfl) hF (fun v h4 hG => ?_)
    clear hF
    revert hG
    intro hF
    replace hF := atI_e hF
    obtain ⟨r5, rfl, hF⟩ := hF
    refine rz_if_eq (tgt := 48) dX8_readNumber_24 (by decide) (fun c => ?_) (fun c => ?_)
    · replace hF := ite_t hF c
      exact hF
    · replace hF := ite_f hF c
      refine rz_iload_n dX8_readNumber_27 rfl (show _ = some (some (vi x2)) from rfl) ?_
      refine rz_bipush (v := 10) dX8_readNumber_28 (by decide) (by decide) ?_
      refine rz_imul dX8_readNumber_30 ?_
      refine rz_aload_n dX8_readNumber_31 rfl (show _ = some (some (vo x0)) from rfl) ?_
      replace hF := rdO_e hF
      obtain ⟨fs, o6, hg, hv, hF⟩ := hF
      refine rz_getf dX8_readNumber_32 fl_X8_11 hg hv ?_
      refine rz_iload_n dX8_readNumber_35 rfl (show _ = some (some (vi x1)) from rfl) ?_
      replace hF := ldI_e hF
      obtain ⟨xs, hg, h0, h1, hF⟩ := hF
      refine rz_bald dX8_readNumber_36 hg h0 h1 ?_
      generalize xs.getD _ 0 = e7 at hF ⊢
      refine rz_bipush (v := 48) dX8_readNumber_37 (by decide) (by decide) ?_
      refine rz_isub dX8_readNumber_39 ?_
      refine rz_iadd dX8_readNumber_40 ?_
      refine rz_istore_n (ls' := [some (vo x0), some (vi x1), some (vi (w32 ((w32 (x2 * 10)) + (w32 (e7 - 48)))))]) dX8_readNumber_41 rfl (Nat.le_of_ble_eq_true rfl) rfl ?_
      refine rz_iinc (ls' := [some (vo x0), some (vi (w32 (x1 + 1))), some (vi (w32 ((w32 (x2 * 10)) + (w32 (e7 - 48)))))]) dX8_readNumber_42 rfl (Nat.le_of_ble_eq_true rfl) rfl ?_
      refine rz_goto (tgt := 7) dX8_readNumber_45 (by decide) ?_
      exact hF
theorem vX8_readNumber {G : az_G} {d : Nat} {x0 : Nat} {h : az_H} {Q : Option az_V → az_H → Prop} (hF : rdI h x0 8 2 (fun f1 => pX8_readNumber_7 G d x0 f1 0 h Q)) : cz G mX8_readNumber (d + 1) 0 0 [vo x0] h Q := by
  refine cz_of (ls := [some (vo x0), none, none]) (by decide +kernel) (Nat.le_of_ble_eq_true rfl) rfl ?_
  refine rz_aload_n dX8_readNumber_0 rfl (show _ = some (some (vo x0)) from rfl) ?_
  replace hF := rdI_e hF
  obtain ⟨fs, f1, hg, hv, hF⟩ := hF
  refine rz_getf dX8_readNumber_1 fl_X8_25 hg hv ?_
  refine rz_istore_n (ls' := [some (vo x0), some (vi f1), none]) dX8_readNumber_4 rfl (Nat.le_of_ble_eq_true rfl) rfl ?_
  refine rz_iconst dX8_readNumber_5 rfl (by decide) ?_
  refine rz_istore_n (ls' := [some (vo x0), some (vi f1), some (vi 0)]) dX8_readNumber_6 rfl (Nat.le_of_ble_eq_true rfl) rfl ?_
  exact hF
theorem vJ1_canEncode_9a6ad {G : az_G} {d : Nat} {x0 : Int} {h : az_H} {Q : Option az_V → az_H → Prop} (hF : (if x0 < 0 then Q (some (vi 0)) h else (if 255 < x0 then Q (some (vi 0)) h else Q (some (vi 1)) h))) : cz G mJ1_canEncode_9a6ad d 0 0 [vi x0] h Q := by
  refine cz_of (ls := [some (vi x0)]) (by decide +kernel) (Nat.le_of_ble_eq_true rfl) rfl ?_
  refine rz_iload_n dJ1_canEncode_9a6ad_0 rfl (show _ = some (some (vi x0)) from rfl) ?_
  refine rz_if_lt (tgt := 15) dJ1_canEncode_9a6ad_1 (by decide) (fun c => ?_) (fun c => ?_)
  · replace hF := ite_t hF c
    refine rz_iconst dJ1_canEncode_9a6ad_15 rfl (by decide) ?_
    exact rz_iret dJ1_canEncode_9a6ad_16 (Or.inl rfl) hF
  · replace hF := ite_f hF c
    refine rz_iload_n dJ1_canEncode_9a6ad_4 rfl (show _ = some (some (vi x0)) from rfl) ?_
    refine rz_sipush (v := 255) dJ1_canEncode_9a6ad_5 (by decide) (by decide) ?_
    refine rz_icmp_gt (tgt := 15) dJ1_canEncode_9a6ad_8 (by decide) (fun c => ?_) (fun c => ?_)
    · replace hF := ite_t hF c
      refine rz_iconst dJ1_canEncode_9a6ad_15 rfl (by decide) ?_
      exact rz_iret dJ1_canEncode_9a6ad_16 (Or.inl rfl) hF
    · replace hF := ite_f hF c
      refine rz_iconst dJ1_canEncode_9a6ad_11 rfl (by decide) ?_
      refine rz_goto (tgt := 16) dJ1_canEncode_9a6ad_12 (by decide) ?_
      exact rz_iret dJ1_canEncode_9a6ad_16 (Or.inr rfl) hF
def pJ1_indexOfChar_4cfef_7 (G : az_G) (d : Nat) (x0 : Option Nat) (x3 : Int) (x4 : Int) (x5 : Int) (h : az_H) (Q : Option az_V → az_H → Prop) : Prop := ez G mJ1_indexOfChar_4cfef d 0 0 7 [some (vr x0), none, none, some (vi x3), some (vi x4), some (vi x5)] [] h Q
theorem vJ1_indexOfChar_4cfef_7 {G : az_G} {d : Nat} {x0 : Option Nat} {x3 : Int} {x4 : Int} {x5 : Int} {h : az_H} {Q : Option az_V → az_H → Prop} (hF : (if x3 ≤ x5 then Q (some (vi ((-1)))) h else nnR x0 (fun a1 => ldI h a1 (.short) x5 (fun e2 => (if e2 = x4 then Q (some (vi x5)) h else pJ1_indexOfChar_4cfef_7 G d (some a1) x3 x4 (w32 (x5 + 1)) h Q))))) : pJ1_indexOfChar_4cfef_7 G d x0 x3 x4 x5 h Q := by
  unfold pJ1_indexOfChar_4cfef_7
  refine rz_iload dJ1_indexOfChar_4cfef_7 (show _ = some (some (vi x5)) from rfl) ?_
  refine rz_iload_n dJ1_indexOfChar_4cfef_9 rfl (show _ = some (some (vi x3)) from rfl) ?_
  refine rz_icmp_ge (tgt := 31) dJ1_indexOfChar_4cfef_10 (by decide) (fun c => ?_) (fun c => ?_)
  · replace hF := ite_t hF c
    refine rz_iconst dJ1_indexOfChar_4cfef_31 rfl (by decide) ?_
    exact rz_iret dJ1_indexOfChar_4cfef_32 trivial hF
  · replace hF := ite_f hF c
    refine rz_aload_n dJ1_indexOfChar_4cfef_13 rfl (show _ = some (some (vr x0)) from rfl) ?_
    refine rz_iload dJ1_indexOfChar_4cfef_14 (show _ = some (some (vi x5)) from rfl) ?_
    replace hF := nnR_e hF
    obtain ⟨a1, ea1, hF⟩ := hF
    subst ea1
    replace hF := ldI_e hF
    obtain ⟨xs, hg, h0, h1, hF⟩ := hF
    refine rz_bldK dJ1_indexOfChar_4cfef_16 hg h0 h1 ?_
    generalize xs.getD _ 0 = e2 at hF ⊢
    refine rz_iload dJ1_indexOfChar_4cfef_17 (show _ = some (some (vi x4)) from rfl) ?_
    refine rz_icmp_ne (tgt := 25) dJ1_indexOfChar_4cfef_19 (by decide) (fun c => ?_) (fun c => ?_)
    · replace hF := ite_f hF c
      refine rz_iinc (ls' := [some (vo a1), none, none, some (vi x3), some (vi x4), some (vi (w32 (x5 + 1)))]) dJ1_indexOfChar_4cfef_25 rfl (Nat.le_of_ble_eq_true rfl) rfl ?_
      refine rz_goto (tgt := 7) dJ1_indexOfChar_4cfef_28 (by decide) ?_
      exact hF
    · replace hF := ite_t hF c
      refine rz_iload dJ1_indexOfChar_4cfef_22 (show _ = some (some (vi x5)) from rfl) ?_
      exact rz_iret dJ1_indexOfChar_4cfef_24 trivial hF
theorem vJ1_indexOfChar_4cfef {G : az_G} {d : Nat} {x0 : Option Nat} {x1 : Int} {x2 : Int} {x3 : Int} {h : az_H} {Q : Option az_V → az_H → Prop} (hF : pJ1_indexOfChar_4cfef_7 G d x0 x3 (w8 x1) x2 h Q) : cz G mJ1_indexOfChar_4cfef d 0 0 [vr x0, vi x1, vi x2, vi x3] h Q := by
  refine cz_of (ls := [some (vr x0), some (vi x1), some (vi x2), some (vi x3), none, none]) (by decide +kernel) (Nat.le_of_ble_eq_true rfl) rfl ?_
  refine rz_iload_n dJ1_indexOfChar_4cfef_0 rfl (show _ = some (some (vi x1)) from rfl) ?_
  refine rz_i2b dJ1_indexOfChar_4cfef_1 ?_
  refine rz_istore (ls' := [some (vr x0), some (vi x1), some (vi x2), some (vi x3), some (vi (w8 x1)), none]) dJ1_indexOfChar_4cfef_2 (Nat.le_of_ble_eq_true rfl) rfl ?_
  refine rz_iload_n dJ1_indexOfChar_4cfef_4 rfl (show _ = some (some (vi x2)) from rfl) ?_
  refine rz_istore (ls' := [some (vr x0), some (vi x1), some (vi x2), some (vi x3), some (vi (w8 x1)), some (vi x2)]) dJ1_indexOfChar_4cfef_5 (Nat.le_of_ble_eq_true rfl) rfl ?_
  refine ez_kp [true, false, false, true, true, true] rfl ?_
  exact hF
theorem vJ1_indexOf_4cfef {G : az_G} {d : Nat} {x0 : Option Nat} {x1 : Int} {x2 : Int} {x3 : Int} {h : az_H} {Q : Option az_V → az_H → Prop} (hF : cz G mJ1_canEncode_9a6ad d 0 0 [vi x1] h (fun v h1 => atI v (fun r2 => (if r2 = 0 then Q (some (vi ((-1)))) h1 else cz G mJ9_max_7cf53 d 0 0 [vi x2, vi 0] h1 (fun v h3 => atI v (fun r4 => nnR x0 (fun a5 => alk h3 a5 (fun n6 => cz G mJ9_min_7cf53 d 0 0 [vi x3, vi n6] h3 (fun v h7 => atI v (fun r8 => (if r4 < r8 then cz G mJ1_indexOfChar_4cfef d 0 0 [vo a5, vi x1, vi r4, vi r8] h7 (fun v h9 => atI v (fun r10 => Q (some (vi r10)) h9)) else Q (some (vi ((-1)))) h7))))))))))) : cz G mJ1_indexOf_4cfef (d + 1) 0 0 [vr x0, vi x1, vi x2, vi x3] h Q := by
  refine cz_of (ls := [some (vr x0), some (vi x1), some (vi x2), some (vi x3)]) (by decide +kernel) (Nat.le_of_ble_eq_true rfl) rfl ?_
  refine rz_iload_n dJ1_indexOf_4cfef_0 rfl (show _ = some (some (vi x1)) from rfl) ?_
  refine rz_callS (mc' := 0) (ms' := 0) (mc := 0) (ms := 0) (st := []) dJ1_indexOf_4cfef_1 cS_J1_88 rfl rfl (Nat.le_of_ble_eq_true rfl) hF (fun v h1 hG => ?_)
  clear hF
  revert hG
  intro hF
  replace hF := atI_e hF
  obtain ⟨r2, rfl, hF⟩ := hF
  refine rz_if_ne (tgt := 9) dJ1_indexOf_4cfef_4 (by decide) (fun c => ?_) (fun c => ?_)
  · replace hF := ite_f hF c
    refine rz_iload_n dJ1_indexOf_4cfef_9 rfl (show _ = some (some (vi x2)) from rfl) ?_
    refine rz_iconst dJ1_indexOf_4cfef_10 rfl (by decide) ?_
    refine rz_callS (mc' := 0) (ms' := 0) (mc := 0) (ms := 0) (st := []) dJ1_indexOf_4cfef_11 cS_J1_92 rfl rfl (Nat.le_of_ble_eq_true rfl) hF (fun v h3 hG => ?_)
    clear hF
    revert hG
    intro hF
    replace hF := atI_e hF
    obtain ⟨r4, rfl, hF⟩ := hF
    refine rz_istore_n (ls' := [some (vr x0), some (vi x1), some (vi r4), some (vi x3)]) dJ1_indexOf_4cfef_14 rfl (Nat.le_of_ble_eq_true rfl) rfl ?_
    refine rz_iload_n dJ1_indexOf_4cfef_15 rfl (show _ = some (some (vi x3)) from rfl) ?_
    refine rz_aload_n dJ1_indexOf_4cfef_16 rfl (show _ = some (some (vr x0)) from rfl) ?_
    replace hF := nnR_e hF
    obtain ⟨a5, ea5, hF⟩ := hF
    subst ea5
    replace hF := alk_e hF
    obtain ⟨xs, n6, hg, hn, hF⟩ := hF
    refine rz_alenK dJ1_indexOf_4cfef_17 hg hn ?_
    refine rz_callS (mc' := 0) (ms' := 0) (mc := 0) (ms := 0) (st := []) dJ1_indexOf_4cfef_18 cS_J1_38 rfl rfl (Nat.le_of_ble_eq_true rfl) hF (fun v h7 hG => ?_)
    clear hF
    revert hG
    intro hF
    replace hF := atI_e hF
    obtain ⟨r8, rfl, hF⟩ := hF
    refine rz_istore_n (ls' := [some (vo a5), some (vi x1), some (vi r4), some (vi r8)]) dJ1_indexOf_4cfef_21 rfl (Nat.le_of_ble_eq_true rfl) rfl ?_
    refine rz_iload_n dJ1_indexOf_4cfef_22 rfl (show _ = some (some (vi r4)) from rfl) ?_
    refine rz_iload_n dJ1_indexOf_4cfef_23 rfl (show _ = some (some (vi r8)) from rfl) ?_
    refine rz_icmp_lt (tgt := 29) dJ1_indexOf_4cfef_24 (by decide) (fun c => ?_) (fun c => ?_)
    · replace hF := ite_t hF c
      refine rz_aload_n dJ1_indexOf_4cfef_29 rfl (show _ = some (some (vo a5)) from rfl) ?_
      refine rz_iload_n dJ1_indexOf_4cfef_30 rfl (show _ = some (some (vi x1)) from rfl) ?_
      refine rz_iload_n dJ1_indexOf_4cfef_31 rfl (show _ = some (some (vi r4)) from rfl) ?_
      refine rz_iload_n dJ1_indexOf_4cfef_32 rfl (show _ = some (some (vi r8)) from rfl) ?_
      refine rz_callS (mc' := 0) (ms' := 0) (mc := 0) (ms := 0) (st := []) dJ1_indexOf_4cfef_33 cS_J1_95 rfl rfl (Nat.le_of_ble_eq_true rfl) hF (fun v h9 hG => ?_)
      clear hF
      revert hG
      intro hF
      replace hF := atI_e hF
      obtain ⟨r10, rfl, hF⟩ := hF
      exact rz_iret dJ1_indexOf_4cfef_36 trivial hF
    · replace hF := ite_f hF c
      refine rz_iconst dJ1_indexOf_4cfef_27 rfl (by decide) ?_
      exact rz_iret dJ1_indexOf_4cfef_28 trivial hF
  · replace hF := ite_t hF c
    refine rz_iconst dJ1_indexOf_4cfef_7 rfl (by decide) ?_
    exact rz_iret dJ1_indexOf_4cfef_8 trivial hF
theorem vJ0_indexOf_7cf53 {G : az_G} {d : Nat} {x0 : Nat} {x1 : Int} {x2 : Int} {h : az_H} {Q : Option az_V → az_H → Prop} (hF : rcv h x0 101 (cz G mJ0_isLatin1_aae02 d 0 0 [vo x0] h (fun v h1 => atI v (fun r2 => (if r2 = 0 then rdO h1 x0 101 0 (fun o3 => rcv h1 x0 101 (cz G mJ0_length_8abf5 d 0 0 [vo x0] h1 (fun v h4 => atI v (fun r5 => cz G mJ2_indexOf_4cfef d 0 0 [vo o3, vi x1, vi x2, vi r5] h4 (fun v h6 => atI v (fun r7 => Q (some (vi r7)) h6)))))) else rdO h1 x0 101 0 (fun o8 => rcv h1 x0 101 (cz G mJ0_length_8abf5 d 0 0 [vo x0] h1 (fun v h9 => atI v (fun r10 => cz G mJ1_indexOf_4cfef d 0 0 [vo o8, vi x1, vi x2, vi r10] h9 (fun v h11 => atI v (fun r12 => Q (some (vi r12)) h11))))))))))) : cz G mJ0_indexOf_7cf53 (d + 1) 0 0 [vo x0, vi x1, vi x2] h Q := by
  refine cz_of (ls := [some (vo x0), some (vi x1), some (vi x2)]) (by decide +kernel) (Nat.le_of_ble_eq_true rfl) rfl ?_
  refine rz_aload_n dJ0_indexOf_7cf53_0 rfl (show _ = some (some (vo x0)) from rfl) ?_
  replace hF := rcv_e hF
  obtain ⟨fs, hg, hF⟩ := hF
  refine rz_callK (mc' := 0) (ms' := 0) (mc := 0) (ms := 0) (st := []) dJ0_indexOf_7cf53_1 cV_J0_492 rfl hg rfl rfl (Nat.le_of_ble_eq_true rfl) hF (fun v h1 hG => ?_)
  clear hF
  revert hG
  intro hF
  replace hF := atI_e hF
  obtain ⟨r2, rfl, hF⟩ := hF
  refine rz_if_eq (tgt := 23) dJ0_indexOf_7cf53_4 (by decide) (fun c => ?_) (fun c => ?_)
  · replace hF := ite_t hF c
    refine rz_aload_n dJ0_indexOf_7cf53_23 rfl (show _ = some (some (vo x0)) from rfl) ?_
    replace hF := rdO_e hF
    obtain ⟨fs, o3, hg, hv, hF⟩ := hF
    refine rz_getKv dJ0_indexOf_7cf53_24 k_1533 hg hv ?_
    refine rz_iload_n dJ0_indexOf_7cf53_27 rfl (show _ = some (some (vi x1)) from rfl) ?_
    refine rz_iload_n dJ0_indexOf_7cf53_28 rfl (show _ = some (some (vi x2)) from rfl) ?_
    refine rz_aload_n dJ0_indexOf_7cf53_29 rfl (show _ = some (some (vo x0)) from rfl) ?_
    replace hF := rcv_e hF
    obtain ⟨fs, hg, hF⟩ := hF
    refine rz_callK (mc' := 0) (ms' := 0) (mc := 0) (ms := 0) (st := [vi x2, vi x1, vo o3]) dJ0_indexOf_7cf53_30 cV_J0_505 rfl hg rfl rfl (Nat.le_of_ble_eq_true rfl) hF (fun v h4 hG => ?_)
    clear hF
    revert hG
    intro hF
    replace hF := atI_e hF
    obtain ⟨r5, rfl, hF⟩ := hF
    refine rz_callS (mc' := 0) (ms' := 0) (mc := 0) (ms := 0) (st := []) dJ0_indexOf_7cf53_33 cS_J0_640 rfl rfl (Nat.le_of_ble_eq_true rfl) hF (fun v h6 hG => ?_)
    clear hF
    revert hG
    intro hF
    replace hF := atI_e hF
    obtain ⟨r7, rfl, hF⟩ := hF
    exact rz_iret dJ0_indexOf_7cf53_36 trivial hF
  · replace hF := ite_f hF c
    refine rz_aload_n dJ0_indexOf_7cf53_7 rfl (show _ = some (some (vo x0)) from rfl) ?_
    replace hF := rdO_e hF
    obtain ⟨fs, o8, hg, hv, hF⟩ := hF
    refine rz_getKv dJ0_indexOf_7cf53_8 k_1533 hg hv ?_
    refine rz_iload_n dJ0_indexOf_7cf53_11 rfl (show _ = some (some (vi x1)) from rfl) ?_
    refine rz_iload_n dJ0_indexOf_7cf53_12 rfl (show _ = some (some (vi x2)) from rfl) ?_
    refine rz_aload_n dJ0_indexOf_7cf53_13 rfl (show _ = some (some (vo x0)) from rfl) ?_
    replace hF := rcv_e hF
    obtain ⟨fs, hg, hF⟩ := hF
    refine rz_callK (mc' := 0) (ms' := 0) (mc := 0) (ms := 0) (st := [vi x2, vi x1, vo o8]) dJ0_indexOf_7cf53_14 cV_J0_505 rfl hg rfl rfl (Nat.le_of_ble_eq_true rfl) hF (fun v h9 hG => ?_)
    clear hF
    revert hG
    intro hF
    replace hF := atI_e hF
    obtain ⟨r10, rfl, hF⟩ := hF
    refine rz_callS (mc' := 0) (ms' := 0) (mc := 0) (ms := 0) (st := []) dJ0_indexOf_7cf53_17 cS_J0_637 rfl rfl (Nat.le_of_ble_eq_true rfl) hF (fun v h11 hG => ?_)
    clear hF
    revert hG
    intro hF
    replace hF := atI_e hF
    obtain ⟨r12, rfl, hF⟩ := hF
    refine rz_goto (tgt := 36) dJ0_indexOf_7cf53_20 (by decide) ?_
    exact rz_iret dJ0_indexOf_7cf53_36 trivial hF
theorem vJ0_indexOf_0f7a4 {G : az_G} {d : Nat} {x0 : Nat} {x1 : Int} {h : az_H} {Q : Option az_V → az_H → Prop} (hF : rcv h x0 101 (cz G mJ0_indexOf_7cf53 d 0 0 [vo x0, vi x1, vi 0] h (fun v h1 => atI v (fun r2 => Q (some (vi r2)) h1)))) : cz G mJ0_indexOf_0f7a4 (d + 1) 0 0 [vo x0, vi x1] h Q := by
  refine cz_of (ls := [some (vo x0), some (vi x1)]) (by decide +kernel) (Nat.le_of_ble_eq_true rfl) rfl ?_
  refine rz_aload_n dJ0_indexOf_0f7a4_0 rfl (show _ = some (some (vo x0)) from rfl) ?_
  refine rz_iload_n dJ0_indexOf_0f7a4_1 rfl (show _ = some (some (vi x1)) from rfl) ?_
  refine rz_iconst dJ0_indexOf_0f7a4_2 rfl (by decide) ?_
  replace hF := rcv_e hF
  obtain ⟨fs, hg, hF⟩ := hF
  refine rz_callK (mc' := 0) (ms' := 0) (mc := 0) (ms := 0) (st := []) dJ0_indexOf_0f7a4_3 cV_J0_633 rfl hg rfl rfl (Nat.le_of_ble_eq_true rfl) hF (fun v h1 hG => ?_)
  clear hF
  revert hG
  intro hF
  replace hF := atI_e hF
  obtain ⟨r2, rfl, hF⟩ := hF
  exact rz_iret dJ0_indexOf_0f7a4_6 trivial hF
def pX8_next_5 (G : az_G) (d : Nat) (x0 : Nat) (x1 : Int) (h : az_H) (Q : Option az_V → az_H → Prop) : Prop := ez G mX8_next (d + 1) 0 0 5 [some (vo x0), some (vi x1)] [] h Q
def pX8_next_30 (G : az_G) (d : Nat) (x0 : Nat) (x1 : Int) (h : az_H) (Q : Option az_V → az_H → Prop) : Prop := ez G mX8_next (d + 1) 0 0 30 [some (vo x0), some (vi x1)] [] h Q
theorem vX8_next_30 {G : az_G} {d : Nat} {x0 : Nat} {x1 : Int} {h : az_H} {Q : Option az_V → az_H → Prop} (hF : wrF h x0 8 2 (.int) (vi x1) (fun h1 => wrF h1 x0 8 3 (.int) (vi x1) (fun h2 => rdI h2 x0 8 1 (fun f3 => (if x1 < f3 then rdO h2 x0 8 0 (fun o4 => ldI h2 o4 (.byte) x1 (fun e5 => cz G mX8_isLetter d 0 0 [vi e5] h2 (fun v h6 => atI v (fun r7 => (if r7 = 0 then rdO h6 x0 8 0 (fun o8 => ldI h6 o8 (.byte) x1 (fun e9 => cz G mX8_isFigure d 0 0 [vi e9] h6 (fun v h10 => atI v (fun r11 => (if r11 = 0 then wrF h10 x0 8 3 (.int) (vi (w32 (x1 + 1))) (fun h12 => rdO h12 x0 8 0 (fun o13 => ldI h12 o13 (.byte) x1 (fun e14 => rcv h12 4 101 (cz G mJ0_indexOf_0f7a4 d 0 0 [vo 4, vi (e14 % 65536)] h12 (fun v h15 => atI v (fun r16 => (if r16 < 0 then wrF h15 x0 8 4 (.int) (vi 9) (fun h17 => Q none h17) else rdO h15 x0 8 0 (fun o18 => ldI h15 o18 (.byte) x1 (fun e19 => wrF h15 x0 8 4 (.int) (vi e19) (fun h20 => Q none h20)))))))))) else rcv h10 x0 8 (cz G mX8_readNumber d 0 0 [vo x0] h10 (fun v h21 => atV v (Q none h21)))))))) else rcv h6 x0 8 (cz G mX8_readWord d 0 0 [vo x0] h6 (fun v h22 => atV v (Q none h22)))))))) else wrF h2 x0 8 4 (.int) (vi 0) (fun h23 => Q none h23)))))) : pX8_next_30 G d x0 x1 h Q := by
  unfold pX8_next_30
  refine rz_aload_n dX8_next_30 rfl (show _ = some (some (vo x0)) from rfl) ?_
  refine rz_iload_n dX8_next_31 rfl (show _ = some (some (vi x1)) from rfl) ?_
  replace hF := wrF_e hF
  obtain ⟨fs, hg, hv, hF⟩ := hF
  refine rz_putf dX8_next_32 fl_X8_25 (Or.inl rfl) hg hv ?_
  refine rz_aload_n dX8_next_35 rfl (show _ = some (some (vo x0)) from rfl) ?_
  refine rz_iload_n dX8_next_36 rfl (show _ = some (some (vi x1)) from rfl) ?_
  replace hF := wrF_e hF
  obtain ⟨fs, hg, hv, hF⟩ := hF
  refine rz_putf dX8_next_37 fl_X8_34 (Or.inl rfl) hg hv ?_
  refine rz_iload_n dX8_next_40 rfl (show _ = some (some (vi x1)) from rfl) ?_
  refine rz_aload_n dX8_next_41 rfl (show _ = some (some (vo x0)) from rfl) ?_
  replace hF := rdI_e hF
  obtain ⟨fs, f3, hg, hv, hF⟩ := hF
  refine rz_getf dX8_next_42 fl_X8_15 hg hv ?_
  refine rz_icmp_lt (tgt := 56) dX8_next_45 (by decide) (fun c => ?_) (fun c => ?_)
  · replace hF := ite_t hF c
    refine rz_aload_n dX8_next_56 rfl (show _ = some (some (vo x0)) from rfl) ?_
    replace hF := rdO_e hF
    obtain ⟨fs, o4, hg, hv, hF⟩ := hF
    refine rz_getf dX8_next_57 fl_X8_11 hg hv ?_
    refine rz_iload_n dX8_next_60 rfl (show _ = some (some (vi x1)) from rfl) ?_
    replace hF := ldI_e hF
    obtain ⟨xs, hg, h0, h1, hF⟩ := hF
    refine rz_bald dX8_next_61 hg h0 h1 ?_
    generalize xs.getD _ 0 = e5 at hF ⊢
    refine rz_callS (mc' := 0) (ms' := 0) (mc := 0) (ms := 0) (st := []) dX8_next_62 cS_X8_40 rfl rfl (Nat.le_of_ble_eq_true rfl) hF (fun v h6 hG => ?_)
    clear hF
    revert hG
    intro hF
    replace hF := atI_e hF
    obtain ⟨r7, rfl, hF⟩ := hF
    refine rz_if_eq (tgt := 75) dX8_next_65 (by decide) (fun c => ?_) (fun c => ?_)
    · replace hF := ite_t hF c
      refine rz_aload_n dX8_next_75 rfl (show _ = some (some (vo x0)) from rfl) ?_
      replace hF := rdO_e hF
      obtain ⟨fs, o8, hg, hv, hF⟩ := hF
      refine rz_getf dX8_next_76 fl_X8_11 hg hv ?_
      refine rz_iload_n dX8_next_79 rfl (show _ = some (some (vi x1)) from rfl) ?_
      replace hF := ldI_e hF
      obtain ⟨xs, hg, h0, h1, hF⟩ := hF
      refine rz_bald dX8_next_80 hg h0 h1 ?_
      generalize xs.getD _ 0 = e9 at hF ⊢
      refine rz_callS (mc' := 0) (ms' := 0) (mc := 0) (ms := 0) (st := []) dX8_next_81 cS_X8_47 rfl rfl (Nat.le_of_ble_eq_true rfl) hF (fun v h10 hG => ?_)
      clear hF
      revert hG
      intro hF
      replace hF := atI_e hF
      obtain ⟨r11, rfl, hF⟩ := hF
      refine rz_if_eq (tgt := 94) dX8_next_84 (by decide) (fun c => ?_) (fun c => ?_)
      · replace hF := ite_t hF c
        refine rz_aload_n dX8_next_94 rfl (show _ = some (some (vo x0)) from rfl) ?_
        refine rz_iload_n dX8_next_95 rfl (show _ = some (some (vi x1)) from rfl) ?_
        refine rz_iconst dX8_next_96 rfl (by decide) ?_
        refine rz_iadd dX8_next_97 ?_
        replace hF := wrF_e hF
        obtain ⟨fs, hg, hv, hF⟩ := hF
        refine rz_putf dX8_next_98 fl_X8_34 (Or.inl rfl) hg hv ?_
        refine rz_aload_n dX8_next_101 rfl (show _ = some (some (vo x0)) from rfl) ?_
        refine rz_ldcS (i := 3) dX8_next_102 rfl (by decide) ?_
        refine rz_aload_n dX8_next_104 rfl (show _ = some (some (vo x0)) from rfl) ?_
        replace hF := rdO_e hF
        obtain ⟨fs, o13, hg, hv, hF⟩ := hF
        refine rz_getf dX8_next_105 fl_X8_11 hg hv ?_
        refine rz_iload_n dX8_next_108 rfl (show _ = some (some (vi x1)) from rfl) ?_
        replace hF := ldI_e hF
        obtain ⟨xs, hg, h0, h1, hF⟩ := hF
        refine rz_bald dX8_next_109 hg h0 h1 ?_
        generalize xs.getD _ 0 = e14 at hF ⊢
        refine rz_i2c dX8_next_110 ?_
        replace hF := rcv_e hF
        obtain ⟨fs, hg, hF⟩ := hF
        refine rz_callK (mc' := 0) (ms' := 0) (mc := 0) (ms := 0) (st := [vo x0]) dX8_next_111 cV_X8_55 rfl hg rfl rfl (Nat.le_of_ble_eq_true rfl) hF (fun v h15 hG => ?_)
        clear hF
        revert hG
        intro hF
        replace hF := atI_e hF
        obtain ⟨r16, rfl, hF⟩ := hF
        refine rz_if_lt (tgt := 126) dX8_next_114 (by decide) (fun c => ?_) (fun c => ?_)
        · replace hF := ite_t hF c
          refine rz_bipush (v := 9) dX8_next_126 (by decide) (by decide) ?_
          replace hF := wrF_e hF
          obtain ⟨fs, hg, hv, hF⟩ := hF
          refine rz_putf dX8_next_128 fl_X8_28 (Or.inl rfl) hg hv ?_
          exact rz_vret dX8_next_131 trivial hF
        · replace hF := ite_f hF c
          refine rz_aload_n dX8_next_117 rfl (show _ = some (some (vo x0)) from rfl) ?_
          replace hF := rdO_e hF
          obtain ⟨fs, o18, hg, hv, hF⟩ := hF
          refine rz_getf dX8_next_118 fl_X8_11 hg hv ?_
          refine rz_iload_n dX8_next_121 rfl (show _ = some (some (vi x1)) from rfl) ?_
          replace hF := ldI_e hF
          obtain ⟨xs, hg, h0, h1, hF⟩ := hF
          refine rz_bald dX8_next_122 hg h0 h1 ?_
          generalize xs.getD _ 0 = e19 at hF ⊢
          refine rz_goto (tgt := 128) dX8_next_123 (by decide) ?_
          replace hF := wrF_e hF
          obtain ⟨fs, hg, hv, hF⟩ := hF
          refine rz_putf dX8_next_128 fl_X8_28 (Or.inl rfl) hg hv ?_
          exact rz_vret dX8_next_131 trivial hF
      · replace hF := ite_f hF c
        refine rz_aload_n dX8_next_87 rfl (show _ = some (some (vo x0)) from rfl) ?_
        replace hF := rcv_e hF
        obtain ⟨fs, hg, hF⟩ := hF
        refine rz_callV (mc' := 0) (ms' := 0) (mc := 0) (ms := 0) (st := []) dX8_next_88 cV_X8_50 rfl hg ⟨_, _, rfl⟩ rfl (Nat.le_of_ble_eq_true rfl) hF (fun v h21 hG => ?_)
        clear hF
        revert hG
        intro hF
        replace hF := atV_e hF
        obtain ⟨rfl, hF⟩ := hF
        refine rz_goto (tgt := 131) dX8_next_91 (by decide) ?_
        exact rz_vret dX8_next_131 trivial hF
    · replace hF := ite_f hF c
      refine rz_aload_n dX8_next_68 rfl (show _ = some (some (vo x0)) from rfl) ?_
      replace hF := rcv_e hF
      obtain ⟨fs, hg, hF⟩ := hF
      refine rz_callV (mc' := 0) (ms' := 0) (mc := 0) (ms := 0) (st := []) dX8_next_69 cV_X8_44 rfl hg ⟨_, _, rfl⟩ rfl (Nat.le_of_ble_eq_true rfl) hF (fun v h22 hG => ?_)
      clear hF
      revert hG
      intro hF
      replace hF := atV_e hF
      obtain ⟨rfl, hF⟩ := hF
      refine rz_goto (tgt := 131) dX8_next_72 (by decide) ?_
      exact rz_vret dX8_next_131 trivial hF
  · replace hF := ite_f hF c
    refine rz_aload_n dX8_next_48 rfl (show _ = some (some (vo x0)) from rfl) ?_
    refine rz_iconst dX8_next_49 rfl (by decide) ?_
    replace hF := wrF_e hF
    obtain ⟨fs, hg, hv, hF⟩ := hF
    refine rz_putf dX8_next_50 fl_X8_28 (Or.inl rfl) hg hv ?_
    refine rz_goto (tgt := 131) dX8_next_53 (by decide) ?_
    exact rz_vret dX8_next_131 trivial hF
theorem vX8_next_5 {G : az_G} {d : Nat} {x0 : Nat} {x1 : Int} {h : az_H} {Q : Option az_V → az_H → Prop} (hF : rdI h x0 8 1 (fun f1 => (if f1 ≤ x1 then pX8_next_30 G d x0 x1 h Q else rdO h x0 8 0 (fun o2 => ldI h o2 (.byte) x1 (fun e3 => (if e3 = 32 then pX8_next_5 G d x0 (w32 (x1 + 1)) h Q else pX8_next_30 G d x0 x1 h Q)))))) : pX8_next_5 G d x0 x1 h Q := by
  unfold pX8_next_5
  refine rz_iload_n dX8_next_5 rfl (show _ = some (some (vi x1)) from rfl) ?_
  refine rz_aload_n dX8_next_6 rfl (show _ = some (some (vo x0)) from rfl) ?_
  replace hF := rdI_e hF
  obtain ⟨fs, f1, hg, hv, hF⟩ := hF
  refine rz_getf dX8_next_7 fl_X8_15 hg hv ?_
  refine rz_icmp_ge (tgt := 30) dX8_next_10 (by decide) (fun c => ?_) (fun c => ?_)
  · replace hF := ite_t hF c
    exact hF
  · replace hF := ite_f hF c
    refine rz_aload_n dX8_next_13 rfl (show _ = some (some (vo x0)) from rfl) ?_
    replace hF := rdO_e hF
    obtain ⟨fs, o2, hg, hv, hF⟩ := hF
    refine rz_getf dX8_next_14 fl_X8_11 hg hv ?_
    refine rz_iload_n dX8_next_17 rfl (show _ = some (some (vi x1)) from rfl) ?_
    replace hF := ldI_e hF
    obtain ⟨xs, hg, h0, h1, hF⟩ := hF
    refine rz_bald dX8_next_18 hg h0 h1 ?_
    generalize xs.getD _ 0 = e3 at hF ⊢
    refine rz_bipush (v := 32) dX8_next_19 (by decide) (by decide) ?_
    refine rz_icmp_ne (tgt := 30) dX8_next_21 (by decide) (fun c => ?_) (fun c => ?_)
    · replace hF := ite_f hF c
      exact hF
    · replace hF := ite_t hF c
      refine rz_iinc (ls' := [some (vo x0), some (vi (w32 (x1 + 1)))]) dX8_next_24 rfl (Nat.le_of_ble_eq_true rfl) rfl ?_
      refine rz_goto (tgt := 5) dX8_next_27 (by decide) ?_
      exact hF
theorem vX8_next {G : az_G} {d : Nat} {x0 : Nat} {h : az_H} {Q : Option az_V → az_H → Prop} (hF : rdI h x0 8 3 (fun f1 => pX8_next_5 G d x0 f1 h Q)) : cz G mX8_next (d + 1) 0 0 [vo x0] h Q := by
  refine cz_of (ls := [some (vo x0), none]) (by decide +kernel) (Nat.le_of_ble_eq_true rfl) rfl ?_
  refine rz_aload_n dX8_next_0 rfl (show _ = some (some (vo x0)) from rfl) ?_
  replace hF := rdI_e hF
  obtain ⟨fs, f1, hg, hv, hF⟩ := hF
  refine rz_getf dX8_next_1 fl_X8_34 hg hv ?_
  refine rz_istore_n (ls' := [some (vo x0), some (vi f1)]) dX8_next_4 rfl (Nat.le_of_ble_eq_true rfl) rfl ?_
  exact hF
theorem vX8_open {G : az_G} {d : Nat} {x0 : Nat} {h : az_H} {Q : Option az_V → az_H → Prop} (hF : wrF h x0 8 3 (.int) (vi 0) (fun h1 => rcv h1 x0 8 (cz G mX8_next d 0 0 [vo x0] h1 (fun v h2 => atV v (Q none h2))))) : cz G mX8_open (d + 1) 0 0 [vo x0] h Q := by
  refine cz_of (ls := [some (vo x0)]) (by decide +kernel) (Nat.le_of_ble_eq_true rfl) rfl ?_
  refine rz_aload_n dX8_open_0 rfl (show _ = some (some (vo x0)) from rfl) ?_
  refine rz_iconst dX8_open_1 rfl (by decide) ?_
  replace hF := wrF_e hF
  obtain ⟨fs, hg, hv, hF⟩ := hF
  refine rz_putf dX8_open_2 fl_X8_34 (Or.inl rfl) hg hv ?_
  refine rz_aload_n dX8_open_5 rfl (show _ = some (some (vo x0)) from rfl) ?_
  replace hF := rcv_e hF
  obtain ⟨fs, hg, hF⟩ := hF
  refine rz_callV (mc' := 0) (ms' := 0) (mc := 0) (ms := 0) (st := []) dX8_open_6 cV_X8_37 rfl hg ⟨_, _, rfl⟩ rfl (Nat.le_of_ble_eq_true rfl) hF (fun v h2 hG => ?_)
  clear hF
  revert hG
  intro hF
  replace hF := atV_e hF
  obtain ⟨rfl, hF⟩ := hF
  exact rz_vret dX8_open_9 trivial hF
theorem vX5_begin {G : az_G} {d : Nat} {x0 : Nat} {x1 : Int} {h : az_H} {Q : Option az_V → az_H → Prop} (hF : wrF h x0 5 6 (.boolean) (vi x1) (fun h1 => wrF h1 x0 5 3 (.int) (vi 0) (fun h2 => wrF h2 x0 5 4 (.int) (vi 0) (fun h3 => wrF h3 x0 5 5 (.int) (vi 0) (fun h4 => rdO h4 x0 5 0 (fun o5 => rcv h4 o5 8 (cz G mX8_open d 0 0 [vo o5] h4 (fun v h6 => atV v (Q none h6))))))))) : cz G mX5_begin (d + 1) 0 0 [vo x0, vi x1] h Q := by
  refine cz_of (ls := [some (vo x0), some (vi x1)]) (by decide +kernel) (Nat.le_of_ble_eq_true rfl) rfl ?_
  refine rz_aload_n dX5_begin_0 rfl (show _ = some (some (vo x0)) from rfl) ?_
  refine rz_iload_n dX5_begin_1 rfl (show _ = some (some (vi x1)) from rfl) ?_
  replace hF := wrF_e hF
  obtain ⟨fs, hg, hv, hF⟩ := hF
  refine rz_putf dX5_begin_2 fl_X5_43 (Or.inl rfl) hg hv ?_
  refine rz_aload_n dX5_begin_5 rfl (show _ = some (some (vo x0)) from rfl) ?_
  refine rz_iconst dX5_begin_6 rfl (by decide) ?_
  replace hF := wrF_e hF
  obtain ⟨fs, hg, hv, hF⟩ := hF
  refine rz_putf dX5_begin_7 fl_X5_47 (Or.inl rfl) hg hv ?_
  refine rz_aload_n dX5_begin_10 rfl (show _ = some (some (vo x0)) from rfl) ?_
  refine rz_iconst dX5_begin_11 rfl (by decide) ?_
  replace hF := wrF_e hF
  obtain ⟨fs, hg, hv, hF⟩ := hF
  refine rz_putf dX5_begin_12 fl_X5_51 (Or.inl rfl) hg hv ?_
  refine rz_aload_n dX5_begin_15 rfl (show _ = some (some (vo x0)) from rfl) ?_
  refine rz_iconst dX5_begin_16 rfl (by decide) ?_
  replace hF := wrF_e hF
  obtain ⟨fs, hg, hv, hF⟩ := hF
  refine rz_putf dX5_begin_17 fl_X5_54 (Or.inl rfl) hg hv ?_
  refine rz_aload_n dX5_begin_20 rfl (show _ = some (some (vo x0)) from rfl) ?_
  replace hF := rdO_e hF
  obtain ⟨fs, o5, hg, hv, hF⟩ := hF
  refine rz_getf dX5_begin_21 fl_X5_20 hg hv ?_
  replace hF := rcv_e hF
  obtain ⟨fs, hg, hF⟩ := hF
  refine rz_callV (mc' := 0) (ms' := 0) (mc := 0) (ms := 0) (st := []) dX5_begin_24 cV_X5_57 rfl hg ⟨_, _, rfl⟩ rfl (Nat.le_of_ble_eq_true rfl) hF (fun v h6 hG => ?_)
  clear hF
  revert hG
  intro hF
  replace hF := atV_e hF
  obtain ⟨rfl, hF⟩ := hF
  exact rz_vret dX5_begin_27 trivial hF
theorem vX8_token {G : az_G} {d : Nat} {x0 : Nat} {h : az_H} {Q : Option az_V → az_H → Prop} (hF : rdI h x0 8 4 (fun f1 => Q (some (vi f1)) h)) : cz G mX8_token d 0 0 [vo x0] h Q := by
  refine cz_of (ls := [some (vo x0)]) (by decide +kernel) (Nat.le_of_ble_eq_true rfl) rfl ?_
  refine rz_aload_n dX8_token_0 rfl (show _ = some (some (vo x0)) from rfl) ?_
  replace hF := rdI_e hF
  obtain ⟨fs, f1, hg, hv, hF⟩ := hF
  refine rz_getf dX8_token_1 fl_X8_28 hg hv ?_
  exact rz_iret dX8_token_4 trivial hF
theorem vX5_isOwn {G : az_G} {d : Nat} {x0 : Int} {h : az_H} {Q : Option az_V → az_H → Prop} (hF : (if x0 = 112 then Q (some (vi 1)) h else (if x0 = 113 then Q (some (vi 1)) h else Q (some (vi 0)) h))) : cz G mX5_isOwn d 0 0 [vi x0] h Q := by
  refine cz_of (ls := [some (vi x0)]) (by decide +kernel) (Nat.le_of_ble_eq_true rfl) rfl ?_
  refine rz_iload_n dX5_isOwn_0 rfl (show _ = some (some (vi x0)) from rfl) ?_
  refine rz_bipush (v := 112) dX5_isOwn_1 (by decide) (by decide) ?_
  refine rz_icmp_eq (tgt := 12) dX5_isOwn_3 (by decide) (fun c => ?_) (fun c => ?_)
  · replace hF := ite_t hF c
    refine rz_iconst dX5_isOwn_12 rfl (by decide) ?_
    refine rz_goto (tgt := 17) dX5_isOwn_13 (by decide) ?_
    exact rz_iret dX5_isOwn_17 (Or.inr rfl) hF
  · replace hF := ite_f hF c
    refine rz_iload_n dX5_isOwn_6 rfl (show _ = some (some (vi x0)) from rfl) ?_
    refine rz_bipush (v := 113) dX5_isOwn_7 (by decide) (by decide) ?_
    refine rz_icmp_ne (tgt := 16) dX5_isOwn_9 (by decide) (fun c => ?_) (fun c => ?_)
    · replace hF := ite_f hF c
      refine rz_iconst dX5_isOwn_16 rfl (by decide) ?_
      exact rz_iret dX5_isOwn_17 (Or.inl rfl) hF
    · replace hF := ite_t hF c
      refine rz_iconst dX5_isOwn_12 rfl (by decide) ?_
      refine rz_goto (tgt := 17) dX5_isOwn_13 (by decide) ?_
      exact rz_iret dX5_isOwn_17 (Or.inr rfl) hF
theorem vX5_cellOf {G : az_G} {d : Nat} {x0 : Int} {h : az_H} {Q : Option az_V → az_H → Prop} (hF : cz G mX5_isOwn d 0 0 [vi x0] h (fun v h1 => atI v (fun r2 => (if r2 = 0 then (if x0 < 97 then Q (some (vi ((-1)))) h1 else (if 102 < x0 then Q (some (vi ((-1)))) h1 else Q (some (vi (w32 (x0 - 97)))) h1)) else (if x0 = 112 then Q (some (vi 6)) h1 else Q (some (vi 10)) h1))))) : cz G mX5_cellOf (d + 1) 0 0 [vi x0] h Q := by
  refine cz_of (ls := [some (vi x0)]) (by decide +kernel) (Nat.le_of_ble_eq_true rfl) rfl ?_
  refine rz_iload_n dX5_cellOf_0 rfl (show _ = some (some (vi x0)) from rfl) ?_
  refine rz_callS (mc' := 0) (ms' := 0) (mc := 0) (ms := 0) (st := []) dX5_cellOf_1 cS_X5_81 rfl rfl (Nat.le_of_ble_eq_true rfl) hF (fun v h1 hG => ?_)
  clear hF
  revert hG
  intro hF
  replace hF := atI_e hF
  obtain ⟨r2, rfl, hF⟩ := hF
  refine rz_if_eq (tgt := 21) dX5_cellOf_4 (by decide) (fun c => ?_) (fun c => ?_)
  · replace hF := ite_t hF c
    refine rz_iload_n dX5_cellOf_21 rfl (show _ = some (some (vi x0)) from rfl) ?_
    refine rz_bipush (v := 97) dX5_cellOf_22 (by decide) (by decide) ?_
    refine rz_icmp_lt (tgt := 40) dX5_cellOf_24 (by decide) (fun c => ?_) (fun c => ?_)
    · replace hF := ite_t hF c
      refine rz_iconst dX5_cellOf_40 rfl (by decide) ?_
      exact rz_iret dX5_cellOf_41 trivial hF
    · replace hF := ite_f hF c
      refine rz_iload_n dX5_cellOf_27 rfl (show _ = some (some (vi x0)) from rfl) ?_
      refine rz_bipush (v := 102) dX5_cellOf_28 (by decide) (by decide) ?_
      refine rz_icmp_gt (tgt := 40) dX5_cellOf_30 (by decide) (fun c => ?_) (fun c => ?_)
      · replace hF := ite_t hF c
        refine rz_iconst dX5_cellOf_40 rfl (by decide) ?_
        exact rz_iret dX5_cellOf_41 trivial hF
      · replace hF := ite_f hF c
        refine rz_iload_n dX5_cellOf_33 rfl (show _ = some (some (vi x0)) from rfl) ?_
        refine rz_bipush (v := 97) dX5_cellOf_34 (by decide) (by decide) ?_
        refine rz_isub dX5_cellOf_36 ?_
        refine rz_goto (tgt := 41) dX5_cellOf_37 (by decide) ?_
        exact rz_iret dX5_cellOf_41 trivial hF
  · replace hF := ite_f hF c
    refine rz_iload_n dX5_cellOf_7 rfl (show _ = some (some (vi x0)) from rfl) ?_
    refine rz_bipush (v := 112) dX5_cellOf_8 (by decide) (by decide) ?_
    refine rz_icmp_ne (tgt := 18) dX5_cellOf_10 (by decide) (fun c => ?_) (fun c => ?_)
    · replace hF := ite_f hF c
      refine rz_bipush (v := 10) dX5_cellOf_18 (by decide) (by decide) ?_
      exact rz_iret dX5_cellOf_20 trivial hF
    · replace hF := ite_t hF c
      refine rz_bipush (v := 6) dX5_cellOf_13 (by decide) (by decide) ?_
      refine rz_goto (tgt := 20) dX5_cellOf_15 (by decide) ?_
      exact rz_iret dX5_cellOf_20 trivial hF
theorem vX5_pass {G : az_G} {d : Nat} {x0 : Nat} {x1 : Int} {h : az_H} {Q : Option az_V → az_H → Prop} (hF : rdO h x0 5 0 (fun o1 => rcv h o1 8 (cz G mX8_token d 0 0 [vo o1] h (fun v h2 => atI v (fun r3 => (if r3 = x1 then rdO h2 x0 5 0 (fun o4 => rcv h2 o4 8 (cz G mX8_next d 0 0 [vo o4] h2 (fun v h5 => atV v (Q (some (vi 1)) h5)))) else Q (some (vi 0)) h2)))))) : cz G mX5_pass (d + 1) 0 0 [vo x0, vi x1] h Q := by
  refine cz_of (ls := [some (vo x0), some (vi x1)]) (by decide +kernel) (Nat.le_of_ble_eq_true rfl) rfl ?_
  refine rz_aload_n dX5_pass_0 rfl (show _ = some (some (vo x0)) from rfl) ?_
  replace hF := rdO_e hF
  obtain ⟨fs, o1, hg, hv, hF⟩ := hF
  refine rz_getf dX5_pass_1 fl_X5_20 hg hv ?_
  replace hF := rcv_e hF
  obtain ⟨fs, hg, hF⟩ := hF
  refine rz_callV (mc' := 0) (ms' := 0) (mc := 0) (ms := 0) (st := []) dX5_pass_4 cV_X5_32 rfl hg ⟨_, _, rfl⟩ rfl (Nat.le_of_ble_eq_true rfl) hF (fun v h2 hG => ?_)
  clear hF
  revert hG
  intro hF
  replace hF := atI_e hF
  obtain ⟨r3, rfl, hF⟩ := hF
  refine rz_iload_n dX5_pass_7 rfl (show _ = some (some (vi x1)) from rfl) ?_
  refine rz_icmp_eq (tgt := 13) dX5_pass_8 (by decide) (fun c => ?_) (fun c => ?_)
  · replace hF := ite_t hF c
    refine rz_aload_n dX5_pass_13 rfl (show _ = some (some (vo x0)) from rfl) ?_
    replace hF := rdO_e hF
    obtain ⟨fs, o4, hg, hv, hF⟩ := hF
    refine rz_getf dX5_pass_14 fl_X5_20 hg hv ?_
    replace hF := rcv_e hF
    obtain ⟨fs, hg, hF⟩ := hF
    refine rz_callV (mc' := 0) (ms' := 0) (mc := 0) (ms := 0) (st := []) dX5_pass_17 cV_X5_72 rfl hg ⟨_, _, rfl⟩ rfl (Nat.le_of_ble_eq_true rfl) hF (fun v h5 hG => ?_)
    clear hF
    revert hG
    intro hF
    replace hF := atV_e hF
    obtain ⟨rfl, hF⟩ := hF
    refine rz_iconst dX5_pass_20 rfl (by decide) ?_
    exact rz_iret dX5_pass_21 (Or.inr rfl) hF
  · replace hF := ite_f hF c
    refine rz_iconst dX5_pass_11 rfl (by decide) ?_
    exact rz_iret dX5_pass_12 (Or.inl rfl) hF
theorem vX5_readParenthesis {G : az_G} {d : Nat} {x0 : Nat} {x1 : Int} {h : az_H} {Q : Option az_V → az_H → Prop} (hF : (if x1 < 8 then rdO h x0 5 0 (fun o1 => rcv h o1 8 (cz G mX8_next d 0 0 [vo o1] h (fun v h2 => atV v (rcv h2 x0 5 (cz G mX5_readExpression d 0 0 [vo x0, vi (w32 (x1 + 1))] h2 (fun v h3 => atI v (fun r4 => (if r4 = 0 then Q (some (vi 0)) h3 else rcv h3 x0 5 (cz G mX5_pass d 0 0 [vo x0, vi 41] h3 (fun v h5 => atI v (fun r6 => (if r6 = 0 then Q (some (vi 0)) h5 else Q (some (vi 1)) h5)))))))))))) else Q (some (vi 0)) h)) : cz G mX5_readParenthesis (d + 1) 0 0 [vo x0, vi x1] h Q := by
  refine cz_of (ls := [some (vo x0), some (vi x1)]) (by decide +kernel) (Nat.le_of_ble_eq_true rfl) rfl ?_
  refine rz_iload_n dX5_readParenthesis_0 rfl (show _ = some (some (vi x1)) from rfl) ?_
  refine rz_bipush (v := 8) dX5_readParenthesis_1 (by decide) (by decide) ?_
  refine rz_icmp_lt (tgt := 8) dX5_readParenthesis_3 (by decide) (fun c => ?_) (fun c => ?_)
  · replace hF := ite_t hF c
    refine rz_aload_n dX5_readParenthesis_8 rfl (show _ = some (some (vo x0)) from rfl) ?_
    replace hF := rdO_e hF
    obtain ⟨fs, o1, hg, hv, hF⟩ := hF
    refine rz_getf dX5_readParenthesis_9 fl_X5_20 hg hv ?_
    replace hF := rcv_e hF
    obtain ⟨fs, hg, hF⟩ := hF
    refine rz_callV (mc' := 0) (ms' := 0) (mc := 0) (ms := 0) (st := []) dX5_readParenthesis_12 cV_X5_72 rfl hg ⟨_, _, rfl⟩ rfl (Nat.le_of_ble_eq_true rfl) hF (fun v h2 hG => ?_)
    clear hF
    revert hG
    intro hF
    replace hF := atV_e hF
    obtain ⟨rfl, hF⟩ := hF
    refine rz_aload_n dX5_readParenthesis_15 rfl (show _ = some (some (vo x0)) from rfl) ?_
    refine rz_iload_n dX5_readParenthesis_16 rfl (show _ = some (some (vi x1)) from rfl) ?_
    refine rz_iconst dX5_readParenthesis_17 rfl (by decide) ?_
    refine rz_iadd dX5_readParenthesis_18 ?_
    replace hF := rcv_e hF
    obtain ⟨fs, hg, hF⟩ := hF
    refine rz_callV (mc' := 0) (ms' := 0) (mc := 0) (ms := 0) (st := []) dX5_readParenthesis_19 cV_X5_40 rfl hg ⟨_, _, rfl⟩ rfl (Nat.le_of_ble_eq_true rfl) hF (fun v h3 hG => ?_)
    clear hF
    revert hG
    intro hF
    replace hF := atI_e hF
    obtain ⟨r4, rfl, hF⟩ := hF
    refine rz_if_eq (tgt := 38) dX5_readParenthesis_22 (by decide) (fun c => ?_) (fun c => ?_)
    · replace hF := ite_t hF c
      refine rz_iconst dX5_readParenthesis_38 rfl (by decide) ?_
      exact rz_iret dX5_readParenthesis_39 (Or.inl rfl) hF
    · replace hF := ite_f hF c
      refine rz_aload_n dX5_readParenthesis_25 rfl (show _ = some (some (vo x0)) from rfl) ?_
      refine rz_bipush (v := 41) dX5_readParenthesis_26 (by decide) (by decide) ?_
      replace hF := rcv_e hF
      obtain ⟨fs, hg, hF⟩ := hF
      refine rz_callV (mc' := 0) (ms' := 0) (mc := 0) (ms := 0) (st := []) dX5_readParenthesis_28 cV_X5_78 rfl hg ⟨_, _, rfl⟩ rfl (Nat.le_of_ble_eq_true rfl) hF (fun v h5 hG => ?_)
      clear hF
      revert hG
      intro hF
      replace hF := atI_e hF
      obtain ⟨r6, rfl, hF⟩ := hF
      refine rz_if_eq (tgt := 38) dX5_readParenthesis_31 (by decide) (fun c => ?_) (fun c => ?_)
      · replace hF := ite_t hF c
        refine rz_iconst dX5_readParenthesis_38 rfl (by decide) ?_
        exact rz_iret dX5_readParenthesis_39 (Or.inl rfl) hF
      · replace hF := ite_f hF c
        refine rz_iconst dX5_readParenthesis_34 rfl (by decide) ?_
        refine rz_goto (tgt := 39) dX5_readParenthesis_35 (by decide) ?_
        exact rz_iret dX5_readParenthesis_39 (Or.inr rfl) hF
  · replace hF := ite_f hF c
    refine rz_iconst dX5_readParenthesis_6 rfl (by decide) ?_
    exact rz_iret dX5_readParenthesis_7 (Or.inl rfl) hF
theorem vX8_number {G : az_G} {d : Nat} {x0 : Nat} {h : az_H} {Q : Option az_V → az_H → Prop} (hF : rdI h x0 8 5 (fun f1 => Q (some (vi f1)) h)) : cz G mX8_number d 0 0 [vo x0] h Q := by
  refine cz_of (ls := [some (vo x0)]) (by decide +kernel) (Nat.le_of_ble_eq_true rfl) rfl ?_
  refine rz_aload_n dX8_number_0 rfl (show _ = some (some (vo x0)) from rfl) ?_
  replace hF := rdI_e hF
  obtain ⟨fs, f1, hg, hv, hF⟩ := hF
  refine rz_getf dX8_number_1 fl_X8_31 hg hv ?_
  exact rz_iret dX8_number_4 trivial hF
theorem vX5_add {G : az_G} {d : Nat} {x0 : Nat} {x1 : Int} {x2 : Int} {h : az_H} {Q : Option az_V → az_H → Prop} (hF : rdI h x0 5 3 (fun f1 => rdO h x0 5 1 (fun o2 => aln h o2 (fun n3 => (if n3 ≤ f1 then Q none h else rdI h x0 5 3 (fun f4 => rdO h x0 5 2 (fun o5 => aln h o5 (fun n6 => (if n6 ≤ f4 then Q none h else rdO h x0 5 1 (fun o7 => rdI h x0 5 3 (fun f8 => stI h o7 .int f8 x1 (fun h9 => rdO h9 x0 5 2 (fun o10 => rdI h9 x0 5 3 (fun f11 => stI h9 o10 .int f11 x2 (fun h12 => rdI h12 x0 5 3 (fun f13 => wrF h12 x0 5 3 (.int) (vi (w32 (f13 + 1))) (fun h14 => Q none h14))))))))))))))))) : cz G mX5_add d 0 0 [vo x0, vi x1, vi x2] h Q := by
  refine cz_of (ls := [some (vo x0), some (vi x1), some (vi x2)]) (by decide +kernel) (Nat.le_of_ble_eq_true rfl) rfl ?_
  refine rz_aload_n dX5_add_0 rfl (show _ = some (some (vo x0)) from rfl) ?_
  replace hF := rdI_e hF
  obtain ⟨fs, f1, hg, hv, hF⟩ := hF
  refine rz_getf dX5_add_1 fl_X5_47 hg hv ?_
  refine rz_aload_n dX5_add_4 rfl (show _ = some (some (vo x0)) from rfl) ?_
  replace hF := rdO_e hF
  obtain ⟨fs, o2, hg, hv, hF⟩ := hF
  refine rz_getf dX5_add_5 fl_X5_11 hg hv ?_
  replace hF := aln_e hF
  obtain ⟨n3, hg, hr, hF⟩ := hF
  refine rz_alen dX5_add_8 hg hr ?_
  refine rz_icmp_ge (tgt := 54) dX5_add_9 (by decide) (fun c => ?_) (fun c => ?_)
  · replace hF := ite_t hF c
    exact rz_vret dX5_add_54 trivial hF
  · replace hF := ite_f hF c
    refine rz_aload_n dX5_add_12 rfl (show _ = some (some (vo x0)) from rfl) ?_
    replace hF := rdI_e hF
    obtain ⟨fs, f4, hg, hv, hF⟩ := hF
    refine rz_getf dX5_add_13 fl_X5_47 hg hv ?_
    refine rz_aload_n dX5_add_16 rfl (show _ = some (some (vo x0)) from rfl) ?_
    replace hF := rdO_e hF
    obtain ⟨fs, o5, hg, hv, hF⟩ := hF
    refine rz_getf dX5_add_17 fl_X5_17 hg hv ?_
    replace hF := aln_e hF
    obtain ⟨n6, hg, hr, hF⟩ := hF
    refine rz_alen dX5_add_20 hg hr ?_
    refine rz_icmp_ge (tgt := 54) dX5_add_21 (by decide) (fun c => ?_) (fun c => ?_)
    · replace hF := ite_t hF c
      exact rz_vret dX5_add_54 trivial hF
    · replace hF := ite_f hF c
      refine rz_aload_n dX5_add_24 rfl (show _ = some (some (vo x0)) from rfl) ?_
      replace hF := rdO_e hF
      obtain ⟨fs, o7, hg, hv, hF⟩ := hF
      refine rz_getf dX5_add_25 fl_X5_11 hg hv ?_
      refine rz_aload_n dX5_add_28 rfl (show _ = some (some (vo x0)) from rfl) ?_
      replace hF := rdI_e hF
      obtain ⟨fs, f8, hg, hv, hF⟩ := hF
      refine rz_getf dX5_add_29 fl_X5_47 hg hv ?_
      refine rz_iload_n dX5_add_32 rfl (show _ = some (some (vi x1)) from rfl) ?_
      replace hF := stI_e hF
      obtain ⟨xs, hg, h0, h1, hF⟩ := hF
      refine rz_iast dX5_add_33 hg h0 h1 ?_
      refine rz_aload_n dX5_add_34 rfl (show _ = some (some (vo x0)) from rfl) ?_
      replace hF := rdO_e hF
      obtain ⟨fs, o10, hg, hv, hF⟩ := hF
      refine rz_getf dX5_add_35 fl_X5_17 hg hv ?_
      refine rz_aload_n dX5_add_38 rfl (show _ = some (some (vo x0)) from rfl) ?_
      replace hF := rdI_e hF
      obtain ⟨fs, f11, hg, hv, hF⟩ := hF
      refine rz_getf dX5_add_39 fl_X5_47 hg hv ?_
      refine rz_iload_n dX5_add_42 rfl (show _ = some (some (vi x2)) from rfl) ?_
      replace hF := stI_e hF
      obtain ⟨xs, hg, h0, h1, hF⟩ := hF
      refine rz_iast dX5_add_43 hg h0 h1 ?_
      refine rz_aload_n dX5_add_44 rfl (show _ = some (some (vo x0)) from rfl) ?_
      refine rz_dup dX5_add_45 (by rintro ⟨_, q⟩; cases q) ?_
      replace hF := rdI_e hF
      obtain ⟨fs, f13, hg, hv, hF⟩ := hF
      refine rz_getf dX5_add_46 fl_X5_47 hg hv ?_
      refine rz_iconst dX5_add_49 rfl (by decide) ?_
      refine rz_iadd dX5_add_50 ?_
      replace hF := wrF_e hF
      obtain ⟨fs, hg, hv, hF⟩ := hF
      refine rz_putf dX5_add_51 fl_X5_47 (Or.inl rfl) hg hv ?_
      exact rz_vret dX5_add_54 trivial hF
theorem vX5_addMoney {G : az_G} {d : Nat} {x0 : Nat} {x1 : Int} {h : az_H} {Q : Option az_V → az_H → Prop} (hF : (if x1 < 5 then Q (some (vi 0)) h else (if x1 ≤ 8 then rcv h x0 5 (cz G mX5_add d 0 0 [vo x0, vi 2, vi (w32 ((w32 (14 + x1)) - 5))] h (fun v h1 => atV v (Q (some (vi 1)) h1))) else Q (some (vi 0)) h))) : cz G mX5_addMoney (d + 1) 0 0 [vo x0, vi x1] h Q := by
  refine cz_of (ls := [some (vo x0), some (vi x1)]) (by decide +kernel) (Nat.le_of_ble_eq_true rfl) rfl ?_
  refine rz_iload_n dX5_addMoney_0 rfl (show _ = some (some (vi x1)) from rfl) ?_
  refine rz_iconst dX5_addMoney_1 rfl (by decide) ?_
  refine rz_icmp_lt (tgt := 11) dX5_addMoney_2 (by decide) (fun c => ?_) (fun c => ?_)
  · replace hF := ite_t hF c
    refine rz_iconst dX5_addMoney_11 rfl (by decide) ?_
    exact rz_iret dX5_addMoney_12 (Or.inl rfl) hF
  · replace hF := ite_f hF c
    refine rz_iload_n dX5_addMoney_5 rfl (show _ = some (some (vi x1)) from rfl) ?_
    refine rz_bipush (v := 8) dX5_addMoney_6 (by decide) (by decide) ?_
    refine rz_icmp_le (tgt := 13) dX5_addMoney_8 (by decide) (fun c => ?_) (fun c => ?_)
    · replace hF := ite_t hF c
      refine rz_aload_n dX5_addMoney_13 rfl (show _ = some (some (vo x0)) from rfl) ?_
      refine rz_iconst dX5_addMoney_14 rfl (by decide) ?_
      refine rz_bipush (v := 14) dX5_addMoney_15 (by decide) (by decide) ?_
      refine rz_iload_n dX5_addMoney_17 rfl (show _ = some (some (vi x1)) from rfl) ?_
      refine rz_iadd dX5_addMoney_18 ?_
      refine rz_iconst dX5_addMoney_19 rfl (by decide) ?_
      refine rz_isub dX5_addMoney_20 ?_
      replace hF := rcv_e hF
      obtain ⟨fs, hg, hF⟩ := hF
      refine rz_callV (mc' := 0) (ms' := 0) (mc := 0) (ms := 0) (st := []) dX5_addMoney_21 cV_X5_84 rfl hg ⟨_, _, rfl⟩ rfl (Nat.le_of_ble_eq_true rfl) hF (fun v h1 hG => ?_)
      clear hF
      revert hG
      intro hF
      replace hF := atV_e hF
      obtain ⟨rfl, hF⟩ := hF
      refine rz_iconst dX5_addMoney_24 rfl (by decide) ?_
      exact rz_iret dX5_addMoney_25 (Or.inr rfl) hF
    · replace hF := ite_f hF c
      refine rz_iconst dX5_addMoney_11 rfl (by decide) ?_
      exact rz_iret dX5_addMoney_12 (Or.inl rfl) hF
theorem vX5_addOfCall {G : az_G} {d : Nat} {x0 : Nat} {x1 : Int} {h : az_H} {Q : Option az_V → az_H → Prop} (hF : cz G mX5_isOwn d 0 0 [vi x1] h (fun v h1 => atI v (fun r2 => (if r2 = 0 then (if x1 = 110 then rcv h1 x0 5 (cz G mX5_add d 0 0 [vo x0, vi 5, vi 0] h1 (fun v h5 => atV v (Q (some (vi 1)) h5))) else (if x1 = 118 then rcv h1 x0 5 (cz G mX5_add d 0 0 [vo x0, vi 6, vi 0] h1 (fun v h4 => atV v (Q (some (vi 1)) h4))) else (if x1 = 119 then rcv h1 x0 5 (cz G mX5_add d 0 0 [vo x0, vi 7, vi 0] h1 (fun v h3 => atV v (Q (some (vi 1)) h3))) else Q (some (vi 0)) h1))) else cz G mX5_cellOf d 0 0 [vi x1] h1 (fun v h6 => atI v (fun r7 => rcv h6 x0 5 (cz G mX5_add d 0 0 [vo x0, vi 3, vi r7] h6 (fun v h8 => atV v (Q (some (vi 1)) h8))))))))) : cz G mX5_addOfCall (d + 1) 0 0 [vo x0, vi x1] h Q := by
  refine cz_of (ls := [some (vo x0), some (vi x1)]) (by decide +kernel) (Nat.le_of_ble_eq_true rfl) rfl ?_
  refine rz_iload_n dX5_addOfCall_0 rfl (show _ = some (some (vi x1)) from rfl) ?_
  refine rz_callS (mc' := 0) (ms' := 0) (mc := 0) (ms := 0) (st := []) dX5_addOfCall_1 cS_X5_81 rfl rfl (Nat.le_of_ble_eq_true rfl) hF (fun v h1 hG => ?_)
  clear hF
  revert hG
  intro hF
  replace hF := atI_e hF
  obtain ⟨r2, rfl, hF⟩ := hF
  refine rz_if_eq (tgt := 19) dX5_addOfCall_4 (by decide) (fun c => ?_) (fun c => ?_)
  · replace hF := ite_t hF c
    refine rz_iload_n dX5_addOfCall_19 rfl (show _ = some (some (vi x1)) from rfl) ?_
    refine rz_bipush (v := 110) dX5_addOfCall_20 (by decide) (by decide) ?_
    refine rz_icmp_ne (tgt := 34) dX5_addOfCall_22 (by decide) (fun c => ?_) (fun c => ?_)
    · replace hF := ite_f hF c
      refine rz_iload_n dX5_addOfCall_34 rfl (show _ = some (some (vi x1)) from rfl) ?_
      refine rz_bipush (v := 118) dX5_addOfCall_35 (by decide) (by decide) ?_
      refine rz_icmp_ne (tgt := 50) dX5_addOfCall_37 (by decide) (fun c => ?_) (fun c => ?_)
      · replace hF := ite_f hF c
        refine rz_iload_n dX5_addOfCall_50 rfl (show _ = some (some (vi x1)) from rfl) ?_
        refine rz_bipush (v := 119) dX5_addOfCall_51 (by decide) (by decide) ?_
        refine rz_icmp_ne (tgt := 66) dX5_addOfCall_53 (by decide) (fun c => ?_) (fun c => ?_)
        · replace hF := ite_f hF c
          refine rz_iconst dX5_addOfCall_66 rfl (by decide) ?_
          exact rz_iret dX5_addOfCall_67 (Or.inl rfl) hF
        · replace hF := ite_t hF c
          refine rz_aload_n dX5_addOfCall_56 rfl (show _ = some (some (vo x0)) from rfl) ?_
          refine rz_bipush (v := 7) dX5_addOfCall_57 (by decide) (by decide) ?_
          refine rz_iconst dX5_addOfCall_59 rfl (by decide) ?_
          replace hF := rcv_e hF
          obtain ⟨fs, hg, hF⟩ := hF
          refine rz_callV (mc' := 0) (ms' := 0) (mc := 0) (ms := 0) (st := []) dX5_addOfCall_60 cV_X5_84 rfl hg ⟨_, _, rfl⟩ rfl (Nat.le_of_ble_eq_true rfl) hF (fun v h3 hG => ?_)
          clear hF
          revert hG
          intro hF
          replace hF := atV_e hF
          obtain ⟨rfl, hF⟩ := hF
          refine rz_goto (tgt := 68) dX5_addOfCall_63 (by decide) ?_
          refine rz_iconst dX5_addOfCall_68 rfl (by decide) ?_
          exact rz_iret dX5_addOfCall_69 (Or.inr rfl) hF
      · replace hF := ite_t hF c
        refine rz_aload_n dX5_addOfCall_40 rfl (show _ = some (some (vo x0)) from rfl) ?_
        refine rz_bipush (v := 6) dX5_addOfCall_41 (by decide) (by decide) ?_
        refine rz_iconst dX5_addOfCall_43 rfl (by decide) ?_
        replace hF := rcv_e hF
        obtain ⟨fs, hg, hF⟩ := hF
        refine rz_callV (mc' := 0) (ms' := 0) (mc := 0) (ms := 0) (st := []) dX5_addOfCall_44 cV_X5_84 rfl hg ⟨_, _, rfl⟩ rfl (Nat.le_of_ble_eq_true rfl) hF (fun v h4 hG => ?_)
        clear hF
        revert hG
        intro hF
        replace hF := atV_e hF
        obtain ⟨rfl, hF⟩ := hF
        refine rz_goto (tgt := 68) dX5_addOfCall_47 (by decide) ?_
        refine rz_iconst dX5_addOfCall_68 rfl (by decide) ?_
        exact rz_iret dX5_addOfCall_69 (Or.inr rfl) hF
    · replace hF := ite_t hF c
      refine rz_aload_n dX5_addOfCall_25 rfl (show _ = some (some (vo x0)) from rfl) ?_
      refine rz_iconst dX5_addOfCall_26 rfl (by decide) ?_
      refine rz_iconst dX5_addOfCall_27 rfl (by decide) ?_
      replace hF := rcv_e hF
      obtain ⟨fs, hg, hF⟩ := hF
      refine rz_callV (mc' := 0) (ms' := 0) (mc := 0) (ms := 0) (st := []) dX5_addOfCall_28 cV_X5_84 rfl hg ⟨_, _, rfl⟩ rfl (Nat.le_of_ble_eq_true rfl) hF (fun v h5 hG => ?_)
      clear hF
      revert hG
      intro hF
      replace hF := atV_e hF
      obtain ⟨rfl, hF⟩ := hF
      refine rz_goto (tgt := 68) dX5_addOfCall_31 (by decide) ?_
      refine rz_iconst dX5_addOfCall_68 rfl (by decide) ?_
      exact rz_iret dX5_addOfCall_69 (Or.inr rfl) hF
  · replace hF := ite_f hF c
    refine rz_aload_n dX5_addOfCall_7 rfl (show _ = some (some (vo x0)) from rfl) ?_
    refine rz_iconst dX5_addOfCall_8 rfl (by decide) ?_
    refine rz_iload_n dX5_addOfCall_9 rfl (show _ = some (some (vi x1)) from rfl) ?_
    refine rz_callS (mc' := 0) (ms' := 0) (mc := 0) (ms := 0) (st := [vi 3, vo x0]) dX5_addOfCall_10 cS_X5_68 rfl rfl (Nat.le_of_ble_eq_true rfl) hF (fun v h6 hG => ?_)
    clear hF
    revert hG
    intro hF
    replace hF := atI_e hF
    obtain ⟨r7, rfl, hF⟩ := hF
    replace hF := rcv_e hF
    obtain ⟨fs, hg, hF⟩ := hF
    refine rz_callV (mc' := 0) (ms' := 0) (mc := 0) (ms := 0) (st := []) dX5_addOfCall_13 cV_X5_84 rfl hg ⟨_, _, rfl⟩ rfl (Nat.le_of_ble_eq_true rfl) hF (fun v h8 hG => ?_)
    clear hF
    revert hG
    intro hF
    replace hF := atV_e hF
    obtain ⟨rfl, hF⟩ := hF
    refine rz_goto (tgt := 68) dX5_addOfCall_16 (by decide) ?_
    refine rz_iconst dX5_addOfCall_68 rfl (by decide) ?_
    exact rz_iret dX5_addOfCall_69 (Or.inr rfl) hF
def pX5_readOperand_56 (G : az_G) (d : Nat) (x0 : Nat) (x1 : Int) (h : az_H) (Q : Option az_V → az_H → Prop) : Prop := ez G mX5_readOperand (d + 1) 0 0 56 [some (vo x0), some (vi x1)] [] h Q
def pX5_readOperand_103 (G : az_G) (d : Nat) (x0 : Nat) (x1 : Int) (h : az_H) (Q : Option az_V → az_H → Prop) : Prop := ez G mX5_readOperand (d + 1) 0 0 103 [some (vo x0), some (vi x1)] [] h Q
theorem vX5_readOperand_103 {G : az_G} {d : Nat} {x0 : Nat} {x1 : Int} {h : az_H} {Q : Option az_V → az_H → Prop} (hF : rdI h x0 5 6 (fun f1 => (if f1 = 0 then rcv h x0 5 (cz G mX5_addOfCall d 0 0 [vo x0, vi x1] h (fun v h2 => atI v (fun r3 => (if r3 = 0 then Q (some (vi 0)) h2 else rdO h2 x0 5 0 (fun o4 => rcv h2 o4 8 (cz G mX8_next d 0 0 [vo o4] h2 (fun v h5 => atV v (Q (some (vi 1)) h5)))))))) else rcv h x0 5 (cz G mX5_addMoney d 0 0 [vo x0, vi x1] h (fun v h6 => atI v (fun r7 => (if r7 = 0 then Q (some (vi 0)) h6 else rdO h6 x0 5 0 (fun o8 => rcv h6 o8 8 (cz G mX8_next d 0 0 [vo o8] h6 (fun v h9 => atV v (Q (some (vi 1)) h9))))))))))) : pX5_readOperand_103 G d x0 x1 h Q := by
  unfold pX5_readOperand_103
  refine rz_aload_n dX5_readOperand_103 rfl (show _ = some (some (vo x0)) from rfl) ?_
  replace hF := rdI_e hF
  obtain ⟨fs, f1, hg, hv, hF⟩ := hF
  refine rz_getf dX5_readOperand_104 fl_X5_43 hg hv ?_
  refine rz_if_eq (tgt := 121) dX5_readOperand_107 (by decide) (fun c => ?_) (fun c => ?_)
  · replace hF := ite_t hF c
    refine rz_aload_n dX5_readOperand_121 rfl (show _ = some (some (vo x0)) from rfl) ?_
    refine rz_iload_n dX5_readOperand_122 rfl (show _ = some (some (vi x1)) from rfl) ?_
    replace hF := rcv_e hF
    obtain ⟨fs, hg, hF⟩ := hF
    refine rz_callV (mc' := 0) (ms' := 0) (mc := 0) (ms := 0) (st := []) dX5_readOperand_123 cV_X5_119 rfl hg ⟨_, _, rfl⟩ rfl (Nat.le_of_ble_eq_true rfl) hF (fun v h2 hG => ?_)
    clear hF
    revert hG
    intro hF
    replace hF := atI_e hF
    obtain ⟨r3, rfl, hF⟩ := hF
    refine rz_if_ne (tgt := 131) dX5_readOperand_126 (by decide) (fun c => ?_) (fun c => ?_)
    · replace hF := ite_f hF c
      refine rz_aload_n dX5_readOperand_131 rfl (show _ = some (some (vo x0)) from rfl) ?_
      replace hF := rdO_e hF
      obtain ⟨fs, o4, hg, hv, hF⟩ := hF
      refine rz_getf dX5_readOperand_132 fl_X5_20 hg hv ?_
      replace hF := rcv_e hF
      obtain ⟨fs, hg, hF⟩ := hF
      refine rz_callV (mc' := 0) (ms' := 0) (mc := 0) (ms := 0) (st := []) dX5_readOperand_135 cV_X5_72 rfl hg ⟨_, _, rfl⟩ rfl (Nat.le_of_ble_eq_true rfl) hF (fun v h5 hG => ?_)
      clear hF
      revert hG
      intro hF
      replace hF := atV_e hF
      obtain ⟨rfl, hF⟩ := hF
      refine rz_iconst dX5_readOperand_138 rfl (by decide) ?_
      exact rz_iret dX5_readOperand_139 (Or.inr rfl) hF
    · replace hF := ite_t hF c
      refine rz_iconst dX5_readOperand_129 rfl (by decide) ?_
      exact rz_iret dX5_readOperand_130 (Or.inl rfl) hF
  · replace hF := ite_f hF c
    refine rz_aload_n dX5_readOperand_110 rfl (show _ = some (some (vo x0)) from rfl) ?_
    refine rz_iload_n dX5_readOperand_111 rfl (show _ = some (some (vi x1)) from rfl) ?_
    replace hF := rcv_e hF
    obtain ⟨fs, hg, hF⟩ := hF
    refine rz_callV (mc' := 0) (ms' := 0) (mc := 0) (ms := 0) (st := []) dX5_readOperand_112 cV_X5_116 rfl hg ⟨_, _, rfl⟩ rfl (Nat.le_of_ble_eq_true rfl) hF (fun v h6 hG => ?_)
    clear hF
    revert hG
    intro hF
    replace hF := atI_e hF
    obtain ⟨r7, rfl, hF⟩ := hF
    refine rz_if_ne (tgt := 131) dX5_readOperand_115 (by decide) (fun c => ?_) (fun c => ?_)
    · replace hF := ite_f hF c
      refine rz_aload_n dX5_readOperand_131 rfl (show _ = some (some (vo x0)) from rfl) ?_
      replace hF := rdO_e hF
      obtain ⟨fs, o8, hg, hv, hF⟩ := hF
      refine rz_getf dX5_readOperand_132 fl_X5_20 hg hv ?_
      replace hF := rcv_e hF
      obtain ⟨fs, hg, hF⟩ := hF
      refine rz_callV (mc' := 0) (ms' := 0) (mc := 0) (ms := 0) (st := []) dX5_readOperand_135 cV_X5_72 rfl hg ⟨_, _, rfl⟩ rfl (Nat.le_of_ble_eq_true rfl) hF (fun v h9 hG => ?_)
      clear hF
      revert hG
      intro hF
      replace hF := atV_e hF
      obtain ⟨rfl, hF⟩ := hF
      refine rz_iconst dX5_readOperand_138 rfl (by decide) ?_
      exact rz_iret dX5_readOperand_139 (Or.inr rfl) hF
    · replace hF := ite_t hF c
      refine rz_goto (tgt := 129) dX5_readOperand_118 (by decide) ?_
      refine rz_iconst dX5_readOperand_129 rfl (by decide) ?_
      exact rz_iret dX5_readOperand_130 (Or.inl rfl) hF
theorem vX5_readOperand_56 {G : az_G} {d : Nat} {x0 : Nat} {x1 : Int} {h : az_H} {Q : Option az_V → az_H → Prop} (hF : (if x1 = 80 then rcv h x0 5 (cz G mX5_add d 0 0 [vo x0, vi 4, vi 6] h (fun v h4 => atV v (rdO h4 x0 5 0 (fun o5 => rcv h4 o5 8 (cz G mX8_next d 0 0 [vo o5] h4 (fun v h6 => atV v (Q (some (vi 1)) h6))))))) else rcv h x0 5 (cz G mX5_add d 0 0 [vo x0, vi 4, vi 10] h (fun v h1 => atV v (rdO h1 x0 5 0 (fun o2 => rcv h1 o2 8 (cz G mX8_next d 0 0 [vo o2] h1 (fun v h3 => atV v (Q (some (vi 1)) h3))))))))) : pX5_readOperand_56 G d x0 x1 h Q := by
  unfold pX5_readOperand_56
  refine rz_aload_n dX5_readOperand_56 rfl (show _ = some (some (vo x0)) from rfl) ?_
  refine rz_iconst dX5_readOperand_57 rfl (by decide) ?_
  refine rz_iload_n dX5_readOperand_58 rfl (show _ = some (some (vi x1)) from rfl) ?_
  refine rz_bipush (v := 80) dX5_readOperand_59 (by decide) (by decide) ?_
  refine rz_icmp_ne (tgt := 69) dX5_readOperand_61 (by decide) (fun c => ?_) (fun c => ?_)
  · replace hF := ite_f hF c
    refine rz_bipush (v := 10) dX5_readOperand_69 (by decide) (by decide) ?_
    replace hF := rcv_e hF
    obtain ⟨fs, hg, hF⟩ := hF
    refine rz_callV (mc' := 0) (ms' := 0) (mc := 0) (ms := 0) (st := []) dX5_readOperand_71 cV_X5_84 rfl hg ⟨_, _, rfl⟩ rfl (Nat.le_of_ble_eq_true rfl) hF (fun v h1 hG => ?_)
    clear hF
    revert hG
    intro hF
    replace hF := atV_e hF
    obtain ⟨rfl, hF⟩ := hF
    refine rz_goto (tgt := 131) dX5_readOperand_74 (by decide) ?_
    refine rz_aload_n dX5_readOperand_131 rfl (show _ = some (some (vo x0)) from rfl) ?_
    replace hF := rdO_e hF
    obtain ⟨fs, o2, hg, hv, hF⟩ := hF
    refine rz_getf dX5_readOperand_132 fl_X5_20 hg hv ?_
    replace hF := rcv_e hF
    obtain ⟨fs, hg, hF⟩ := hF
    refine rz_callV (mc' := 0) (ms' := 0) (mc := 0) (ms := 0) (st := []) dX5_readOperand_135 cV_X5_72 rfl hg ⟨_, _, rfl⟩ rfl (Nat.le_of_ble_eq_true rfl) hF (fun v h3 hG => ?_)
    clear hF
    revert hG
    intro hF
    replace hF := atV_e hF
    obtain ⟨rfl, hF⟩ := hF
    refine rz_iconst dX5_readOperand_138 rfl (by decide) ?_
    exact rz_iret dX5_readOperand_139 (Or.inr rfl) hF
  · replace hF := ite_t hF c
    refine rz_bipush (v := 6) dX5_readOperand_64 (by decide) (by decide) ?_
    refine rz_goto (tgt := 71) dX5_readOperand_66 (by decide) ?_
    replace hF := rcv_e hF
    obtain ⟨fs, hg, hF⟩ := hF
    refine rz_callV (mc' := 0) (ms' := 0) (mc := 0) (ms := 0) (st := []) dX5_readOperand_71 cV_X5_84 rfl hg ⟨_, _, rfl⟩ rfl (Nat.le_of_ble_eq_true rfl) hF (fun v h4 hG => ?_)
    clear hF
    revert hG
    intro hF
    replace hF := atV_e hF
    obtain ⟨rfl, hF⟩ := hF
    refine rz_goto (tgt := 131) dX5_readOperand_74 (by decide) ?_
    refine rz_aload_n dX5_readOperand_131 rfl (show _ = some (some (vo x0)) from rfl) ?_
    replace hF := rdO_e hF
    obtain ⟨fs, o5, hg, hv, hF⟩ := hF
    refine rz_getf dX5_readOperand_132 fl_X5_20 hg hv ?_
    replace hF := rcv_e hF
    obtain ⟨fs, hg, hF⟩ := hF
    refine rz_callV (mc' := 0) (ms' := 0) (mc := 0) (ms := 0) (st := []) dX5_readOperand_135 cV_X5_72 rfl hg ⟨_, _, rfl⟩ rfl (Nat.le_of_ble_eq_true rfl) hF (fun v h6 hG => ?_)
    clear hF
    revert hG
    intro hF
    replace hF := atV_e hF
    obtain ⟨rfl, hF⟩ := hF
    refine rz_iconst dX5_readOperand_138 rfl (by decide) ?_
    exact rz_iret dX5_readOperand_139 (Or.inr rfl) hF
theorem vX5_readOperand {G : az_G} {d : Nat} {x0 : Nat} {h : az_H} {Q : Option az_V → az_H → Prop} (hF : rdO h x0 5 0 (fun o1 => rcv h o1 8 (cz G mX8_token d 0 0 [vo o1] h (fun v h2 => atI v (fun r3 => (if r3 = 1 then rdO h2 x0 5 0 (fun o16 => rcv h2 o16 8 (cz G mX8_number d 0 0 [vo o16] h2 (fun v h17 => atI v (fun r18 => rcv h17 x0 5 (cz G mX5_add d 0 0 [vo x0, vi 1, vi r18] h17 (fun v h19 => atV v (rdO h19 x0 5 0 (fun o20 => rcv h19 o20 8 (cz G mX8_next d 0 0 [vo o20] h19 (fun v h21 => atV v (Q (some (vi 1)) h21))))))))))) else (if r3 = 104 then rcv h2 x0 5 (cz G mX5_add d 0 0 [vo x0, vi 2, vi 18] h2 (fun v h13 => atV v (rdO h13 x0 5 0 (fun o14 => rcv h13 o14 8 (cz G mX8_next d 0 0 [vo o14] h13 (fun v h15 => atV v (Q (some (vi 1)) h15))))))) else (if r3 = 80 then pX5_readOperand_56 G d x0 r3 h2 Q else (if r3 = 81 then pX5_readOperand_56 G d x0 r3 h2 Q else cz G mX5_cellOf d 0 0 [vi r3] h2 (fun v h4 => atI v (fun r5 => (if r5 < 0 then pX5_readOperand_103 G d x0 r3 h4 Q else cz G mX5_isOwn d 0 0 [vi r3] h4 (fun v h6 => atI v (fun r7 => (if r7 = 0 then cz G mX5_cellOf d 0 0 [vi r3] h6 (fun v h8 => atI v (fun r9 => rcv h8 x0 5 (cz G mX5_add d 0 0 [vo x0, vi 2, vi r9] h8 (fun v h10 => atV v (rdO h10 x0 5 0 (fun o11 => rcv h10 o11 8 (cz G mX8_next d 0 0 [vo o11] h10 (fun v h12 => atV v (Q (some (vi 1)) h12))))))))) else pX5_readOperand_103 G d x0 r3 h6 Q))))))))))))))) : cz G mX5_readOperand (d + 1) 0 0 [vo x0] h Q := by
  refine cz_of (ls := [some (vo x0), none]) (by decide +kernel) (Nat.le_of_ble_eq_true rfl) rfl ?_
  refine rz_aload_n dX5_readOperand_0 rfl (show _ = some (some (vo x0)) from rfl) ?_
  replace hF := rdO_e hF
  obtain ⟨fs, o1, hg, hv, hF⟩ := hF
  refine rz_getf dX5_readOperand_1 fl_X5_20 hg hv ?_
  replace hF := rcv_e hF
  obtain ⟨fs, hg, hF⟩ := hF
  refine rz_callV (mc' := 0) (ms' := 0) (mc := 0) (ms := 0) (st := []) dX5_readOperand_4 cV_X5_32 rfl hg ⟨_, _, rfl⟩ rfl (Nat.le_of_ble_eq_true rfl) hF (fun v h2 hG => ?_)
  clear hF
  revert hG
  intro hF
  replace hF := atI_e hF
  obtain ⟨r3, rfl, hF⟩ := hF
  refine rz_istore_n (ls' := [some (vo x0), some (vi r3)]) dX5_readOperand_7 rfl (Nat.le_of_ble_eq_true rfl) rfl ?_
  refine rz_iload_n dX5_readOperand_8 rfl (show _ = some (some (vi r3)) from rfl) ?_
  refine rz_iconst dX5_readOperand_9 rfl (by decide) ?_
  refine rz_icmp_ne (tgt := 28) dX5_readOperand_10 (by decide) (fun c => ?_) (fun c => ?_)
  · replace hF := ite_f hF c
    refine rz_iload_n dX5_readOperand_28 rfl (show _ = some (some (vi r3)) from rfl) ?_
    refine rz_bipush (v := 104) dX5_readOperand_29 (by decide) (by decide) ?_
    refine rz_icmp_ne (tgt := 44) dX5_readOperand_31 (by decide) (fun c => ?_) (fun c => ?_)
    · replace hF := ite_f hF c
      refine rz_iload_n dX5_readOperand_44 rfl (show _ = some (some (vi r3)) from rfl) ?_
      refine rz_bipush (v := 80) dX5_readOperand_45 (by decide) (by decide) ?_
      refine rz_icmp_eq (tgt := 56) dX5_readOperand_47 (by decide) (fun c => ?_) (fun c => ?_)
      · replace hF := ite_t hF c
        exact hF
      · replace hF := ite_f hF c
        refine rz_iload_n dX5_readOperand_50 rfl (show _ = some (some (vi r3)) from rfl) ?_
        refine rz_bipush (v := 81) dX5_readOperand_51 (by decide) (by decide) ?_
        refine rz_icmp_ne (tgt := 77) dX5_readOperand_53 (by decide) (fun c => ?_) (fun c => ?_)
        · replace hF := ite_f hF c
          refine rz_iload_n dX5_readOperand_77 rfl (show _ = some (some (vi r3)) from rfl) ?_
          refine rz_callS (mc' := 0) (ms' := 0) (mc := 0) (ms := 0) (st := []) dX5_readOperand_78 cS_X5_68 rfl rfl (Nat.le_of_ble_eq_true rfl) hF (fun v h4 hG => ?_)
          clear hF
          revert hG
          intro hF
          replace hF := atI_e hF
          obtain ⟨r5, rfl, hF⟩ := hF
          refine rz_if_lt (tgt := 103) dX5_readOperand_81 (by decide) (fun c => ?_) (fun c => ?_)
          · replace hF := ite_t hF c
            exact hF
          · replace hF := ite_f hF c
            refine rz_iload_n dX5_readOperand_84 rfl (show _ = some (some (vi r3)) from rfl) ?_
            refine rz_callS (mc' := 0) (ms' := 0) (mc := 0) (ms := 0) (st := []) dX5_readOperand_85 cS_X5_81 rfl rfl (Nat.le_of_ble_eq_true rfl) hF (fun v h6 hG => ?_)
            clear hF
            revert hG
            intro hF
            replace hF := atI_e hF
            obtain ⟨r7, rfl, hF⟩ := hF
            refine rz_if_ne (tgt := 103) dX5_readOperand_88 (by decide) (fun c => ?_) (fun c => ?_)
            · replace hF := ite_f hF c
              exact hF
            · replace hF := ite_t hF c
              refine rz_aload_n dX5_readOperand_91 rfl (show _ = some (some (vo x0)) from rfl) ?_
              refine rz_iconst dX5_readOperand_92 rfl (by decide) ?_
              refine rz_iload_n dX5_readOperand_93 rfl (show _ = some (some (vi r3)) from rfl) ?_
              refine rz_callS (mc' := 0) (ms' := 0) (mc := 0) (ms := 0) (st := [vi 2, vo x0]) dX5_readOperand_94 cS_X5_68 rfl rfl (Nat.le_of_ble_eq_true rfl) hF (fun v h8 hG => ?_)
              clear hF
              revert hG
              intro hF
              replace hF := atI_e hF
              obtain ⟨r9, rfl, hF⟩ := hF
              replace hF := rcv_e hF
              obtain ⟨fs, hg, hF⟩ := hF
              refine rz_callV (mc' := 0) (ms' := 0) (mc := 0) (ms := 0) (st := []) dX5_readOperand_97 cV_X5_84 rfl hg ⟨_, _, rfl⟩ rfl (Nat.le_of_ble_eq_true rfl) hF (fun v h10 hG => ?_)
              clear hF
              revert hG
              intro hF
              replace hF := atV_e hF
              obtain ⟨rfl, hF⟩ := hF
              refine rz_goto (tgt := 131) dX5_readOperand_100 (by decide) ?_
              refine rz_aload_n dX5_readOperand_131 rfl (show _ = some (some (vo x0)) from rfl) ?_
              replace hF := rdO_e hF
              obtain ⟨fs, o11, hg, hv, hF⟩ := hF
              refine rz_getf dX5_readOperand_132 fl_X5_20 hg hv ?_
              replace hF := rcv_e hF
              obtain ⟨fs, hg, hF⟩ := hF
              refine rz_callV (mc' := 0) (ms' := 0) (mc := 0) (ms := 0) (st := []) dX5_readOperand_135 cV_X5_72 rfl hg ⟨_, _, rfl⟩ rfl (Nat.le_of_ble_eq_true rfl) hF (fun v h12 hG => ?_)
              clear hF
              revert hG
              intro hF
              replace hF := atV_e hF
              obtain ⟨rfl, hF⟩ := hF
              refine rz_iconst dX5_readOperand_138 rfl (by decide) ?_
              exact rz_iret dX5_readOperand_139 (Or.inr rfl) hF
        · replace hF := ite_t hF c
          exact hF
    · replace hF := ite_t hF c
      refine rz_aload_n dX5_readOperand_34 rfl (show _ = some (some (vo x0)) from rfl) ?_
      refine rz_iconst dX5_readOperand_35 rfl (by decide) ?_
      refine rz_bipush (v := 18) dX5_readOperand_36 (by decide) (by decide) ?_
      replace hF := rcv_e hF
      obtain ⟨fs, hg, hF⟩ := hF
      refine rz_callV (mc' := 0) (ms' := 0) (mc := 0) (ms := 0) (st := []) dX5_readOperand_38 cV_X5_84 rfl hg ⟨_, _, rfl⟩ rfl (Nat.le_of_ble_eq_true rfl) hF (fun v h13 hG => ?_)
      clear hF
      revert hG
      intro hF
      replace hF := atV_e hF
      obtain ⟨rfl, hF⟩ := hF
      refine rz_goto (tgt := 131) dX5_readOperand_41 (by decide) ?_
      refine rz_aload_n dX5_readOperand_131 rfl (show _ = some (some (vo x0)) from rfl) ?_
      replace hF := rdO_e hF
      obtain ⟨fs, o14, hg, hv, hF⟩ := hF
      refine rz_getf dX5_readOperand_132 fl_X5_20 hg hv ?_
      replace hF := rcv_e hF
      obtain ⟨fs, hg, hF⟩ := hF
      refine rz_callV (mc' := 0) (ms' := 0) (mc := 0) (ms := 0) (st := []) dX5_readOperand_135 cV_X5_72 rfl hg ⟨_, _, rfl⟩ rfl (Nat.le_of_ble_eq_true rfl) hF (fun v h15 hG => ?_)
      clear hF
      revert hG
      intro hF
      replace hF := atV_e hF
      obtain ⟨rfl, hF⟩ := hF
      refine rz_iconst dX5_readOperand_138 rfl (by decide) ?_
      exact rz_iret dX5_readOperand_139 (Or.inr rfl) hF
  · replace hF := ite_t hF c
    refine rz_aload_n dX5_readOperand_13 rfl (show _ = some (some (vo x0)) from rfl) ?_
    refine rz_iconst dX5_readOperand_14 rfl (by decide) ?_
    refine rz_aload_n dX5_readOperand_15 rfl (show _ = some (some (vo x0)) from rfl) ?_
    replace hF := rdO_e hF
    obtain ⟨fs, o16, hg, hv, hF⟩ := hF
    refine rz_getf dX5_readOperand_16 fl_X5_20 hg hv ?_
    replace hF := rcv_e hF
    obtain ⟨fs, hg, hF⟩ := hF
    refine rz_callV (mc' := 0) (ms' := 0) (mc := 0) (ms := 0) (st := [vi 1, vo x0]) dX5_readOperand_19 cV_X5_113 rfl hg ⟨_, _, rfl⟩ rfl (Nat.le_of_ble_eq_true rfl) hF (fun v h17 hG => ?_)
    clear hF
    revert hG
    intro hF
    replace hF := atI_e hF
    obtain ⟨r18, rfl, hF⟩ := hF
    replace hF := rcv_e hF
    obtain ⟨fs, hg, hF⟩ := hF
    refine rz_callV (mc' := 0) (ms' := 0) (mc := 0) (ms := 0) (st := []) dX5_readOperand_22 cV_X5_84 rfl hg ⟨_, _, rfl⟩ rfl (Nat.le_of_ble_eq_true rfl) hF (fun v h19 hG => ?_)
    clear hF
    revert hG
    intro hF
    replace hF := atV_e hF
    obtain ⟨rfl, hF⟩ := hF
    refine rz_goto (tgt := 131) dX5_readOperand_25 (by decide) ?_
    refine rz_aload_n dX5_readOperand_131 rfl (show _ = some (some (vo x0)) from rfl) ?_
    replace hF := rdO_e hF
    obtain ⟨fs, o20, hg, hv, hF⟩ := hF
    refine rz_getf dX5_readOperand_132 fl_X5_20 hg hv ?_
    replace hF := rcv_e hF
    obtain ⟨fs, hg, hF⟩ := hF
    refine rz_callV (mc' := 0) (ms' := 0) (mc := 0) (ms := 0) (st := []) dX5_readOperand_135 cV_X5_72 rfl hg ⟨_, _, rfl⟩ rfl (Nat.le_of_ble_eq_true rfl) hF (fun v h21 hG => ?_)
    clear hF
    revert hG
    intro hF
    replace hF := atV_e hF
    obtain ⟨rfl, hF⟩ := hF
    refine rz_iconst dX5_readOperand_138 rfl (by decide) ?_
    exact rz_iret dX5_readOperand_139 (Or.inr rfl) hF
def pX5_readFactor_4 (G : az_G) (d : Nat) (x0 : Nat) (x1 : Int) (x2 : Int) (x3 : Int) (h : az_H) (Q : Option az_V → az_H → Prop) : Prop := ez G mX5_readFactor (d + 1) 0 0 4 [some (vo x0), some (vi x1), some (vi x2), some (vi x3), none] [] h Q
def pX5_readFactor_34 (G : az_G) (d : Nat) (x0 : Nat) (x1 : Int) (x2 : Int) (x3 : Int) (h : az_H) (Q : Option az_V → az_H → Prop) : Prop := ez G mX5_readFactor (d + 1) 0 0 34 [some (vo x0), some (vi x1), some (vi x2), some (vi x3), none] [] h Q
def pX5_readFactor_69 (G : az_G) (d : Nat) (x0 : Nat) (x1 : Int) (x2 : Int) (x3 : Int) (h : az_H) (Q : Option az_V → az_H → Prop) : Prop := ez G mX5_readFactor (d + 1) 0 0 69 [some (vo x0), some (vi x1), some (vi x2), some (vi x3), none] [] h Q
def pX5_readFactor_104 (G : az_G) (d : Nat) (x0 : Nat) (x2 : Int) (x3 : Int) (x4 : Int) (h : az_H) (Q : Option az_V → az_H → Prop) : Prop := ez G mX5_readFactor (d + 1) 0 0 104 [some (vo x0), none, some (vi x2), some (vi x3), some (vi x4)] [] h Q
theorem vX5_readFactor_104 {G : az_G} {d : Nat} {x0 : Nat} {x2 : Int} {x3 : Int} {x4 : Int} {h : az_H} {Q : Option az_V → az_H → Prop} (hF : (if x2 ≤ x4 then Q (some (vi 1)) h else (if bAnd (bShr x3 x4) 1 = 1 then rcv h x0 5 (cz G mX5_add d 0 0 [vo x0, vi 9, vi 0] h (fun v h2 => atV v (pX5_readFactor_104 G d x0 x2 x3 (w32 (x4 + 1)) h2 Q))) else rcv h x0 5 (cz G mX5_add d 0 0 [vo x0, vi 8, vi 0] h (fun v h1 => atV v (pX5_readFactor_104 G d x0 x2 x3 (w32 (x4 + 1)) h1 Q)))))) : pX5_readFactor_104 G d x0 x2 x3 x4 h Q := by
  unfold pX5_readFactor_104
  refine rz_iload dX5_readFactor_104 (show _ = some (some (vi x4)) from rfl) ?_
  refine rz_iload_n dX5_readFactor_106 rfl (show _ = some (some (vi x2)) from rfl) ?_
  refine rz_icmp_ge (tgt := 138) dX5_readFactor_107 (by decide) (fun c => ?_) (fun c => ?_)
  · replace hF := ite_t hF c
    refine rz_iconst dX5_readFactor_138 rfl (by decide) ?_
    exact rz_iret dX5_readFactor_139 (Or.inr rfl) hF
  · replace hF := ite_f hF c
    refine rz_aload_n dX5_readFactor_110 rfl (show _ = some (some (vo x0)) from rfl) ?_
    refine rz_iload_n dX5_readFactor_111 rfl (show _ = some (some (vi x3)) from rfl) ?_
    refine rz_iload dX5_readFactor_112 (show _ = some (some (vi x4)) from rfl) ?_
    refine rz_ishr dX5_readFactor_114 ?_
    refine rz_iconst dX5_readFactor_115 rfl (by decide) ?_
    refine rz_iand dX5_readFactor_116 ?_
    refine rz_iconst dX5_readFactor_117 rfl (by decide) ?_
    refine rz_icmp_ne (tgt := 126) dX5_readFactor_118 (by decide) (fun c => ?_) (fun c => ?_)
    · replace hF := ite_f hF c
      refine rz_bipush (v := 8) dX5_readFactor_126 (by decide) (by decide) ?_
      refine rz_iconst dX5_readFactor_128 rfl (by decide) ?_
      replace hF := rcv_e hF
      obtain ⟨fs, hg, hF⟩ := hF
      refine rz_callV (mc' := 0) (ms' := 0) (mc := 0) (ms := 0) (st := []) dX5_readFactor_129 cV_X5_84 rfl hg ⟨_, _, rfl⟩ rfl (Nat.le_of_ble_eq_true rfl) hF (fun v h1 hG => ?_)
      clear hF
      revert hG
      intro hF
      replace hF := atV_e hF
      obtain ⟨rfl, hF⟩ := hF
      refine rz_iinc (ls' := [some (vo x0), none, some (vi x2), some (vi x3), some (vi (w32 (x4 + 1)))]) dX5_readFactor_132 rfl (Nat.le_of_ble_eq_true rfl) rfl ?_
      refine rz_goto (tgt := 104) dX5_readFactor_135 (by decide) ?_
      exact hF
    · replace hF := ite_t hF c
      refine rz_bipush (v := 9) dX5_readFactor_121 (by decide) (by decide) ?_
      refine rz_goto (tgt := 128) dX5_readFactor_123 (by decide) ?_
      refine rz_iconst dX5_readFactor_128 rfl (by decide) ?_
      replace hF := rcv_e hF
      obtain ⟨fs, hg, hF⟩ := hF
      refine rz_callV (mc' := 0) (ms' := 0) (mc := 0) (ms := 0) (st := []) dX5_readFactor_129 cV_X5_84 rfl hg ⟨_, _, rfl⟩ rfl (Nat.le_of_ble_eq_true rfl) hF (fun v h2 hG => ?_)
      clear hF
      revert hG
      intro hF
      replace hF := atV_e hF
      obtain ⟨rfl, hF⟩ := hF
      refine rz_iinc (ls' := [some (vo x0), none, some (vi x2), some (vi x3), some (vi (w32 (x4 + 1)))]) dX5_readFactor_132 rfl (Nat.le_of_ble_eq_true rfl) rfl ?_
      refine rz_goto (tgt := 104) dX5_readFactor_135 (by decide) ?_
      exact hF
theorem vX5_readFactor_69 {G : az_G} {d : Nat} {x0 : Nat} {x1 : Int} {x2 : Int} {x3 : Int} {h : az_H} {Q : Option az_V → az_H → Prop} (hF : rdO h x0 5 0 (fun o1 => rcv h o1 8 (cz G mX8_token d 0 0 [vo o1] h (fun v h2 => atI v (fun r3 => (if r3 = 40 then rcv h2 x0 5 (cz G mX5_readParenthesis d 0 0 [vo x0, vi x1] h2 (fun v h6 => atI v (fun r7 => (if r7 = 0 then Q (some (vi 0)) h6 else pX5_readFactor_104 G d x0 x2 x3 0 h6 Q)))) else rcv h2 x0 5 (cz G mX5_readOperand d 0 0 [vo x0] h2 (fun v h4 => atI v (fun r5 => (if r5 = 0 then Q (some (vi 0)) h4 else pX5_readFactor_104 G d x0 x2 x3 0 h4 Q)))))))))) : pX5_readFactor_69 G d x0 x1 x2 x3 h Q := by
  unfold pX5_readFactor_69
  refine rz_aload_n dX5_readFactor_69 rfl (show _ = some (some (vo x0)) from rfl) ?_
  replace hF := rdO_e hF
  obtain ⟨fs, o1, hg, hv, hF⟩ := hF
  refine rz_getf dX5_readFactor_70 fl_X5_20 hg hv ?_
  replace hF := rcv_e hF
  obtain ⟨fs, hg, hF⟩ := hF
  refine rz_callV (mc' := 0) (ms' := 0) (mc := 0) (ms := 0) (st := []) dX5_readFactor_73 cV_X5_32 rfl hg ⟨_, _, rfl⟩ rfl (Nat.le_of_ble_eq_true rfl) hF (fun v h2 hG => ?_)
  clear hF
  revert hG
  intro hF
  replace hF := atI_e hF
  obtain ⟨r3, rfl, hF⟩ := hF
  refine rz_bipush (v := 40) dX5_readFactor_76 (by decide) (by decide) ?_
  refine rz_icmp_ne (tgt := 92) dX5_readFactor_78 (by decide) (fun c => ?_) (fun c => ?_)
  · replace hF := ite_f hF c
    refine rz_aload_n dX5_readFactor_92 rfl (show _ = some (some (vo x0)) from rfl) ?_
    replace hF := rcv_e hF
    obtain ⟨fs, hg, hF⟩ := hF
    refine rz_callV (mc' := 0) (ms' := 0) (mc := 0) (ms := 0) (st := []) dX5_readFactor_93 cV_X5_109 rfl hg ⟨_, _, rfl⟩ rfl (Nat.le_of_ble_eq_true rfl) hF (fun v h4 hG => ?_)
    clear hF
    revert hG
    intro hF
    replace hF := atI_e hF
    obtain ⟨r5, rfl, hF⟩ := hF
    refine rz_if_ne (tgt := 101) dX5_readFactor_96 (by decide) (fun c => ?_) (fun c => ?_)
    · replace hF := ite_f hF c
      refine rz_iconst dX5_readFactor_101 rfl (by decide) ?_
      refine rz_istore (ls' := [some (vo x0), some (vi x1), some (vi x2), some (vi x3), some (vi 0)]) dX5_readFactor_102 (Nat.le_of_ble_eq_true rfl) rfl ?_
      refine ez_kp [true, false, true, true, true] rfl ?_
      exact hF
    · replace hF := ite_t hF c
      refine rz_iconst dX5_readFactor_99 rfl (by decide) ?_
      exact rz_iret dX5_readFactor_100 (Or.inl rfl) hF
  · replace hF := ite_t hF c
    refine rz_aload_n dX5_readFactor_81 rfl (show _ = some (some (vo x0)) from rfl) ?_
    refine rz_iload_n dX5_readFactor_82 rfl (show _ = some (some (vi x1)) from rfl) ?_
    replace hF := rcv_e hF
    obtain ⟨fs, hg, hF⟩ := hF
    refine rz_callV (mc' := 0) (ms' := 0) (mc := 0) (ms := 0) (st := []) dX5_readFactor_83 cV_X5_106 rfl hg ⟨_, _, rfl⟩ rfl (Nat.le_of_ble_eq_true rfl) hF (fun v h6 hG => ?_)
    clear hF
    revert hG
    intro hF
    replace hF := atI_e hF
    obtain ⟨r7, rfl, hF⟩ := hF
    refine rz_if_ne (tgt := 101) dX5_readFactor_86 (by decide) (fun c => ?_) (fun c => ?_)
    · replace hF := ite_f hF c
      refine rz_iconst dX5_readFactor_101 rfl (by decide) ?_
      refine rz_istore (ls' := [some (vo x0), some (vi x1), some (vi x2), some (vi x3), some (vi 0)]) dX5_readFactor_102 (Nat.le_of_ble_eq_true rfl) rfl ?_
      refine ez_kp [true, false, true, true, true] rfl ?_
      exact hF
    · replace hF := ite_t hF c
      refine rz_goto (tgt := 99) dX5_readFactor_89 (by decide) ?_
      refine rz_iconst dX5_readFactor_99 rfl (by decide) ?_
      exact rz_iret dX5_readFactor_100 (Or.inl rfl) hF
theorem vX5_readFactor_34 {G : az_G} {d : Nat} {x0 : Nat} {x1 : Int} {x2 : Int} {x3 : Int} {h : az_H} {Q : Option az_V → az_H → Prop} (hF : rdO h x0 5 0 (fun o1 => rcv h o1 8 (cz G mX8_token d 0 0 [vo o1] h (fun v h2 => atI v (fun r3 => (if r3 = 45 then rdO h2 x0 5 0 (fun o6 => rcv h2 o6 8 (cz G mX8_next d 0 0 [vo o6] h2 (fun v h7 => atV v (pX5_readFactor_4 G d x0 x1 (w32 (x2 + 1)) (w32 ((w32 (x3 * 2)) + 1)) h7 Q)))) else rdO h2 x0 5 0 (fun o4 => rcv h2 o4 8 (cz G mX8_next d 0 0 [vo o4] h2 (fun v h5 => atV v (pX5_readFactor_4 G d x0 x1 (w32 (x2 + 1)) (w32 ((w32 (x3 * 2)) + 0)) h5 Q)))))))))) : pX5_readFactor_34 G d x0 x1 x2 x3 h Q := by
  unfold pX5_readFactor_34
  refine rz_iload_n dX5_readFactor_34 rfl (show _ = some (some (vi x3)) from rfl) ?_
  refine rz_iconst dX5_readFactor_35 rfl (by decide) ?_
  refine rz_imul dX5_readFactor_36 ?_
  refine rz_aload_n dX5_readFactor_37 rfl (show _ = some (some (vo x0)) from rfl) ?_
  replace hF := rdO_e hF
  obtain ⟨fs, o1, hg, hv, hF⟩ := hF
  refine rz_getf dX5_readFactor_38 fl_X5_20 hg hv ?_
  replace hF := rcv_e hF
  obtain ⟨fs, hg, hF⟩ := hF
  refine rz_callV (mc' := 0) (ms' := 0) (mc := 0) (ms := 0) (st := [vi (w32 (x3 * 2))]) dX5_readFactor_41 cV_X5_32 rfl hg ⟨_, _, rfl⟩ rfl (Nat.le_of_ble_eq_true rfl) hF (fun v h2 hG => ?_)
  clear hF
  revert hG
  intro hF
  replace hF := atI_e hF
  obtain ⟨r3, rfl, hF⟩ := hF
  refine rz_bipush (v := 45) dX5_readFactor_44 (by decide) (by decide) ?_
  refine rz_icmp_ne (tgt := 53) dX5_readFactor_46 (by decide) (fun c => ?_) (fun c => ?_)
  · replace hF := ite_f hF c
    refine rz_iconst dX5_readFactor_53 rfl (by decide) ?_
    refine rz_iadd dX5_readFactor_54 ?_
    refine rz_istore_n (ls' := [some (vo x0), some (vi x1), some (vi x2), some (vi (w32 ((w32 (x3 * 2)) + 0))), none]) dX5_readFactor_55 rfl (Nat.le_of_ble_eq_true rfl) rfl ?_
    refine rz_iinc (ls' := [some (vo x0), some (vi x1), some (vi (w32 (x2 + 1))), some (vi (w32 ((w32 (x3 * 2)) + 0))), none]) dX5_readFactor_56 rfl (Nat.le_of_ble_eq_true rfl) rfl ?_
    refine rz_aload_n dX5_readFactor_59 rfl (show _ = some (some (vo x0)) from rfl) ?_
    replace hF := rdO_e hF
    obtain ⟨fs, o4, hg, hv, hF⟩ := hF
    refine rz_getf dX5_readFactor_60 fl_X5_20 hg hv ?_
    replace hF := rcv_e hF
    obtain ⟨fs, hg, hF⟩ := hF
    refine rz_callV (mc' := 0) (ms' := 0) (mc := 0) (ms := 0) (st := []) dX5_readFactor_63 cV_X5_72 rfl hg ⟨_, _, rfl⟩ rfl (Nat.le_of_ble_eq_true rfl) hF (fun v h5 hG => ?_)
    clear hF
    revert hG
    intro hF
    replace hF := atV_e hF
    obtain ⟨rfl, hF⟩ := hF
    refine rz_goto (tgt := 4) dX5_readFactor_66 (by decide) ?_
    exact hF
  · replace hF := ite_t hF c
    refine rz_iconst dX5_readFactor_49 rfl (by decide) ?_
    refine rz_goto (tgt := 54) dX5_readFactor_50 (by decide) ?_
    refine rz_iadd dX5_readFactor_54 ?_
    refine rz_istore_n (ls' := [some (vo x0), some (vi x1), some (vi x2), some (vi (w32 ((w32 (x3 * 2)) + 1))), none]) dX5_readFactor_55 rfl (Nat.le_of_ble_eq_true rfl) rfl ?_
    refine rz_iinc (ls' := [some (vo x0), some (vi x1), some (vi (w32 (x2 + 1))), some (vi (w32 ((w32 (x3 * 2)) + 1))), none]) dX5_readFactor_56 rfl (Nat.le_of_ble_eq_true rfl) rfl ?_
    refine rz_aload_n dX5_readFactor_59 rfl (show _ = some (some (vo x0)) from rfl) ?_
    replace hF := rdO_e hF
    obtain ⟨fs, o6, hg, hv, hF⟩ := hF
    refine rz_getf dX5_readFactor_60 fl_X5_20 hg hv ?_
    replace hF := rcv_e hF
    obtain ⟨fs, hg, hF⟩ := hF
    refine rz_callV (mc' := 0) (ms' := 0) (mc := 0) (ms := 0) (st := []) dX5_readFactor_63 cV_X5_72 rfl hg ⟨_, _, rfl⟩ rfl (Nat.le_of_ble_eq_true rfl) hF (fun v h7 hG => ?_)
    clear hF
    revert hG
    intro hF
    replace hF := atV_e hF
    obtain ⟨rfl, hF⟩ := hF
    refine rz_goto (tgt := 4) dX5_readFactor_66 (by decide) ?_
    exact hF
theorem vX5_readFactor_4 {G : az_G} {d : Nat} {x0 : Nat} {x1 : Int} {x2 : Int} {x3 : Int} {h : az_H} {Q : Option az_V → az_H → Prop} (hF : (if 8 ≤ x2 then pX5_readFactor_69 G d x0 x1 x2 x3 h Q else rdO h x0 5 0 (fun o1 => rcv h o1 8 (cz G mX8_token d 0 0 [vo o1] h (fun v h2 => atI v (fun r3 => (if r3 = 33 then pX5_readFactor_34 G d x0 x1 x2 x3 h2 Q else rdO h2 x0 5 0 (fun o4 => rcv h2 o4 8 (cz G mX8_token d 0 0 [vo o4] h2 (fun v h5 => atI v (fun r6 => (if r6 = 45 then pX5_readFactor_34 G d x0 x1 x2 x3 h5 Q else pX5_readFactor_69 G d x0 x1 x2 x3 h5 Q)))))))))))) : pX5_readFactor_4 G d x0 x1 x2 x3 h Q := by
  unfold pX5_readFactor_4
  refine rz_iload_n dX5_readFactor_4 rfl (show _ = some (some (vi x2)) from rfl) ?_
  refine rz_bipush (v := 8) dX5_readFactor_5 (by decide) (by decide) ?_
  refine rz_icmp_ge (tgt := 69) dX5_readFactor_7 (by decide) (fun c => ?_) (fun c => ?_)
  · replace hF := ite_t hF c
    exact hF
  · replace hF := ite_f hF c
    refine rz_aload_n dX5_readFactor_10 rfl (show _ = some (some (vo x0)) from rfl) ?_
    replace hF := rdO_e hF
    obtain ⟨fs, o1, hg, hv, hF⟩ := hF
    refine rz_getf dX5_readFactor_11 fl_X5_20 hg hv ?_
    replace hF := rcv_e hF
    obtain ⟨fs, hg, hF⟩ := hF
    refine rz_callV (mc' := 0) (ms' := 0) (mc := 0) (ms := 0) (st := []) dX5_readFactor_14 cV_X5_32 rfl hg ⟨_, _, rfl⟩ rfl (Nat.le_of_ble_eq_true rfl) hF (fun v h2 hG => ?_)
    clear hF
    revert hG
    intro hF
    replace hF := atI_e hF
    obtain ⟨r3, rfl, hF⟩ := hF
    refine rz_bipush (v := 33) dX5_readFactor_17 (by decide) (by decide) ?_
    refine rz_icmp_eq (tgt := 34) dX5_readFactor_19 (by decide) (fun c => ?_) (fun c => ?_)
    · replace hF := ite_t hF c
      exact hF
    · replace hF := ite_f hF c
      refine rz_aload_n dX5_readFactor_22 rfl (show _ = some (some (vo x0)) from rfl) ?_
      replace hF := rdO_e hF
      obtain ⟨fs, o4, hg, hv, hF⟩ := hF
      refine rz_getf dX5_readFactor_23 fl_X5_20 hg hv ?_
      replace hF := rcv_e hF
      obtain ⟨fs, hg, hF⟩ := hF
      refine rz_callV (mc' := 0) (ms' := 0) (mc := 0) (ms := 0) (st := []) dX5_readFactor_26 cV_X5_32 rfl hg ⟨_, _, rfl⟩ rfl (Nat.le_of_ble_eq_true rfl) hF (fun v h5 hG => ?_)
      clear hF
      revert hG
      intro hF
      replace hF := atI_e hF
      obtain ⟨r6, rfl, hF⟩ := hF
      refine rz_bipush (v := 45) dX5_readFactor_29 (by decide) (by decide) ?_
      refine rz_icmp_ne (tgt := 69) dX5_readFactor_31 (by decide) (fun c => ?_) (fun c => ?_)
      · replace hF := ite_f hF c
        exact hF
      · replace hF := ite_t hF c
        exact hF
theorem vX5_readFactor {G : az_G} {d : Nat} {x0 : Nat} {x1 : Int} {h : az_H} {Q : Option az_V → az_H → Prop} (hF : pX5_readFactor_4 G d x0 x1 0 0 h Q) : cz G mX5_readFactor (d + 1) 0 0 [vo x0, vi x1] h Q := by
  refine cz_of (ls := [some (vo x0), some (vi x1), none, none, none]) (by decide +kernel) (Nat.le_of_ble_eq_true rfl) rfl ?_
  refine rz_iconst dX5_readFactor_0 rfl (by decide) ?_
  refine rz_istore_n (ls' := [some (vo x0), some (vi x1), some (vi 0), none, none]) dX5_readFactor_1 rfl (Nat.le_of_ble_eq_true rfl) rfl ?_
  refine rz_iconst dX5_readFactor_2 rfl (by decide) ?_
  refine rz_istore_n (ls' := [some (vo x0), some (vi x1), some (vi 0), some (vi 0), none]) dX5_readFactor_3 rfl (Nat.le_of_ble_eq_true rfl) rfl ?_
  exact hF
