theorem vX5_productOp {G : az_G} {d : Nat} {x0 : Int} {h : az_H} {Q : Option az_V → az_H → Prop} (hF : (if x0 = 38 then Q (some (vi 15)) h else (if x0 = 42 then Q (some (vi 13)) h else (if x0 = 47 then Q (some (vi 14)) h else Q (some (vi 0)) h)))) : cz G mX5_productOp d 0 0 [vi x0] h Q := by
  refine cz_of (ls := [some (vi x0)]) (by decide +kernel) (Nat.le_of_ble_eq_true rfl) rfl ?_
  refine rz_iload_n dX5_productOp_0 rfl (show _ = some (some (vi x0)) from rfl) ?_
  by_cases c1 : x0 = 38
  · replace hF := ite_t hF c1
    refine rz_lookup (off := 41) (tgt := 42) dX5_productOp_1 (by decide) (by rw [c1]; rfl) (by decide) ?_
    refine rz_bipush (v := 15) dX5_productOp_42 (by decide) (by decide) ?_
    exact rz_iret dX5_productOp_44 trivial hF
  · replace hF := ite_f hF c1
    by_cases c2 : x0 = 42
    · replace hF := ite_t hF c2
      refine rz_lookup (off := 35) (tgt := 36) dX5_productOp_1 (by decide) (by rw [c2]; rfl) (by decide) ?_
      refine rz_bipush (v := 13) dX5_productOp_36 (by decide) (by decide) ?_
      exact rz_iret dX5_productOp_38 trivial hF
    · replace hF := ite_f hF c2
      by_cases c3 : x0 = 47
      · replace hF := ite_t hF c3
        refine rz_lookup (off := 38) (tgt := 39) dX5_productOp_1 (by decide) (by rw [c3]; rfl) (by decide) ?_
        refine rz_bipush (v := 14) dX5_productOp_39 (by decide) (by decide) ?_
        exact rz_iret dX5_productOp_41 trivial hF
      · replace hF := ite_f hF c3
        refine rz_lookup (off := 44) (tgt := 45) dX5_productOp_1 (by decide) (by simp [Op.lookupswitch.offset, show ¬ (38 : Int) = x0 from fun q => c1 q.symm, show ¬ (42 : Int) = x0 from fun q => c2 q.symm, show ¬ (47 : Int) = x0 from fun q => c3 q.symm]) (by decide) ?_
        refine rz_iconst dX5_productOp_45 rfl (by decide) ?_
        exact rz_iret dX5_productOp_46 trivial hF
def pX5_readProduct_12 (G : az_G) (d : Nat) (x0 : Nat) (x1 : Int) (x2 : Int) (h : az_H) (Q : Option az_V → az_H → Prop) : Prop := ez G mX5_readProduct (d + 1) 0 0 12 [some (vo x0), some (vi x1), some (vi x2), none] [] h Q
theorem vX5_readProduct_12 {G : az_G} {d : Nat} {x0 : Nat} {x1 : Int} {x2 : Int} {h : az_H} {Q : Option az_V → az_H → Prop} (hF : (if 208 ≤ x2 then Q (some (vi 1)) h else rdO h x0 5 0 (fun o1 => rcv h o1 8 (cz G mX8_token d 0 0 [vo o1] h (fun v h2 => atI v (fun r3 => cz G mX5_productOp d 0 0 [vi r3] h2 (fun v h4 => atI v (fun r5 => (if r5 = 0 then Q (some (vi 1)) h4 else rdO h4 x0 5 0 (fun o6 => rcv h4 o6 8 (cz G mX8_next d 0 0 [vo o6] h4 (fun v h7 => atV v (rcv h7 x0 5 (cz G mX5_readFactor d 0 0 [vo x0, vi x1] h7 (fun v h8 => atI v (fun r9 => (if r9 = 0 then Q (some (vi 0)) h8 else rcv h8 x0 5 (cz G mX5_add d 0 0 [vo x0, vi r5, vi 0] h8 (fun v h10 => atV v (pX5_readProduct_12 G d x0 x1 (w32 (x2 + 1)) h10 Q)))))))))))))))))))) : pX5_readProduct_12 G d x0 x1 x2 h Q := by
  unfold pX5_readProduct_12
  refine rz_iload_n dX5_readProduct_12 rfl (show _ = some (some (vi x2)) from rfl) ?_
  refine rz_sipush (v := 208) dX5_readProduct_13 (by decide) (by decide) ?_
  refine rz_icmp_ge (tgt := 65) dX5_readProduct_16 (by decide) (fun c => ?_) (fun c => ?_)
  · replace hF := ite_t hF c
    refine rz_iconst dX5_readProduct_65 rfl (by decide) ?_
    exact rz_iret dX5_readProduct_66 (Or.inr rfl) hF
  · replace hF := ite_f hF c
    refine rz_aload_n dX5_readProduct_19 rfl (show _ = some (some (vo x0)) from rfl) ?_
    replace hF := rdO_e hF
    obtain ⟨fs, o1, hg, hv, hF⟩ := hF
    refine rz_getf dX5_readProduct_20 fl_X5_20 hg hv ?_
    replace hF := rcv_e hF
    obtain ⟨fs, hg, hF⟩ := hF
    refine rz_callV (mc' := 0) (ms' := 0) (mc := 0) (ms := 0) (st := []) dX5_readProduct_23 cV_X5_32 rfl hg ⟨_, _, rfl⟩ rfl (Nat.le_of_ble_eq_true rfl) hF (fun v h2 hG => ?_)
    clear hF
    revert hG
    intro hF
    replace hF := atI_e hF
    obtain ⟨r3, rfl, hF⟩ := hF
    refine rz_callS (mc' := 0) (ms' := 0) (mc := 0) (ms := 0) (st := []) dX5_readProduct_26 cS_X5_103 rfl rfl (Nat.le_of_ble_eq_true rfl) hF (fun v h4 hG => ?_)
    clear hF
    revert hG
    intro hF
    replace hF := atI_e hF
    obtain ⟨r5, rfl, hF⟩ := hF
    refine rz_istore_n (ls' := [some (vo x0), some (vi x1), some (vi x2), some (vi r5)]) dX5_readProduct_29 rfl (Nat.le_of_ble_eq_true rfl) rfl ?_
    refine rz_iload_n dX5_readProduct_30 rfl (show _ = some (some (vi r5)) from rfl) ?_
    refine rz_if_ne (tgt := 36) dX5_readProduct_31 (by decide) (fun c => ?_) (fun c => ?_)
    · replace hF := ite_f hF c
      refine rz_aload_n dX5_readProduct_36 rfl (show _ = some (some (vo x0)) from rfl) ?_
      replace hF := rdO_e hF
      obtain ⟨fs, o6, hg, hv, hF⟩ := hF
      refine rz_getf dX5_readProduct_37 fl_X5_20 hg hv ?_
      replace hF := rcv_e hF
      obtain ⟨fs, hg, hF⟩ := hF
      refine rz_callV (mc' := 0) (ms' := 0) (mc := 0) (ms := 0) (st := []) dX5_readProduct_40 cV_X5_72 rfl hg ⟨_, _, rfl⟩ rfl (Nat.le_of_ble_eq_true rfl) hF (fun v h7 hG => ?_)
      clear hF
      revert hG
      intro hF
      replace hF := atV_e hF
      obtain ⟨rfl, hF⟩ := hF
      refine rz_aload_n dX5_readProduct_43 rfl (show _ = some (some (vo x0)) from rfl) ?_
      refine rz_iload_n dX5_readProduct_44 rfl (show _ = some (some (vi x1)) from rfl) ?_
      replace hF := rcv_e hF
      obtain ⟨fs, hg, hF⟩ := hF
      refine rz_callV (mc' := 0) (ms' := 0) (mc := 0) (ms := 0) (st := []) dX5_readProduct_45 cV_X5_100 rfl hg ⟨_, _, rfl⟩ rfl (Nat.le_of_ble_eq_true rfl) hF (fun v h8 hG => ?_)
      clear hF
      revert hG
      intro hF
      replace hF := atI_e hF
      obtain ⟨r9, rfl, hF⟩ := hF
      refine rz_if_ne (tgt := 53) dX5_readProduct_48 (by decide) (fun c => ?_) (fun c => ?_)
      · replace hF := ite_f hF c
        refine rz_aload_n dX5_readProduct_53 rfl (show _ = some (some (vo x0)) from rfl) ?_
        refine rz_iload_n dX5_readProduct_54 rfl (show _ = some (some (vi r5)) from rfl) ?_
        refine rz_iconst dX5_readProduct_55 rfl (by decide) ?_
        replace hF := rcv_e hF
        obtain ⟨fs, hg, hF⟩ := hF
        refine rz_callV (mc' := 0) (ms' := 0) (mc := 0) (ms := 0) (st := []) dX5_readProduct_56 cV_X5_84 rfl hg ⟨_, _, rfl⟩ rfl (Nat.le_of_ble_eq_true rfl) hF (fun v h10 hG => ?_)
        clear hF
        revert hG
        intro hF
        replace hF := atV_e hF
        obtain ⟨rfl, hF⟩ := hF
        refine rz_iinc (ls' := [some (vo x0), some (vi x1), some (vi (w32 (x2 + 1))), some (vi r5)]) dX5_readProduct_59 rfl (Nat.le_of_ble_eq_true rfl) rfl ?_
        refine rz_goto (tgt := 12) dX5_readProduct_62 (by decide) ?_
        refine ez_kp [true, true, true, false] rfl ?_
        exact hF
      · replace hF := ite_t hF c
        refine rz_iconst dX5_readProduct_51 rfl (by decide) ?_
        exact rz_iret dX5_readProduct_52 (Or.inl rfl) hF
    · replace hF := ite_t hF c
      refine rz_iconst dX5_readProduct_34 rfl (by decide) ?_
      exact rz_iret dX5_readProduct_35 (Or.inr rfl) hF
theorem vX5_readProduct {G : az_G} {d : Nat} {x0 : Nat} {x1 : Int} {h : az_H} {Q : Option az_V → az_H → Prop} (hF : rcv h x0 5 (cz G mX5_readFactor d 0 0 [vo x0, vi x1] h (fun v h1 => atI v (fun r2 => (if r2 = 0 then Q (some (vi 0)) h1 else pX5_readProduct_12 G d x0 x1 0 h1 Q))))) : cz G mX5_readProduct (d + 1) 0 0 [vo x0, vi x1] h Q := by
  refine cz_of (ls := [some (vo x0), some (vi x1), none, none]) (by decide +kernel) (Nat.le_of_ble_eq_true rfl) rfl ?_
  refine rz_aload_n dX5_readProduct_0 rfl (show _ = some (some (vo x0)) from rfl) ?_
  refine rz_iload_n dX5_readProduct_1 rfl (show _ = some (some (vi x1)) from rfl) ?_
  replace hF := rcv_e hF
  obtain ⟨fs, hg, hF⟩ := hF
  refine rz_callV (mc' := 0) (ms' := 0) (mc := 0) (ms := 0) (st := []) dX5_readProduct_2 cV_X5_100 rfl hg ⟨_, _, rfl⟩ rfl (Nat.le_of_ble_eq_true rfl) hF (fun v h1 hG => ?_)
  clear hF
  revert hG
  intro hF
  replace hF := atI_e hF
  obtain ⟨r2, rfl, hF⟩ := hF
  refine rz_if_ne (tgt := 10) dX5_readProduct_5 (by decide) (fun c => ?_) (fun c => ?_)
  · replace hF := ite_f hF c
    refine rz_iconst dX5_readProduct_10 rfl (by decide) ?_
    refine rz_istore_n (ls' := [some (vo x0), some (vi x1), some (vi 0), none]) dX5_readProduct_11 rfl (Nat.le_of_ble_eq_true rfl) rfl ?_
    exact hF
  · replace hF := ite_t hF c
    refine rz_iconst dX5_readProduct_8 rfl (by decide) ?_
    exact rz_iret dX5_readProduct_9 (Or.inl rfl) hF
theorem vX5_sumOp {G : az_G} {d : Nat} {x0 : Int} {h : az_H} {Q : Option az_V → az_H → Prop} (hF : (if x0 = 43 then Q (some (vi 10)) h else (if x0 = 45 then Q (some (vi 11)) h else (if x0 = 124 then Q (some (vi 12)) h else Q (some (vi 0)) h)))) : cz G mX5_sumOp d 0 0 [vi x0] h Q := by
  refine cz_of (ls := [some (vi x0)]) (by decide +kernel) (Nat.le_of_ble_eq_true rfl) rfl ?_
  refine rz_iload_n dX5_sumOp_0 rfl (show _ = some (some (vi x0)) from rfl) ?_
  by_cases c1 : x0 = 43
  · replace hF := ite_t hF c1
    refine rz_lookup (off := 35) (tgt := 36) dX5_sumOp_1 (by decide) (by rw [c1]; rfl) (by decide) ?_
    refine rz_bipush (v := 10) dX5_sumOp_36 (by decide) (by decide) ?_
    exact rz_iret dX5_sumOp_38 trivial hF
  · replace hF := ite_f hF c1
    by_cases c2 : x0 = 45
    · replace hF := ite_t hF c2
      refine rz_lookup (off := 38) (tgt := 39) dX5_sumOp_1 (by decide) (by rw [c2]; rfl) (by decide) ?_
      refine rz_bipush (v := 11) dX5_sumOp_39 (by decide) (by decide) ?_
      exact rz_iret dX5_sumOp_41 trivial hF
    · replace hF := ite_f hF c2
      by_cases c3 : x0 = 124
      · replace hF := ite_t hF c3
        refine rz_lookup (off := 41) (tgt := 42) dX5_sumOp_1 (by decide) (by rw [c3]; rfl) (by decide) ?_
        refine rz_bipush (v := 12) dX5_sumOp_42 (by decide) (by decide) ?_
        exact rz_iret dX5_sumOp_44 trivial hF
      · replace hF := ite_f hF c3
        refine rz_lookup (off := 44) (tgt := 45) dX5_sumOp_1 (by decide) (by simp [Op.lookupswitch.offset, show ¬ (43 : Int) = x0 from fun q => c1 q.symm, show ¬ (45 : Int) = x0 from fun q => c2 q.symm, show ¬ (124 : Int) = x0 from fun q => c3 q.symm]) (by decide) ?_
        refine rz_iconst dX5_sumOp_45 rfl (by decide) ?_
        exact rz_iret dX5_sumOp_46 trivial hF
def pX5_readSum_12 (G : az_G) (d : Nat) (x0 : Nat) (x1 : Int) (x2 : Int) (h : az_H) (Q : Option az_V → az_H → Prop) : Prop := ez G mX5_readSum (d + 1) 0 0 12 [some (vo x0), some (vi x1), some (vi x2), none] [] h Q
theorem vX5_readSum_12 {G : az_G} {d : Nat} {x0 : Nat} {x1 : Int} {x2 : Int} {h : az_H} {Q : Option az_V → az_H → Prop} (hF : (if 208 ≤ x2 then Q (some (vi 1)) h else rdO h x0 5 0 (fun o1 => rcv h o1 8 (cz G mX8_token d 0 0 [vo o1] h (fun v h2 => atI v (fun r3 => cz G mX5_sumOp d 0 0 [vi r3] h2 (fun v h4 => atI v (fun r5 => (if r5 = 0 then Q (some (vi 1)) h4 else rdO h4 x0 5 0 (fun o6 => rcv h4 o6 8 (cz G mX8_next d 0 0 [vo o6] h4 (fun v h7 => atV v (rcv h7 x0 5 (cz G mX5_readProduct d 0 0 [vo x0, vi x1] h7 (fun v h8 => atI v (fun r9 => (if r9 = 0 then Q (some (vi 0)) h8 else rcv h8 x0 5 (cz G mX5_add d 0 0 [vo x0, vi r5, vi 0] h8 (fun v h10 => atV v (pX5_readSum_12 G d x0 x1 (w32 (x2 + 1)) h10 Q)))))))))))))))))))) : pX5_readSum_12 G d x0 x1 x2 h Q := by
  unfold pX5_readSum_12
  refine rz_iload_n dX5_readSum_12 rfl (show _ = some (some (vi x2)) from rfl) ?_
  refine rz_sipush (v := 208) dX5_readSum_13 (by decide) (by decide) ?_
  refine rz_icmp_ge (tgt := 65) dX5_readSum_16 (by decide) (fun c => ?_) (fun c => ?_)
  · replace hF := ite_t hF c
    refine rz_iconst dX5_readSum_65 rfl (by decide) ?_
    exact rz_iret dX5_readSum_66 (Or.inr rfl) hF
  · replace hF := ite_f hF c
    refine rz_aload_n dX5_readSum_19 rfl (show _ = some (some (vo x0)) from rfl) ?_
    replace hF := rdO_e hF
    obtain ⟨fs, o1, hg, hv, hF⟩ := hF
    refine rz_getf dX5_readSum_20 fl_X5_20 hg hv ?_
    replace hF := rcv_e hF
    obtain ⟨fs, hg, hF⟩ := hF
    refine rz_callV (mc' := 0) (ms' := 0) (mc := 0) (ms := 0) (st := []) dX5_readSum_23 cV_X5_32 rfl hg ⟨_, _, rfl⟩ rfl (Nat.le_of_ble_eq_true rfl) hF (fun v h2 hG => ?_)
    clear hF
    revert hG
    intro hF
    replace hF := atI_e hF
    obtain ⟨r3, rfl, hF⟩ := hF
    refine rz_callS (mc' := 0) (ms' := 0) (mc := 0) (ms := 0) (st := []) dX5_readSum_26 cS_X5_97 rfl rfl (Nat.le_of_ble_eq_true rfl) hF (fun v h4 hG => ?_)
    clear hF
    revert hG
    intro hF
    replace hF := atI_e hF
    obtain ⟨r5, rfl, hF⟩ := hF
    refine rz_istore_n (ls' := [some (vo x0), some (vi x1), some (vi x2), some (vi r5)]) dX5_readSum_29 rfl (Nat.le_of_ble_eq_true rfl) rfl ?_
    refine rz_iload_n dX5_readSum_30 rfl (show _ = some (some (vi r5)) from rfl) ?_
    refine rz_if_ne (tgt := 36) dX5_readSum_31 (by decide) (fun c => ?_) (fun c => ?_)
    · replace hF := ite_f hF c
      refine rz_aload_n dX5_readSum_36 rfl (show _ = some (some (vo x0)) from rfl) ?_
      replace hF := rdO_e hF
      obtain ⟨fs, o6, hg, hv, hF⟩ := hF
      refine rz_getf dX5_readSum_37 fl_X5_20 hg hv ?_
      replace hF := rcv_e hF
      obtain ⟨fs, hg, hF⟩ := hF
      refine rz_callV (mc' := 0) (ms' := 0) (mc := 0) (ms := 0) (st := []) dX5_readSum_40 cV_X5_72 rfl hg ⟨_, _, rfl⟩ rfl (Nat.le_of_ble_eq_true rfl) hF (fun v h7 hG => ?_)
      clear hF
      revert hG
      intro hF
      replace hF := atV_e hF
      obtain ⟨rfl, hF⟩ := hF
      refine rz_aload_n dX5_readSum_43 rfl (show _ = some (some (vo x0)) from rfl) ?_
      refine rz_iload_n dX5_readSum_44 rfl (show _ = some (some (vi x1)) from rfl) ?_
      replace hF := rcv_e hF
      obtain ⟨fs, hg, hF⟩ := hF
      refine rz_callV (mc' := 0) (ms' := 0) (mc := 0) (ms := 0) (st := []) dX5_readSum_45 cV_X5_94 rfl hg ⟨_, _, rfl⟩ rfl (Nat.le_of_ble_eq_true rfl) hF (fun v h8 hG => ?_)
      clear hF
      revert hG
      intro hF
      replace hF := atI_e hF
      obtain ⟨r9, rfl, hF⟩ := hF
      refine rz_if_ne (tgt := 53) dX5_readSum_48 (by decide) (fun c => ?_) (fun c => ?_)
      · replace hF := ite_f hF c
        refine rz_aload_n dX5_readSum_53 rfl (show _ = some (some (vo x0)) from rfl) ?_
        refine rz_iload_n dX5_readSum_54 rfl (show _ = some (some (vi r5)) from rfl) ?_
        refine rz_iconst dX5_readSum_55 rfl (by decide) ?_
        replace hF := rcv_e hF
        obtain ⟨fs, hg, hF⟩ := hF
        refine rz_callV (mc' := 0) (ms' := 0) (mc := 0) (ms := 0) (st := []) dX5_readSum_56 cV_X5_84 rfl hg ⟨_, _, rfl⟩ rfl (Nat.le_of_ble_eq_true rfl) hF (fun v h10 hG => ?_)
        clear hF
        revert hG
        intro hF
        replace hF := atV_e hF
        obtain ⟨rfl, hF⟩ := hF
        refine rz_iinc (ls' := [some (vo x0), some (vi x1), some (vi (w32 (x2 + 1))), some (vi r5)]) dX5_readSum_59 rfl (Nat.le_of_ble_eq_true rfl) rfl ?_
        refine rz_goto (tgt := 12) dX5_readSum_62 (by decide) ?_
        refine ez_kp [true, true, true, false] rfl ?_
        exact hF
      · replace hF := ite_t hF c
        refine rz_iconst dX5_readSum_51 rfl (by decide) ?_
        exact rz_iret dX5_readSum_52 (Or.inl rfl) hF
    · replace hF := ite_t hF c
      refine rz_iconst dX5_readSum_34 rfl (by decide) ?_
      exact rz_iret dX5_readSum_35 (Or.inr rfl) hF
theorem vX5_readSum {G : az_G} {d : Nat} {x0 : Nat} {x1 : Int} {h : az_H} {Q : Option az_V → az_H → Prop} (hF : rcv h x0 5 (cz G mX5_readProduct d 0 0 [vo x0, vi x1] h (fun v h1 => atI v (fun r2 => (if r2 = 0 then Q (some (vi 0)) h1 else pX5_readSum_12 G d x0 x1 0 h1 Q))))) : cz G mX5_readSum (d + 1) 0 0 [vo x0, vi x1] h Q := by
  refine cz_of (ls := [some (vo x0), some (vi x1), none, none]) (by decide +kernel) (Nat.le_of_ble_eq_true rfl) rfl ?_
  refine rz_aload_n dX5_readSum_0 rfl (show _ = some (some (vo x0)) from rfl) ?_
  refine rz_iload_n dX5_readSum_1 rfl (show _ = some (some (vi x1)) from rfl) ?_
  replace hF := rcv_e hF
  obtain ⟨fs, hg, hF⟩ := hF
  refine rz_callV (mc' := 0) (ms' := 0) (mc := 0) (ms := 0) (st := []) dX5_readSum_2 cV_X5_94 rfl hg ⟨_, _, rfl⟩ rfl (Nat.le_of_ble_eq_true rfl) hF (fun v h1 hG => ?_)
  clear hF
  revert hG
  intro hF
  replace hF := atI_e hF
  obtain ⟨r2, rfl, hF⟩ := hF
  refine rz_if_ne (tgt := 10) dX5_readSum_5 (by decide) (fun c => ?_) (fun c => ?_)
  · replace hF := ite_f hF c
    refine rz_iconst dX5_readSum_10 rfl (by decide) ?_
    refine rz_istore_n (ls' := [some (vo x0), some (vi x1), some (vi 0), none]) dX5_readSum_11 rfl (Nat.le_of_ble_eq_true rfl) rfl ?_
    exact hF
  · replace hF := ite_t hF c
    refine rz_iconst dX5_readSum_8 rfl (by decide) ?_
    exact rz_iret dX5_readSum_9 (Or.inl rfl) hF
def pX5_readExpression_32 (G : az_G) (d : Nat) (x0 : Nat) (x1 : Int) (x2 : Int) (h : az_H) (Q : Option az_V → az_H → Prop) : Prop := ez G mX5_readExpression (d + 1) 0 0 32 [some (vo x0), some (vi x1), some (vi x2)] [] h Q
theorem vX5_readExpression_32 {G : az_G} {d : Nat} {x0 : Nat} {x1 : Int} {x2 : Int} {h : az_H} {Q : Option az_V → az_H → Prop} (hF : rdO h x0 5 0 (fun o1 => rcv h o1 8 (cz G mX8_next d 0 0 [vo o1] h (fun v h2 => atV v (rcv h2 x0 5 (cz G mX5_readSum d 0 0 [vo x0, vi x1] h2 (fun v h3 => atI v (fun r4 => (if r4 = 0 then Q (some (vi 0)) h3 else (if x2 = 60 then rcv h3 x0 5 (cz G mX5_add d 0 0 [vo x0, vi 16, vi 0] h3 (fun v h6 => atV v (Q (some (vi 1)) h6))) else rcv h3 x0 5 (cz G mX5_add d 0 0 [vo x0, vi 17, vi 0] h3 (fun v h5 => atV v (Q (some (vi 1)) h5))))))))))))) : pX5_readExpression_32 G d x0 x1 x2 h Q := by
  unfold pX5_readExpression_32
  refine rz_aload_n dX5_readExpression_32 rfl (show _ = some (some (vo x0)) from rfl) ?_
  replace hF := rdO_e hF
  obtain ⟨fs, o1, hg, hv, hF⟩ := hF
  refine rz_getf dX5_readExpression_33 fl_X5_20 hg hv ?_
  replace hF := rcv_e hF
  obtain ⟨fs, hg, hF⟩ := hF
  refine rz_callV (mc' := 0) (ms' := 0) (mc := 0) (ms := 0) (st := []) dX5_readExpression_36 cV_X5_72 rfl hg ⟨_, _, rfl⟩ rfl (Nat.le_of_ble_eq_true rfl) hF (fun v h2 hG => ?_)
  clear hF
  revert hG
  intro hF
  replace hF := atV_e hF
  obtain ⟨rfl, hF⟩ := hF
  refine rz_aload_n dX5_readExpression_39 rfl (show _ = some (some (vo x0)) from rfl) ?_
  refine rz_iload_n dX5_readExpression_40 rfl (show _ = some (some (vi x1)) from rfl) ?_
  replace hF := rcv_e hF
  obtain ⟨fs, hg, hF⟩ := hF
  refine rz_callV (mc' := 0) (ms' := 0) (mc := 0) (ms := 0) (st := []) dX5_readExpression_41 cV_X5_91 rfl hg ⟨_, _, rfl⟩ rfl (Nat.le_of_ble_eq_true rfl) hF (fun v h3 hG => ?_)
  clear hF
  revert hG
  intro hF
  replace hF := atI_e hF
  obtain ⟨r4, rfl, hF⟩ := hF
  refine rz_if_ne (tgt := 49) dX5_readExpression_44 (by decide) (fun c => ?_) (fun c => ?_)
  · replace hF := ite_f hF c
    refine rz_aload_n dX5_readExpression_49 rfl (show _ = some (some (vo x0)) from rfl) ?_
    refine rz_iload_n dX5_readExpression_50 rfl (show _ = some (some (vi x2)) from rfl) ?_
    refine rz_bipush (v := 60) dX5_readExpression_51 (by decide) (by decide) ?_
    refine rz_icmp_ne (tgt := 61) dX5_readExpression_53 (by decide) (fun c => ?_) (fun c => ?_)
    · replace hF := ite_f hF c
      refine rz_bipush (v := 17) dX5_readExpression_61 (by decide) (by decide) ?_
      refine rz_iconst dX5_readExpression_63 rfl (by decide) ?_
      replace hF := rcv_e hF
      obtain ⟨fs, hg, hF⟩ := hF
      refine rz_callV (mc' := 0) (ms' := 0) (mc := 0) (ms := 0) (st := []) dX5_readExpression_64 cV_X5_84 rfl hg ⟨_, _, rfl⟩ rfl (Nat.le_of_ble_eq_true rfl) hF (fun v h5 hG => ?_)
      clear hF
      revert hG
      intro hF
      replace hF := atV_e hF
      obtain ⟨rfl, hF⟩ := hF
      refine rz_iconst dX5_readExpression_67 rfl (by decide) ?_
      exact rz_iret dX5_readExpression_68 (Or.inr rfl) hF
    · replace hF := ite_t hF c
      refine rz_bipush (v := 16) dX5_readExpression_56 (by decide) (by decide) ?_
      refine rz_goto (tgt := 63) dX5_readExpression_58 (by decide) ?_
      refine rz_iconst dX5_readExpression_63 rfl (by decide) ?_
      replace hF := rcv_e hF
      obtain ⟨fs, hg, hF⟩ := hF
      refine rz_callV (mc' := 0) (ms' := 0) (mc := 0) (ms := 0) (st := []) dX5_readExpression_64 cV_X5_84 rfl hg ⟨_, _, rfl⟩ rfl (Nat.le_of_ble_eq_true rfl) hF (fun v h6 hG => ?_)
      clear hF
      revert hG
      intro hF
      replace hF := atV_e hF
      obtain ⟨rfl, hF⟩ := hF
      refine rz_iconst dX5_readExpression_67 rfl (by decide) ?_
      exact rz_iret dX5_readExpression_68 (Or.inr rfl) hF
  · replace hF := ite_t hF c
    refine rz_iconst dX5_readExpression_47 rfl (by decide) ?_
    exact rz_iret dX5_readExpression_48 (Or.inl rfl) hF
theorem vX5_readExpression {G : az_G} {d : Nat} {x0 : Nat} {x1 : Int} {h : az_H} {Q : Option az_V → az_H → Prop} (hF : rcv h x0 5 (cz G mX5_readSum d 0 0 [vo x0, vi x1] h (fun v h1 => atI v (fun r2 => (if r2 = 0 then Q (some (vi 0)) h1 else rdO h1 x0 5 0 (fun o3 => rcv h1 o3 8 (cz G mX8_token d 0 0 [vo o3] h1 (fun v h4 => atI v (fun r5 => (if r5 = 60 then pX5_readExpression_32 G d x0 x1 r5 h4 Q else (if r5 = 61 then pX5_readExpression_32 G d x0 x1 r5 h4 Q else Q (some (vi 1)) h4))))))))))) : cz G mX5_readExpression (d + 1) 0 0 [vo x0, vi x1] h Q := by
  refine cz_of (ls := [some (vo x0), some (vi x1), none]) (by decide +kernel) (Nat.le_of_ble_eq_true rfl) rfl ?_
  refine rz_aload_n dX5_readExpression_0 rfl (show _ = some (some (vo x0)) from rfl) ?_
  refine rz_iload_n dX5_readExpression_1 rfl (show _ = some (some (vi x1)) from rfl) ?_
  replace hF := rcv_e hF
  obtain ⟨fs, hg, hF⟩ := hF
  refine rz_callV (mc' := 0) (ms' := 0) (mc := 0) (ms := 0) (st := []) dX5_readExpression_2 cV_X5_91 rfl hg ⟨_, _, rfl⟩ rfl (Nat.le_of_ble_eq_true rfl) hF (fun v h1 hG => ?_)
  clear hF
  revert hG
  intro hF
  replace hF := atI_e hF
  obtain ⟨r2, rfl, hF⟩ := hF
  refine rz_if_ne (tgt := 10) dX5_readExpression_5 (by decide) (fun c => ?_) (fun c => ?_)
  · replace hF := ite_f hF c
    refine rz_aload_n dX5_readExpression_10 rfl (show _ = some (some (vo x0)) from rfl) ?_
    replace hF := rdO_e hF
    obtain ⟨fs, o3, hg, hv, hF⟩ := hF
    refine rz_getf dX5_readExpression_11 fl_X5_20 hg hv ?_
    replace hF := rcv_e hF
    obtain ⟨fs, hg, hF⟩ := hF
    refine rz_callV (mc' := 0) (ms' := 0) (mc := 0) (ms := 0) (st := []) dX5_readExpression_14 cV_X5_32 rfl hg ⟨_, _, rfl⟩ rfl (Nat.le_of_ble_eq_true rfl) hF (fun v h4 hG => ?_)
    clear hF
    revert hG
    intro hF
    replace hF := atI_e hF
    obtain ⟨r5, rfl, hF⟩ := hF
    refine rz_istore_n (ls' := [some (vo x0), some (vi x1), some (vi r5)]) dX5_readExpression_17 rfl (Nat.le_of_ble_eq_true rfl) rfl ?_
    refine rz_iload_n dX5_readExpression_18 rfl (show _ = some (some (vi r5)) from rfl) ?_
    refine rz_bipush (v := 60) dX5_readExpression_19 (by decide) (by decide) ?_
    refine rz_icmp_eq (tgt := 32) dX5_readExpression_21 (by decide) (fun c => ?_) (fun c => ?_)
    · replace hF := ite_t hF c
      exact hF
    · replace hF := ite_f hF c
      refine rz_iload_n dX5_readExpression_24 rfl (show _ = some (some (vi r5)) from rfl) ?_
      refine rz_bipush (v := 61) dX5_readExpression_25 (by decide) (by decide) ?_
      refine rz_icmp_eq (tgt := 32) dX5_readExpression_27 (by decide) (fun c => ?_) (fun c => ?_)
      · replace hF := ite_t hF c
        exact hF
      · replace hF := ite_f hF c
        refine rz_iconst dX5_readExpression_30 rfl (by decide) ?_
        exact rz_iret dX5_readExpression_31 (Or.inr rfl) hF
  · replace hF := ite_t hF c
    refine rz_iconst dX5_readExpression_8 rfl (by decide) ?_
    exact rz_iret dX5_readExpression_9 (Or.inl rfl) hF
theorem vX5_addLeaves {G : az_G} {d : Nat} {x0 : Nat} {h : az_H} {Q : Option az_V → az_H → Prop} (hF : rdI h x0 5 5 (fun f1 => rcv h x0 5 (cz G mX5_add d 0 0 [vo x0, vi 18, vi f1] h (fun v h2 => atV v (rdI h2 x0 5 5 (fun f3 => wrF h2 x0 5 5 (.int) (vi (w32 (f3 + 2))) (fun h4 => Q none h4))))))) : cz G mX5_addLeaves (d + 1) 0 0 [vo x0] h Q := by
  refine cz_of (ls := [some (vo x0)]) (by decide +kernel) (Nat.le_of_ble_eq_true rfl) rfl ?_
  refine rz_aload_n dX5_addLeaves_0 rfl (show _ = some (some (vo x0)) from rfl) ?_
  refine rz_bipush (v := 18) dX5_addLeaves_1 (by decide) (by decide) ?_
  refine rz_aload_n dX5_addLeaves_3 rfl (show _ = some (some (vo x0)) from rfl) ?_
  replace hF := rdI_e hF
  obtain ⟨fs, f1, hg, hv, hF⟩ := hF
  refine rz_getf dX5_addLeaves_4 fl_X5_54 hg hv ?_
  replace hF := rcv_e hF
  obtain ⟨fs, hg, hF⟩ := hF
  refine rz_callV (mc' := 0) (ms' := 0) (mc := 0) (ms := 0) (st := []) dX5_addLeaves_7 cV_X5_84 rfl hg ⟨_, _, rfl⟩ rfl (Nat.le_of_ble_eq_true rfl) hF (fun v h2 hG => ?_)
  clear hF
  revert hG
  intro hF
  replace hF := atV_e hF
  obtain ⟨rfl, hF⟩ := hF
  refine rz_aload_n dX5_addLeaves_10 rfl (show _ = some (some (vo x0)) from rfl) ?_
  refine rz_dup dX5_addLeaves_11 (by rintro ⟨_, q⟩; cases q) ?_
  replace hF := rdI_e hF
  obtain ⟨fs, f3, hg, hv, hF⟩ := hF
  refine rz_getf dX5_addLeaves_12 fl_X5_54 hg hv ?_
  refine rz_iconst dX5_addLeaves_15 rfl (by decide) ?_
  refine rz_iadd dX5_addLeaves_16 ?_
  replace hF := wrF_e hF
  obtain ⟨fs, hg, hv, hF⟩ := hF
  refine rz_putf dX5_addLeaves_17 fl_X5_54 (Or.inl rfl) hg hv ?_
  exact rz_vret dX5_addLeaves_20 trivial hF
theorem vX5_readIf {G : az_G} {d : Nat} {x0 : Nat} {x1 : Int} {h : az_H} {Q : Option az_V → az_H → Prop} (hF : rcv h x0 5 (cz G mX5_readExpression d 0 0 [vo x0, vi 0] h (fun v h1 => atI v (fun r2 => (if r2 = 0 then Q (some (vi 0)) h1 else rcv h1 x0 5 (cz G mX5_pass d 0 0 [vo x0, vi 123] h1 (fun v h3 => atI v (fun r4 => (if r4 = 0 then Q (some (vi 0)) h3 else rcv h3 x0 5 (cz G mX5_addLeaves d 0 0 [vo x0] h3 (fun v h5 => atV v (rdI h5 x0 5 3 (fun f6 => rcv h5 x0 5 (cz G mX5_add d 0 0 [vo x0, vi 20, vi 0] h5 (fun v h7 => atV v (rcv h7 x0 5 (cz G mX5_readStatements d 0 0 [vo x0, vi (w32 (x1 + 1))] h7 (fun v h8 => atI v (fun r9 => (if r9 = 0 then Q (some (vi 0)) h8 else rcv h8 x0 5 (cz G mX5_pass d 0 0 [vo x0, vi 125] h8 (fun v h10 => atI v (fun r11 => (if r11 = 0 then Q (some (vi 0)) h10 else rdO h10 x0 5 2 (fun o12 => aln h10 o12 (fun n13 => (if n13 ≤ f6 then Q (some (vi 1)) h10 else rdO h10 x0 5 2 (fun o14 => rdI h10 x0 5 3 (fun f15 => stI h10 o14 .int f6 f15 (fun h16 => Q (some (vi 1)) h16)))))))))))))))))))))))))))))) : cz G mX5_readIf (d + 1) 0 0 [vo x0, vi x1] h Q := by
  refine cz_of (ls := [some (vo x0), some (vi x1), none]) (by decide +kernel) (Nat.le_of_ble_eq_true rfl) rfl ?_
  refine rz_aload_n dX5_readIf_0 rfl (show _ = some (some (vo x0)) from rfl) ?_
  refine rz_iconst dX5_readIf_1 rfl (by decide) ?_
  replace hF := rcv_e hF
  obtain ⟨fs, hg, hF⟩ := hF
  refine rz_callV (mc' := 0) (ms' := 0) (mc := 0) (ms := 0) (st := []) dX5_readIf_2 cV_X5_40 rfl hg ⟨_, _, rfl⟩ rfl (Nat.le_of_ble_eq_true rfl) hF (fun v h1 hG => ?_)
  clear hF
  revert hG
  intro hF
  replace hF := atI_e hF
  obtain ⟨r2, rfl, hF⟩ := hF
  refine rz_if_eq (tgt := 17) dX5_readIf_5 (by decide) (fun c => ?_) (fun c => ?_)
  · replace hF := ite_t hF c
    refine rz_iconst dX5_readIf_17 rfl (by decide) ?_
    exact rz_iret dX5_readIf_18 (Or.inl rfl) hF
  · replace hF := ite_f hF c
    refine rz_aload_n dX5_readIf_8 rfl (show _ = some (some (vo x0)) from rfl) ?_
    refine rz_bipush (v := 123) dX5_readIf_9 (by decide) (by decide) ?_
    replace hF := rcv_e hF
    obtain ⟨fs, hg, hF⟩ := hF
    refine rz_callV (mc' := 0) (ms' := 0) (mc := 0) (ms := 0) (st := []) dX5_readIf_11 cV_X5_78 rfl hg ⟨_, _, rfl⟩ rfl (Nat.le_of_ble_eq_true rfl) hF (fun v h3 hG => ?_)
    clear hF
    revert hG
    intro hF
    replace hF := atI_e hF
    obtain ⟨r4, rfl, hF⟩ := hF
    refine rz_if_ne (tgt := 19) dX5_readIf_14 (by decide) (fun c => ?_) (fun c => ?_)
    · replace hF := ite_f hF c
      refine rz_aload_n dX5_readIf_19 rfl (show _ = some (some (vo x0)) from rfl) ?_
      replace hF := rcv_e hF
      obtain ⟨fs, hg, hF⟩ := hF
      refine rz_callV (mc' := 0) (ms' := 0) (mc := 0) (ms := 0) (st := []) dX5_readIf_20 cV_X5_88 rfl hg ⟨_, _, rfl⟩ rfl (Nat.le_of_ble_eq_true rfl) hF (fun v h5 hG => ?_)
      clear hF
      revert hG
      intro hF
      replace hF := atV_e hF
      obtain ⟨rfl, hF⟩ := hF
      refine rz_aload_n dX5_readIf_23 rfl (show _ = some (some (vo x0)) from rfl) ?_
      replace hF := rdI_e hF
      obtain ⟨fs, f6, hg, hv, hF⟩ := hF
      refine rz_getf dX5_readIf_24 fl_X5_47 hg hv ?_
      refine rz_istore_n (ls' := [some (vo x0), some (vi x1), some (vi f6)]) dX5_readIf_27 rfl (Nat.le_of_ble_eq_true rfl) rfl ?_
      refine rz_aload_n dX5_readIf_28 rfl (show _ = some (some (vo x0)) from rfl) ?_
      refine rz_bipush (v := 20) dX5_readIf_29 (by decide) (by decide) ?_
      refine rz_iconst dX5_readIf_31 rfl (by decide) ?_
      replace hF := rcv_e hF
      obtain ⟨fs, hg, hF⟩ := hF
      refine rz_callV (mc' := 0) (ms' := 0) (mc := 0) (ms := 0) (st := []) dX5_readIf_32 cV_X5_84 rfl hg ⟨_, _, rfl⟩ rfl (Nat.le_of_ble_eq_true rfl) hF (fun v h7 hG => ?_)
      clear hF
      revert hG
      intro hF
      replace hF := atV_e hF
      obtain ⟨rfl, hF⟩ := hF
      refine rz_aload_n dX5_readIf_35 rfl (show _ = some (some (vo x0)) from rfl) ?_
      refine rz_iload_n dX5_readIf_36 rfl (show _ = some (some (vi x1)) from rfl) ?_
      refine rz_iconst dX5_readIf_37 rfl (by decide) ?_
      refine rz_iadd dX5_readIf_38 ?_
      replace hF := rcv_e hF
      obtain ⟨fs, hg, hF⟩ := hF
      refine rz_callV (mc' := 0) (ms' := 0) (mc := 0) (ms := 0) (st := []) dX5_readIf_39 cV_X5_28 rfl hg ⟨_, _, rfl⟩ rfl (Nat.le_of_ble_eq_true rfl) hF (fun v h8 hG => ?_)
      clear hF
      revert hG
      intro hF
      replace hF := atI_e hF
      obtain ⟨r9, rfl, hF⟩ := hF
      refine rz_if_eq (tgt := 54) dX5_readIf_42 (by decide) (fun c => ?_) (fun c => ?_)
      · replace hF := ite_t hF c
        refine rz_iconst dX5_readIf_54 rfl (by decide) ?_
        exact rz_iret dX5_readIf_55 (Or.inl rfl) hF
      · replace hF := ite_f hF c
        refine rz_aload_n dX5_readIf_45 rfl (show _ = some (some (vo x0)) from rfl) ?_
        refine rz_bipush (v := 125) dX5_readIf_46 (by decide) (by decide) ?_
        replace hF := rcv_e hF
        obtain ⟨fs, hg, hF⟩ := hF
        refine rz_callV (mc' := 0) (ms' := 0) (mc := 0) (ms := 0) (st := []) dX5_readIf_48 cV_X5_78 rfl hg ⟨_, _, rfl⟩ rfl (Nat.le_of_ble_eq_true rfl) hF (fun v h10 hG => ?_)
        clear hF
        revert hG
        intro hF
        replace hF := atI_e hF
        obtain ⟨r11, rfl, hF⟩ := hF
        refine rz_if_ne (tgt := 56) dX5_readIf_51 (by decide) (fun c => ?_) (fun c => ?_)
        · replace hF := ite_f hF c
          refine rz_iload_n dX5_readIf_56 rfl (show _ = some (some (vi f6)) from rfl) ?_
          refine rz_aload_n dX5_readIf_57 rfl (show _ = some (some (vo x0)) from rfl) ?_
          replace hF := rdO_e hF
          obtain ⟨fs, o12, hg, hv, hF⟩ := hF
          refine rz_getf dX5_readIf_58 fl_X5_17 hg hv ?_
          replace hF := aln_e hF
          obtain ⟨n13, hg, hr, hF⟩ := hF
          refine rz_alen dX5_readIf_61 hg hr ?_
          refine rz_icmp_ge (tgt := 75) dX5_readIf_62 (by decide) (fun c => ?_) (fun c => ?_)
          · replace hF := ite_t hF c
            refine rz_iconst dX5_readIf_75 rfl (by decide) ?_
            exact rz_iret dX5_readIf_76 (Or.inr rfl) hF
          · replace hF := ite_f hF c
            refine rz_aload_n dX5_readIf_65 rfl (show _ = some (some (vo x0)) from rfl) ?_
            replace hF := rdO_e hF
            obtain ⟨fs, o14, hg, hv, hF⟩ := hF
            refine rz_getf dX5_readIf_66 fl_X5_17 hg hv ?_
            refine rz_iload_n dX5_readIf_69 rfl (show _ = some (some (vi f6)) from rfl) ?_
            refine rz_aload_n dX5_readIf_70 rfl (show _ = some (some (vo x0)) from rfl) ?_
            replace hF := rdI_e hF
            obtain ⟨fs, f15, hg, hv, hF⟩ := hF
            refine rz_getf dX5_readIf_71 fl_X5_47 hg hv ?_
            replace hF := stI_e hF
            obtain ⟨xs, hg, h0, h1, hF⟩ := hF
            refine rz_iast dX5_readIf_74 hg h0 h1 ?_
            refine rz_iconst dX5_readIf_75 rfl (by decide) ?_
            exact rz_iret dX5_readIf_76 (Or.inr rfl) hF
        · replace hF := ite_t hF c
          refine rz_iconst dX5_readIf_54 rfl (by decide) ?_
          exact rz_iret dX5_readIf_55 (Or.inl rfl) hF
    · replace hF := ite_t hF c
      refine rz_iconst dX5_readIf_17 rfl (by decide) ?_
      exact rz_iret dX5_readIf_18 (Or.inl rfl) hF
def pX5_readStatement_36 (G : az_G) (d : Nat) (x0 : Nat) (x1 : Int) (x2 : Int) (x3 : Int) (s0 : Int) (h : az_H) (Q : Option az_V → az_H → Prop) : Prop := ez G mX5_readStatement (d + 1) 0 0 36 [some (vo x0), some (vi x1), some (vi x2), some (vi x3), none] [vi s0] h Q
def pX5_readStatement_68 (G : az_G) (d : Nat) (x0 : Nat) (x1 : Int) (x2 : Int) (x3 : Int) (x4 : Int) (h : az_H) (Q : Option az_V → az_H → Prop) : Prop := ez G mX5_readStatement (d + 1) 0 0 68 [some (vo x0), some (vi x1), some (vi x2), some (vi x3), some (vi x4)] [] h Q
def pX5_readStatement_111 (G : az_G) (d : Nat) (x0 : Nat) (x2 : Int) (x3 : Int) (h : az_H) (Q : Option az_V → az_H → Prop) : Prop := ez G mX5_readStatement (d + 1) 0 0 111 [some (vo x0), none, some (vi x2), some (vi x3), none] [] h Q
theorem vX5_readStatement_111 {G : az_G} {d : Nat} {x0 : Nat} {x2 : Int} {x3 : Int} {h : az_H} {Q : Option az_V → az_H → Prop} (hF : rcv h x0 5 (cz G mX5_readExpression d 0 0 [vo x0, vi 0] h (fun v h1 => atI v (fun r2 => (if r2 = 0 then Q (some (vi 0)) h1 else rcv h1 x0 5 (cz G mX5_pass d 0 0 [vo x0, vi 59] h1 (fun v h3 => atI v (fun r4 => (if r4 = 0 then Q (some (vi 0)) h3 else (if x3 = 0 then (if x2 = 2 then rcv h3 x0 5 (cz G mX5_addLeaves d 0 0 [vo x0] h3 (fun v h6 => atV v (rcv h6 x0 5 (cz G mX5_add d 0 0 [vo x0, vi 19, vi 0] h6 (fun v h7 => atV v (Q (some (vi 1)) h7)))))) else rcv h3 x0 5 (cz G mX5_add d 0 0 [vo x0, vi 23, vi 0] h3 (fun v h5 => atV v (Q (some (vi 1)) h5)))) else cz G mX5_isOwn d 0 0 [vi x2] h3 (fun v h8 => atI v (fun r9 => (if r9 = 0 then cz G mX5_cellOf d 0 0 [vi x2] h8 (fun v h10 => atI v (fun r11 => rcv h10 x0 5 (cz G mX5_add d 0 0 [vo x0, vi 21, vi r11] h10 (fun v h12 => atV v (Q (some (vi 1)) h12))))) else cz G mX5_cellOf d 0 0 [vi x2] h8 (fun v h13 => atI v (fun r14 => rcv h13 x0 5 (cz G mX5_add d 0 0 [vo x0, vi 22, vi r14] h13 (fun v h15 => atV v (Q (some (vi 1)) h15)))))))))))))))))) : pX5_readStatement_111 G d x0 x2 x3 h Q := by
  unfold pX5_readStatement_111
  refine rz_aload_n dX5_readStatement_111 rfl (show _ = some (some (vo x0)) from rfl) ?_
  refine rz_iconst dX5_readStatement_112 rfl (by decide) ?_
  replace hF := rcv_e hF
  obtain ⟨fs, hg, hF⟩ := hF
  refine rz_callV (mc' := 0) (ms' := 0) (mc := 0) (ms := 0) (st := []) dX5_readStatement_113 cV_X5_40 rfl hg ⟨_, _, rfl⟩ rfl (Nat.le_of_ble_eq_true rfl) hF (fun v h1 hG => ?_)
  clear hF
  revert hG
  intro hF
  replace hF := atI_e hF
  obtain ⟨r2, rfl, hF⟩ := hF
  refine rz_if_eq (tgt := 128) dX5_readStatement_116 (by decide) (fun c => ?_) (fun c => ?_)
  · replace hF := ite_t hF c
    refine rz_iconst dX5_readStatement_128 rfl (by decide) ?_
    exact rz_iret dX5_readStatement_129 (Or.inl rfl) hF
  · replace hF := ite_f hF c
    refine rz_aload_n dX5_readStatement_119 rfl (show _ = some (some (vo x0)) from rfl) ?_
    refine rz_bipush (v := 59) dX5_readStatement_120 (by decide) (by decide) ?_
    replace hF := rcv_e hF
    obtain ⟨fs, hg, hF⟩ := hF
    refine rz_callV (mc' := 0) (ms' := 0) (mc := 0) (ms := 0) (st := []) dX5_readStatement_122 cV_X5_78 rfl hg ⟨_, _, rfl⟩ rfl (Nat.le_of_ble_eq_true rfl) hF (fun v h3 hG => ?_)
    clear hF
    revert hG
    intro hF
    replace hF := atI_e hF
    obtain ⟨r4, rfl, hF⟩ := hF
    refine rz_if_ne (tgt := 130) dX5_readStatement_125 (by decide) (fun c => ?_) (fun c => ?_)
    · replace hF := ite_f hF c
      refine rz_iload_n dX5_readStatement_130 rfl (show _ = some (some (vi x3)) from rfl) ?_
      refine rz_if_eq (tgt := 159) dX5_readStatement_131 (by decide) (fun c => ?_) (fun c => ?_)
      · replace hF := ite_t hF c
        refine rz_iload_n dX5_readStatement_159 rfl (show _ = some (some (vi x2)) from rfl) ?_
        refine rz_iconst dX5_readStatement_160 rfl (by decide) ?_
        refine rz_icmp_ne (tgt := 178) dX5_readStatement_161 (by decide) (fun c => ?_) (fun c => ?_)
        · replace hF := ite_f hF c
          refine rz_aload_n dX5_readStatement_178 rfl (show _ = some (some (vo x0)) from rfl) ?_
          refine rz_bipush (v := 23) dX5_readStatement_179 (by decide) (by decide) ?_
          refine rz_iconst dX5_readStatement_181 rfl (by decide) ?_
          replace hF := rcv_e hF
          obtain ⟨fs, hg, hF⟩ := hF
          refine rz_callV (mc' := 0) (ms' := 0) (mc := 0) (ms := 0) (st := []) dX5_readStatement_182 cV_X5_84 rfl hg ⟨_, _, rfl⟩ rfl (Nat.le_of_ble_eq_true rfl) hF (fun v h5 hG => ?_)
          clear hF
          revert hG
          intro hF
          replace hF := atV_e hF
          obtain ⟨rfl, hF⟩ := hF
          refine rz_iconst dX5_readStatement_185 rfl (by decide) ?_
          exact rz_iret dX5_readStatement_186 (Or.inr rfl) hF
        · replace hF := ite_t hF c
          refine rz_aload_n dX5_readStatement_164 rfl (show _ = some (some (vo x0)) from rfl) ?_
          replace hF := rcv_e hF
          obtain ⟨fs, hg, hF⟩ := hF
          refine rz_callV (mc' := 0) (ms' := 0) (mc := 0) (ms := 0) (st := []) dX5_readStatement_165 cV_X5_88 rfl hg ⟨_, _, rfl⟩ rfl (Nat.le_of_ble_eq_true rfl) hF (fun v h6 hG => ?_)
          clear hF
          revert hG
          intro hF
          replace hF := atV_e hF
          obtain ⟨rfl, hF⟩ := hF
          refine rz_aload_n dX5_readStatement_168 rfl (show _ = some (some (vo x0)) from rfl) ?_
          refine rz_bipush (v := 19) dX5_readStatement_169 (by decide) (by decide) ?_
          refine rz_iconst dX5_readStatement_171 rfl (by decide) ?_
          replace hF := rcv_e hF
          obtain ⟨fs, hg, hF⟩ := hF
          refine rz_callV (mc' := 0) (ms' := 0) (mc := 0) (ms := 0) (st := []) dX5_readStatement_172 cV_X5_84 rfl hg ⟨_, _, rfl⟩ rfl (Nat.le_of_ble_eq_true rfl) hF (fun v h7 hG => ?_)
          clear hF
          revert hG
          intro hF
          replace hF := atV_e hF
          obtain ⟨rfl, hF⟩ := hF
          refine rz_goto (tgt := 185) dX5_readStatement_175 (by decide) ?_
          refine rz_iconst dX5_readStatement_185 rfl (by decide) ?_
          exact rz_iret dX5_readStatement_186 (Or.inr rfl) hF
      · replace hF := ite_f hF c
        refine rz_aload_n dX5_readStatement_134 rfl (show _ = some (some (vo x0)) from rfl) ?_
        refine rz_iload_n dX5_readStatement_135 rfl (show _ = some (some (vi x2)) from rfl) ?_
        refine rz_callS (mc' := 0) (ms' := 0) (mc := 0) (ms := 0) (st := [vo x0]) dX5_readStatement_136 cS_X5_81 rfl rfl (Nat.le_of_ble_eq_true rfl) hF (fun v h8 hG => ?_)
        clear hF
        revert hG
        intro hF
        replace hF := atI_e hF
        obtain ⟨r9, rfl, hF⟩ := hF
        refine rz_if_eq (tgt := 147) dX5_readStatement_139 (by decide) (fun c => ?_) (fun c => ?_)
        · replace hF := ite_t hF c
          refine rz_bipush (v := 21) dX5_readStatement_147 (by decide) (by decide) ?_
          refine rz_iload_n dX5_readStatement_149 rfl (show _ = some (some (vi x2)) from rfl) ?_
          refine rz_callS (mc' := 0) (ms' := 0) (mc := 0) (ms := 0) (st := [vi 21, vo x0]) dX5_readStatement_150 cS_X5_68 rfl rfl (Nat.le_of_ble_eq_true rfl) hF (fun v h10 hG => ?_)
          clear hF
          revert hG
          intro hF
          replace hF := atI_e hF
          obtain ⟨r11, rfl, hF⟩ := hF
          replace hF := rcv_e hF
          obtain ⟨fs, hg, hF⟩ := hF
          refine rz_callV (mc' := 0) (ms' := 0) (mc := 0) (ms := 0) (st := []) dX5_readStatement_153 cV_X5_84 rfl hg ⟨_, _, rfl⟩ rfl (Nat.le_of_ble_eq_true rfl) hF (fun v h12 hG => ?_)
          clear hF
          revert hG
          intro hF
          replace hF := atV_e hF
          obtain ⟨rfl, hF⟩ := hF
          refine rz_goto (tgt := 185) dX5_readStatement_156 (by decide) ?_
          refine rz_iconst dX5_readStatement_185 rfl (by decide) ?_
          exact rz_iret dX5_readStatement_186 (Or.inr rfl) hF
        · replace hF := ite_f hF c
          refine rz_bipush (v := 22) dX5_readStatement_142 (by decide) (by decide) ?_
          refine rz_goto (tgt := 149) dX5_readStatement_144 (by decide) ?_
          refine rz_iload_n dX5_readStatement_149 rfl (show _ = some (some (vi x2)) from rfl) ?_
          refine rz_callS (mc' := 0) (ms' := 0) (mc := 0) (ms := 0) (st := [vi 22, vo x0]) dX5_readStatement_150 cS_X5_68 rfl rfl (Nat.le_of_ble_eq_true rfl) hF (fun v h13 hG => ?_)
          clear hF
          revert hG
          intro hF
          replace hF := atI_e hF
          obtain ⟨r14, rfl, hF⟩ := hF
          replace hF := rcv_e hF
          obtain ⟨fs, hg, hF⟩ := hF
          refine rz_callV (mc' := 0) (ms' := 0) (mc := 0) (ms := 0) (st := []) dX5_readStatement_153 cV_X5_84 rfl hg ⟨_, _, rfl⟩ rfl (Nat.le_of_ble_eq_true rfl) hF (fun v h15 hG => ?_)
          clear hF
          revert hG
          intro hF
          replace hF := atV_e hF
          obtain ⟨rfl, hF⟩ := hF
          refine rz_goto (tgt := 185) dX5_readStatement_156 (by decide) ?_
          refine rz_iconst dX5_readStatement_185 rfl (by decide) ?_
          exact rz_iret dX5_readStatement_186 (Or.inr rfl) hF
    · replace hF := ite_t hF c
      refine rz_iconst dX5_readStatement_128 rfl (by decide) ?_
      exact rz_iret dX5_readStatement_129 (Or.inl rfl) hF
theorem vX5_readStatement_68 {G : az_G} {d : Nat} {x0 : Nat} {x1 : Int} {x2 : Int} {x3 : Int} {x4 : Int} {h : az_H} {Q : Option az_V → az_H → Prop} (hF : rdI h x0 5 4 (fun f1 => wrF h x0 5 4 (.int) (vi (w32 (f1 + 1))) (fun h2 => rdO h2 x0 5 0 (fun o3 => rcv h2 o3 8 (cz G mX8_next d 0 0 [vo o3] h2 (fun v h4 => atV v ((if x4 = 0 then (if x3 = 0 then pX5_readStatement_111 G d x0 x2 x3 h4 Q else rcv h4 x0 5 (cz G mX5_pass d 0 0 [vo x0, vi 61] h4 (fun v h5 => atI v (fun r6 => (if r6 = 0 then Q (some (vi 0)) h5 else pX5_readStatement_111 G d x0 x2 x3 h5 Q))))) else rcv h4 x0 5 (cz G mX5_readIf d 0 0 [vo x0, vi x1] h4 (fun v h7 => atI v (fun r8 => (az_fit (.boolean) (vi r8) ∧ Q (some (vi r8)) h7)))))))))))) : pX5_readStatement_68 G d x0 x1 x2 x3 x4 h Q := by
  unfold pX5_readStatement_68
  refine rz_aload_n dX5_readStatement_68 rfl (show _ = some (some (vo x0)) from rfl) ?_
  refine rz_dup dX5_readStatement_69 (by rintro ⟨_, q⟩; cases q) ?_
  replace hF := rdI_e hF
  obtain ⟨fs, f1, hg, hv, hF⟩ := hF
  refine rz_getf dX5_readStatement_70 fl_X5_51 hg hv ?_
  refine rz_iconst dX5_readStatement_73 rfl (by decide) ?_
  refine rz_iadd dX5_readStatement_74 ?_
  replace hF := wrF_e hF
  obtain ⟨fs, hg, hv, hF⟩ := hF
  refine rz_putf dX5_readStatement_75 fl_X5_51 (Or.inl rfl) hg hv ?_
  refine rz_aload_n dX5_readStatement_78 rfl (show _ = some (some (vo x0)) from rfl) ?_
  replace hF := rdO_e hF
  obtain ⟨fs, o3, hg, hv, hF⟩ := hF
  refine rz_getf dX5_readStatement_79 fl_X5_20 hg hv ?_
  replace hF := rcv_e hF
  obtain ⟨fs, hg, hF⟩ := hF
  refine rz_callV (mc' := 0) (ms' := 0) (mc := 0) (ms := 0) (st := []) dX5_readStatement_82 cV_X5_72 rfl hg ⟨_, _, rfl⟩ rfl (Nat.le_of_ble_eq_true rfl) hF (fun v h4 hG => ?_)
  clear hF
  revert hG
  intro hF
  replace hF := atV_e hF
  obtain ⟨rfl, hF⟩ := hF
  refine rz_iload dX5_readStatement_85 (show _ = some (some (vi x4)) from rfl) ?_
  refine rz_if_eq (tgt := 96) dX5_readStatement_87 (by decide) (fun c => ?_) (fun c => ?_)
  · replace hF := ite_t hF c
    refine rz_iload_n dX5_readStatement_96 rfl (show _ = some (some (vi x3)) from rfl) ?_
    refine rz_if_eq (tgt := 111) dX5_readStatement_97 (by decide) (fun c => ?_) (fun c => ?_)
    · replace hF := ite_t hF c
      refine ez_kp [true, false, true, true, false] rfl ?_
      exact hF
    · replace hF := ite_f hF c
      refine rz_aload_n dX5_readStatement_100 rfl (show _ = some (some (vo x0)) from rfl) ?_
      refine rz_bipush (v := 61) dX5_readStatement_101 (by decide) (by decide) ?_
      replace hF := rcv_e hF
      obtain ⟨fs, hg, hF⟩ := hF
      refine rz_callV (mc' := 0) (ms' := 0) (mc := 0) (ms := 0) (st := []) dX5_readStatement_103 cV_X5_78 rfl hg ⟨_, _, rfl⟩ rfl (Nat.le_of_ble_eq_true rfl) hF (fun v h5 hG => ?_)
      clear hF
      revert hG
      intro hF
      replace hF := atI_e hF
      obtain ⟨r6, rfl, hF⟩ := hF
      refine rz_if_ne (tgt := 111) dX5_readStatement_106 (by decide) (fun c => ?_) (fun c => ?_)
      · replace hF := ite_f hF c
        refine ez_kp [true, false, true, true, false] rfl ?_
        exact hF
      · replace hF := ite_t hF c
        refine rz_iconst dX5_readStatement_109 rfl (by decide) ?_
        exact rz_iret dX5_readStatement_110 (Or.inl rfl) hF
  · replace hF := ite_f hF c
    refine rz_aload_n dX5_readStatement_90 rfl (show _ = some (some (vo x0)) from rfl) ?_
    refine rz_iload_n dX5_readStatement_91 rfl (show _ = some (some (vi x1)) from rfl) ?_
    replace hF := rcv_e hF
    obtain ⟨fs, hg, hF⟩ := hF
    refine rz_callV (mc' := 0) (ms' := 0) (mc := 0) (ms := 0) (st := []) dX5_readStatement_92 cV_X5_75 rfl hg ⟨_, _, rfl⟩ rfl (Nat.le_of_ble_eq_true rfl) hF (fun v h7 hG => ?_)
    clear hF
    revert hG
    intro hF
    replace hF := atI_e hF
    obtain ⟨r8, rfl, hF⟩ := hF
    exact rz_iret dX5_readStatement_95 hF.1 hF.2
theorem vX5_readStatement_36 {G : az_G} {d : Nat} {x0 : Nat} {x1 : Int} {x2 : Int} {x3 : Int} {s0 : Int} {h : az_H} {Q : Option az_V → az_H → Prop} (hF : rdI h x0 5 4 (fun f1 => (if 12 ≤ f1 then Q (some (vi 0)) h else (if x3 = 0 then (if s0 = 0 then (if x2 = 2 then pX5_readStatement_68 G d x0 x1 x2 x3 s0 h Q else (if x2 = 4 then pX5_readStatement_68 G d x0 x1 x2 x3 s0 h Q else Q (some (vi 0)) h)) else pX5_readStatement_68 G d x0 x1 x2 x3 s0 h Q) else pX5_readStatement_68 G d x0 x1 x2 x3 s0 h Q)))) : pX5_readStatement_36 G d x0 x1 x2 x3 s0 h Q := by
  unfold pX5_readStatement_36
  refine rz_istore (ls' := [some (vo x0), some (vi x1), some (vi x2), some (vi x3), some (vi s0)]) dX5_readStatement_36 (Nat.le_of_ble_eq_true rfl) rfl ?_
  refine rz_aload_n dX5_readStatement_38 rfl (show _ = some (some (vo x0)) from rfl) ?_
  replace hF := rdI_e hF
  obtain ⟨fs, f1, hg, hv, hF⟩ := hF
  refine rz_getf dX5_readStatement_39 fl_X5_51 hg hv ?_
  refine rz_bipush (v := 12) dX5_readStatement_42 (by decide) (by decide) ?_
  refine rz_icmp_ge (tgt := 66) dX5_readStatement_44 (by decide) (fun c => ?_) (fun c => ?_)
  · replace hF := ite_t hF c
    refine rz_iconst dX5_readStatement_66 rfl (by decide) ?_
    exact rz_iret dX5_readStatement_67 (Or.inl rfl) hF
  · replace hF := ite_f hF c
    refine rz_iload_n dX5_readStatement_47 rfl (show _ = some (some (vi x3)) from rfl) ?_
    refine rz_if_ne (tgt := 68) dX5_readStatement_48 (by decide) (fun c => ?_) (fun c => ?_)
    · replace hF := ite_f hF c
      exact hF
    · replace hF := ite_t hF c
      refine rz_iload dX5_readStatement_51 (show _ = some (some (vi s0)) from rfl) ?_
      refine rz_if_ne (tgt := 68) dX5_readStatement_53 (by decide) (fun c => ?_) (fun c => ?_)
      · replace hF := ite_f hF c
        exact hF
      · replace hF := ite_t hF c
        refine rz_iload_n dX5_readStatement_56 rfl (show _ = some (some (vi x2)) from rfl) ?_
        refine rz_iconst dX5_readStatement_57 rfl (by decide) ?_
        refine rz_icmp_eq (tgt := 68) dX5_readStatement_58 (by decide) (fun c => ?_) (fun c => ?_)
        · replace hF := ite_t hF c
          exact hF
        · replace hF := ite_f hF c
          refine rz_iload_n dX5_readStatement_61 rfl (show _ = some (some (vi x2)) from rfl) ?_
          refine rz_iconst dX5_readStatement_62 rfl (by decide) ?_
          refine rz_icmp_eq (tgt := 68) dX5_readStatement_63 (by decide) (fun c => ?_) (fun c => ?_)
          · replace hF := ite_t hF c
            exact hF
          · replace hF := ite_f hF c
            refine rz_iconst dX5_readStatement_66 rfl (by decide) ?_
            exact rz_iret dX5_readStatement_67 (Or.inl rfl) hF
theorem vX5_readStatement {G : az_G} {d : Nat} {x0 : Nat} {x1 : Int} {h : az_H} {Q : Option az_V → az_H → Prop} (hF : rdO h x0 5 0 (fun o1 => rcv h o1 8 (cz G mX8_token d 0 0 [vo o1] h (fun v h2 => atI v (fun r3 => cz G mX5_cellOf d 0 0 [vi r3] h2 (fun v h4 => atI v (fun r5 => (if r5 < 0 then (if r3 = 3 then (if 4 ≤ x1 then pX5_readStatement_36 G d x0 x1 r3 0 0 h4 Q else pX5_readStatement_36 G d x0 x1 r3 0 1 h4 Q) else pX5_readStatement_36 G d x0 x1 r3 0 0 h4 Q) else (if r3 = 3 then (if 4 ≤ x1 then pX5_readStatement_36 G d x0 x1 r3 1 0 h4 Q else pX5_readStatement_36 G d x0 x1 r3 1 1 h4 Q) else pX5_readStatement_36 G d x0 x1 r3 1 0 h4 Q))))))))) : cz G mX5_readStatement (d + 1) 0 0 [vo x0, vi x1] h Q := by
  refine cz_of (ls := [some (vo x0), some (vi x1), none, none, none]) (by decide +kernel) (Nat.le_of_ble_eq_true rfl) rfl ?_
  refine rz_aload_n dX5_readStatement_0 rfl (show _ = some (some (vo x0)) from rfl) ?_
  replace hF := rdO_e hF
  obtain ⟨fs, o1, hg, hv, hF⟩ := hF
  refine rz_getf dX5_readStatement_1 fl_X5_20 hg hv ?_
  replace hF := rcv_e hF
  obtain ⟨fs, hg, hF⟩ := hF
  refine rz_callV (mc' := 0) (ms' := 0) (mc := 0) (ms := 0) (st := []) dX5_readStatement_4 cV_X5_32 rfl hg ⟨_, _, rfl⟩ rfl (Nat.le_of_ble_eq_true rfl) hF (fun v h2 hG => ?_)
  clear hF
  revert hG
  intro hF
  replace hF := atI_e hF
  obtain ⟨r3, rfl, hF⟩ := hF
  refine rz_istore_n (ls' := [some (vo x0), some (vi x1), some (vi r3), none, none]) dX5_readStatement_7 rfl (Nat.le_of_ble_eq_true rfl) rfl ?_
  refine rz_iload_n dX5_readStatement_8 rfl (show _ = some (some (vi r3)) from rfl) ?_
  refine rz_callS (mc' := 0) (ms' := 0) (mc := 0) (ms := 0) (st := []) dX5_readStatement_9 cS_X5_68 rfl rfl (Nat.le_of_ble_eq_true rfl) hF (fun v h4 hG => ?_)
  clear hF
  revert hG
  intro hF
  replace hF := atI_e hF
  obtain ⟨r5, rfl, hF⟩ := hF
  refine rz_if_lt (tgt := 19) dX5_readStatement_12 (by decide) (fun c => ?_) (fun c => ?_)
  · replace hF := ite_t hF c
    refine rz_iconst dX5_readStatement_19 rfl (by decide) ?_
    refine rz_istore_n (ls' := [some (vo x0), some (vi x1), some (vi r3), some (vi 0), none]) dX5_readStatement_20 rfl (Nat.le_of_ble_eq_true rfl) rfl ?_
    refine rz_iload_n dX5_readStatement_21 rfl (show _ = some (some (vi r3)) from rfl) ?_
    refine rz_iconst dX5_readStatement_22 rfl (by decide) ?_
    refine rz_icmp_ne (tgt := 35) dX5_readStatement_23 (by decide) (fun c => ?_) (fun c => ?_)
    · replace hF := ite_f hF c
      refine rz_iconst dX5_readStatement_35 rfl (by decide) ?_
      exact hF
    · replace hF := ite_t hF c
      refine rz_iload_n dX5_readStatement_26 rfl (show _ = some (some (vi x1)) from rfl) ?_
      refine rz_iconst dX5_readStatement_27 rfl (by decide) ?_
      refine rz_icmp_ge (tgt := 35) dX5_readStatement_28 (by decide) (fun c => ?_) (fun c => ?_)
      · replace hF := ite_t hF c
        refine rz_iconst dX5_readStatement_35 rfl (by decide) ?_
        exact hF
      · replace hF := ite_f hF c
        refine rz_iconst dX5_readStatement_31 rfl (by decide) ?_
        refine rz_goto (tgt := 36) dX5_readStatement_32 (by decide) ?_
        exact hF
  · replace hF := ite_f hF c
    refine rz_iconst dX5_readStatement_15 rfl (by decide) ?_
    refine rz_goto (tgt := 20) dX5_readStatement_16 (by decide) ?_
    refine rz_istore_n (ls' := [some (vo x0), some (vi x1), some (vi r3), some (vi 1), none]) dX5_readStatement_20 rfl (Nat.le_of_ble_eq_true rfl) rfl ?_
    refine rz_iload_n dX5_readStatement_21 rfl (show _ = some (some (vi r3)) from rfl) ?_
    refine rz_iconst dX5_readStatement_22 rfl (by decide) ?_
    refine rz_icmp_ne (tgt := 35) dX5_readStatement_23 (by decide) (fun c => ?_) (fun c => ?_)
    · replace hF := ite_f hF c
      refine rz_iconst dX5_readStatement_35 rfl (by decide) ?_
      exact hF
    · replace hF := ite_t hF c
      refine rz_iload_n dX5_readStatement_26 rfl (show _ = some (some (vi x1)) from rfl) ?_
      refine rz_iconst dX5_readStatement_27 rfl (by decide) ?_
      refine rz_icmp_ge (tgt := 35) dX5_readStatement_28 (by decide) (fun c => ?_) (fun c => ?_)
      · replace hF := ite_t hF c
        refine rz_iconst dX5_readStatement_35 rfl (by decide) ?_
        exact hF
      · replace hF := ite_f hF c
        refine rz_iconst dX5_readStatement_31 rfl (by decide) ?_
        refine rz_goto (tgt := 36) dX5_readStatement_32 (by decide) ?_
        exact hF
def pX5_readStatements_2 (G : az_G) (d : Nat) (x0 : Nat) (x1 : Int) (x2 : Int) (h : az_H) (Q : Option az_V → az_H → Prop) : Prop := ez G mX5_readStatements (d + 1) 0 0 2 [some (vo x0), some (vi x1), some (vi x2)] [] h Q
theorem vX5_readStatements_2 {G : az_G} {d : Nat} {x0 : Nat} {x1 : Int} {x2 : Int} {h : az_H} {Q : Option az_V → az_H → Prop} (hF : (if 12 < x2 then Q (some (vi 0)) h else rdO h x0 5 0 (fun o1 => rcv h o1 8 (cz G mX8_token d 0 0 [vo o1] h (fun v h2 => atI v (fun r3 => (if r3 = 0 then Q (some (vi 1)) h2 else rdO h2 x0 5 0 (fun o4 => rcv h2 o4 8 (cz G mX8_token d 0 0 [vo o4] h2 (fun v h5 => atI v (fun r6 => (if r6 = 125 then Q (some (vi 1)) h5 else rcv h5 x0 5 (cz G mX5_readStatement d 0 0 [vo x0, vi x1] h5 (fun v h7 => atI v (fun r8 => (if r8 = 0 then Q (some (vi 0)) h7 else pX5_readStatements_2 G d x0 x1 (w32 (x2 + 1)) h7 Q)))))))))))))))) : pX5_readStatements_2 G d x0 x1 x2 h Q := by
  unfold pX5_readStatements_2
  refine rz_iload_n dX5_readStatements_2 rfl (show _ = some (some (vi x2)) from rfl) ?_
  refine rz_bipush (v := 12) dX5_readStatements_3 (by decide) (by decide) ?_
  refine rz_icmp_gt (tgt := 48) dX5_readStatements_5 (by decide) (fun c => ?_) (fun c => ?_)
  · replace hF := ite_t hF c
    refine rz_iconst dX5_readStatements_48 rfl (by decide) ?_
    exact rz_iret dX5_readStatements_49 (Or.inl rfl) hF
  · replace hF := ite_f hF c
    refine rz_aload_n dX5_readStatements_8 rfl (show _ = some (some (vo x0)) from rfl) ?_
    replace hF := rdO_e hF
    obtain ⟨fs, o1, hg, hv, hF⟩ := hF
    refine rz_getf dX5_readStatements_9 fl_X5_20 hg hv ?_
    replace hF := rcv_e hF
    obtain ⟨fs, hg, hF⟩ := hF
    refine rz_callV (mc' := 0) (ms' := 0) (mc := 0) (ms := 0) (st := []) dX5_readStatements_12 cV_X5_32 rfl hg ⟨_, _, rfl⟩ rfl (Nat.le_of_ble_eq_true rfl) hF (fun v h2 hG => ?_)
    clear hF
    revert hG
    intro hF
    replace hF := atI_e hF
    obtain ⟨r3, rfl, hF⟩ := hF
    refine rz_if_eq (tgt := 30) dX5_readStatements_15 (by decide) (fun c => ?_) (fun c => ?_)
    · replace hF := ite_t hF c
      refine rz_iconst dX5_readStatements_30 rfl (by decide) ?_
      exact rz_iret dX5_readStatements_31 (Or.inr rfl) hF
    · replace hF := ite_f hF c
      refine rz_aload_n dX5_readStatements_18 rfl (show _ = some (some (vo x0)) from rfl) ?_
      replace hF := rdO_e hF
      obtain ⟨fs, o4, hg, hv, hF⟩ := hF
      refine rz_getf dX5_readStatements_19 fl_X5_20 hg hv ?_
      replace hF := rcv_e hF
      obtain ⟨fs, hg, hF⟩ := hF
      refine rz_callV (mc' := 0) (ms' := 0) (mc := 0) (ms := 0) (st := []) dX5_readStatements_22 cV_X5_32 rfl hg ⟨_, _, rfl⟩ rfl (Nat.le_of_ble_eq_true rfl) hF (fun v h5 hG => ?_)
      clear hF
      revert hG
      intro hF
      replace hF := atI_e hF
      obtain ⟨r6, rfl, hF⟩ := hF
      refine rz_bipush (v := 125) dX5_readStatements_25 (by decide) (by decide) ?_
      refine rz_icmp_ne (tgt := 32) dX5_readStatements_27 (by decide) (fun c => ?_) (fun c => ?_)
      · replace hF := ite_f hF c
        refine rz_aload_n dX5_readStatements_32 rfl (show _ = some (some (vo x0)) from rfl) ?_
        refine rz_iload_n dX5_readStatements_33 rfl (show _ = some (some (vi x1)) from rfl) ?_
        replace hF := rcv_e hF
        obtain ⟨fs, hg, hF⟩ := hF
        refine rz_callV (mc' := 0) (ms' := 0) (mc := 0) (ms := 0) (st := []) dX5_readStatements_34 cV_X5_65 rfl hg ⟨_, _, rfl⟩ rfl (Nat.le_of_ble_eq_true rfl) hF (fun v h7 hG => ?_)
        clear hF
        revert hG
        intro hF
        replace hF := atI_e hF
        obtain ⟨r8, rfl, hF⟩ := hF
        refine rz_if_ne (tgt := 42) dX5_readStatements_37 (by decide) (fun c => ?_) (fun c => ?_)
        · replace hF := ite_f hF c
          refine rz_iinc (ls' := [some (vo x0), some (vi x1), some (vi (w32 (x2 + 1)))]) dX5_readStatements_42 rfl (Nat.le_of_ble_eq_true rfl) rfl ?_
          refine rz_goto (tgt := 2) dX5_readStatements_45 (by decide) ?_
          exact hF
        · replace hF := ite_t hF c
          refine rz_iconst dX5_readStatements_40 rfl (by decide) ?_
          exact rz_iret dX5_readStatements_41 (Or.inl rfl) hF
      · replace hF := ite_t hF c
        refine rz_iconst dX5_readStatements_30 rfl (by decide) ?_
        exact rz_iret dX5_readStatements_31 (Or.inr rfl) hF
theorem vX5_readStatements {G : az_G} {d : Nat} {x0 : Nat} {x1 : Int} {h : az_H} {Q : Option az_V → az_H → Prop} (hF : pX5_readStatements_2 G d x0 x1 0 h Q) : cz G mX5_readStatements (d + 1) 0 0 [vo x0, vi x1] h Q := by
  refine cz_of (ls := [some (vo x0), some (vi x1), none]) (by decide +kernel) (Nat.le_of_ble_eq_true rfl) rfl ?_
  refine rz_iconst dX5_readStatements_0 rfl (by decide) ?_
  refine rz_istore_n (ls' := [some (vo x0), some (vi x1), some (vi 0)]) dX5_readStatements_1 rfl (Nat.le_of_ble_eq_true rfl) rfl ?_
  exact hF
theorem vX5_finished {G : az_G} {d : Nat} {x0 : Nat} {h : az_H} {Q : Option az_V → az_H → Prop} (hF : nwO h (cO 1 [vi 0, vi 0, vi 0, vn, vn]) (fun No1 Nh2 => rdO Nh2 x0 5 1 (fun o3 => rdO Nh2 x0 5 2 (fun o4 => rdI Nh2 x0 5 3 (fun f5 => rdI Nh2 x0 5 4 (fun f6 => rdI Nh2 x0 5 5 (fun f7 => cz G mX1_init d 2 416 [vo No1, vo o3, vo o4, vi f5, vi f6, vi f7] Nh2 (fun v h8 => atV v (Q (some (vo No1)) h8))))))))) : cz G mX5_finished (d + 1) 3 421 [vo x0] h Q := by
  refine cz_of (ls := [some (vo x0)]) (by decide +kernel) (Nat.le_of_ble_eq_true rfl) rfl ?_
  refine ez_wide (mc := 2 + 1) (ms := 416 + 5) (Nat.le_of_ble_eq_true rfl) (Nat.le_of_ble_eq_true rfl) ?_
  refine rz_new (fs := [vi 0, vi 0, vi 0, vn, vn]) dX5_finished_0 nw_X5_60 ?_
  replace hF := nwO_e hF
  refine rz_dup dX5_finished_3 (by rintro ⟨_, q⟩; cases q) ?_
  refine rz_aload_n dX5_finished_4 rfl (show _ = some (some (vo x0)) from rfl) ?_
  replace hF := rdO_e hF
  obtain ⟨fs, o3, hg, hv, hF⟩ := hF
  refine rz_getf dX5_finished_5 fl_X5_11 hg hv ?_
  refine rz_aload_n dX5_finished_8 rfl (show _ = some (some (vo x0)) from rfl) ?_
  replace hF := rdO_e hF
  obtain ⟨fs, o4, hg, hv, hF⟩ := hF
  refine rz_getf dX5_finished_9 fl_X5_17 hg hv ?_
  refine rz_aload_n dX5_finished_12 rfl (show _ = some (some (vo x0)) from rfl) ?_
  replace hF := rdI_e hF
  obtain ⟨fs, f5, hg, hv, hF⟩ := hF
  refine rz_getf dX5_finished_13 fl_X5_47 hg hv ?_
  refine rz_aload_n dX5_finished_16 rfl (show _ = some (some (vo x0)) from rfl) ?_
  replace hF := rdI_e hF
  obtain ⟨fs, f6, hg, hv, hF⟩ := hF
  refine rz_getf dX5_finished_17 fl_X5_51 hg hv ?_
  refine rz_aload_n dX5_finished_20 rfl (show _ = some (some (vo x0)) from rfl) ?_
  replace hF := rdI_e hF
  obtain ⟨fs, f7, hg, hv, hF⟩ := hF
  refine rz_getf dX5_finished_21 fl_X5_54 hg hv ?_
  refine rz_callI (mc' := 2) (ms' := 416) (mc := 0) (ms := 0) (st := [vo _]) dX5_finished_24 cI_X5_62 rfl rfl (Nat.le_of_ble_eq_true rfl) hF (fun v h8 hG => ?_)
  clear hF
  revert hG
  intro hF
  replace hF := atV_e hF
  obtain ⟨rfl, hF⟩ := hF
  exact rz_aret dX5_finished_27 trivial hF
theorem vX5_readMethod {G : az_G} {d : Nat} {x0 : Nat} {h : az_H} {Q : Option az_V → az_H → Prop} (hF : rcv h x0 5 (cz G mX5_begin d 0 0 [vo x0, vi 0] h (fun v h1 => atV v (rcv h1 x0 5 (cz G mX5_readStatements d 0 0 [vo x0, vi 0] h1 (fun v h2 => atI v (fun r3 => (if r3 = 0 then Q (some (vn)) h2 else rdO h2 x0 5 0 (fun o4 => rcv h2 o4 8 (cz G mX8_token d 0 0 [vo o4] h2 (fun v h5 => atI v (fun r6 => (if r6 = 0 then rcv h5 x0 5 (cz G mX5_finished d 3 421 [vo x0] h5 (fun v h7 => atR v (fun r8 => Q (some (vr r8)) h7))) else Q (some (vn)) h5))))))))))))) : cz G mX5_readMethod (d + 1) 3 421 [vo x0] h Q := by
  refine cz_of (ls := [some (vo x0)]) (by decide +kernel) (Nat.le_of_ble_eq_true rfl) rfl ?_
  refine rz_aload_n dX5_readMethod_0 rfl (show _ = some (some (vo x0)) from rfl) ?_
  refine rz_iconst dX5_readMethod_1 rfl (by decide) ?_
  replace hF := rcv_e hF
  obtain ⟨fs, hg, hF⟩ := hF
  refine rz_callV (mc' := 0) (ms' := 0) (mc := 3) (ms := 421) (st := []) dX5_readMethod_2 cV_X5_24 rfl hg ⟨_, _, rfl⟩ rfl (Nat.le_of_ble_eq_true rfl) hF (fun v h1 hG => ?_)
  clear hF
  revert hG
  intro hF
  replace hF := atV_e hF
  obtain ⟨rfl, hF⟩ := hF
  refine rz_aload_n dX5_readMethod_5 rfl (show _ = some (some (vo x0)) from rfl) ?_
  refine rz_iconst dX5_readMethod_6 rfl (by decide) ?_
  replace hF := rcv_e hF
  obtain ⟨fs, hg, hF⟩ := hF
  refine rz_callV (mc' := 0) (ms' := 0) (mc := 3) (ms := 421) (st := []) dX5_readMethod_7 cV_X5_28 rfl hg ⟨_, _, rfl⟩ rfl (Nat.le_of_ble_eq_true rfl) hF (fun v h2 hG => ?_)
  clear hF
  revert hG
  intro hF
  replace hF := atI_e hF
  obtain ⟨r3, rfl, hF⟩ := hF
  refine rz_if_eq (tgt := 30) dX5_readMethod_10 (by decide) (fun c => ?_) (fun c => ?_)
  · replace hF := ite_t hF c
    refine rz_null dX5_readMethod_30 ?_
    exact rz_aret dX5_readMethod_31 trivial hF
  · replace hF := ite_f hF c
    refine rz_aload_n dX5_readMethod_13 rfl (show _ = some (some (vo x0)) from rfl) ?_
    replace hF := rdO_e hF
    obtain ⟨fs, o4, hg, hv, hF⟩ := hF
    refine rz_getf dX5_readMethod_14 fl_X5_20 hg hv ?_
    replace hF := rcv_e hF
    obtain ⟨fs, hg, hF⟩ := hF
    refine rz_callV (mc' := 0) (ms' := 0) (mc := 3) (ms := 421) (st := []) dX5_readMethod_17 cV_X5_32 rfl hg ⟨_, _, rfl⟩ rfl (Nat.le_of_ble_eq_true rfl) hF (fun v h5 hG => ?_)
    clear hF
    revert hG
    intro hF
    replace hF := atI_e hF
    obtain ⟨r6, rfl, hF⟩ := hF
    refine rz_if_ne (tgt := 30) dX5_readMethod_20 (by decide) (fun c => ?_) (fun c => ?_)
    · replace hF := ite_f hF c
      refine rz_null dX5_readMethod_30 ?_
      exact rz_aret dX5_readMethod_31 trivial hF
    · replace hF := ite_t hF c
      refine rz_aload_n dX5_readMethod_23 rfl (show _ = some (some (vo x0)) from rfl) ?_
      replace hF := rcv_e hF
      obtain ⟨fs, hg, hF⟩ := hF
      refine rz_callV (mc' := 3) (ms' := 421) (mc := 0) (ms := 0) (st := []) dX5_readMethod_24 cV_X5_36 rfl hg ⟨_, _, rfl⟩ rfl (Nat.le_of_ble_eq_true rfl) hF (fun v h7 hG => ?_)
      clear hF
      revert hG
      intro hF
      replace hF := atR_e hF
      obtain ⟨r8, rfl, hF⟩ := hF
      refine rz_goto (tgt := 31) dX5_readMethod_27 (by decide) ?_
      exact rz_aret dX5_readMethod_31 trivial hF
theorem vX5_readRule {G : az_G} {d : Nat} {x0 : Nat} {h : az_H} {Q : Option az_V → az_H → Prop} (hF : rcv h x0 5 (cz G mX5_begin d 0 0 [vo x0, vi 1] h (fun v h1 => atV v (rcv h1 x0 5 (cz G mX5_readExpression d 0 0 [vo x0, vi 0] h1 (fun v h2 => atI v (fun r3 => (if r3 = 0 then Q (some (vn)) h2 else rdO h2 x0 5 0 (fun o4 => rcv h2 o4 8 (cz G mX8_token d 0 0 [vo o4] h2 (fun v h5 => atI v (fun r6 => (if r6 = 0 then rcv h5 x0 5 (cz G mX5_finished d 3 421 [vo x0] h5 (fun v h7 => atR v (fun r8 => Q (some (vr r8)) h7))) else Q (some (vn)) h5))))))))))))) : cz G mX5_readRule (d + 1) 3 421 [vo x0] h Q := by
  refine cz_of (ls := [some (vo x0)]) (by decide +kernel) (Nat.le_of_ble_eq_true rfl) rfl ?_
  refine rz_aload_n dX5_readRule_0 rfl (show _ = some (some (vo x0)) from rfl) ?_
  refine rz_iconst dX5_readRule_1 rfl (by decide) ?_
  replace hF := rcv_e hF
  obtain ⟨fs, hg, hF⟩ := hF
  refine rz_callV (mc' := 0) (ms' := 0) (mc := 3) (ms := 421) (st := []) dX5_readRule_2 cV_X5_24 rfl hg ⟨_, _, rfl⟩ rfl (Nat.le_of_ble_eq_true rfl) hF (fun v h1 hG => ?_)
  clear hF
  revert hG
  intro hF
  replace hF := atV_e hF
  obtain ⟨rfl, hF⟩ := hF
  refine rz_aload_n dX5_readRule_5 rfl (show _ = some (some (vo x0)) from rfl) ?_
  refine rz_iconst dX5_readRule_6 rfl (by decide) ?_
  replace hF := rcv_e hF
  obtain ⟨fs, hg, hF⟩ := hF
  refine rz_callV (mc' := 0) (ms' := 0) (mc := 3) (ms := 421) (st := []) dX5_readRule_7 cV_X5_40 rfl hg ⟨_, _, rfl⟩ rfl (Nat.le_of_ble_eq_true rfl) hF (fun v h2 hG => ?_)
  clear hF
  revert hG
  intro hF
  replace hF := atI_e hF
  obtain ⟨r3, rfl, hF⟩ := hF
  refine rz_if_eq (tgt := 30) dX5_readRule_10 (by decide) (fun c => ?_) (fun c => ?_)
  · replace hF := ite_t hF c
    refine rz_null dX5_readRule_30 ?_
    exact rz_aret dX5_readRule_31 trivial hF
  · replace hF := ite_f hF c
    refine rz_aload_n dX5_readRule_13 rfl (show _ = some (some (vo x0)) from rfl) ?_
    replace hF := rdO_e hF
    obtain ⟨fs, o4, hg, hv, hF⟩ := hF
    refine rz_getf dX5_readRule_14 fl_X5_20 hg hv ?_
    replace hF := rcv_e hF
    obtain ⟨fs, hg, hF⟩ := hF
    refine rz_callV (mc' := 0) (ms' := 0) (mc := 3) (ms := 421) (st := []) dX5_readRule_17 cV_X5_32 rfl hg ⟨_, _, rfl⟩ rfl (Nat.le_of_ble_eq_true rfl) hF (fun v h5 hG => ?_)
    clear hF
    revert hG
    intro hF
    replace hF := atI_e hF
    obtain ⟨r6, rfl, hF⟩ := hF
    refine rz_if_ne (tgt := 30) dX5_readRule_20 (by decide) (fun c => ?_) (fun c => ?_)
    · replace hF := ite_f hF c
      refine rz_null dX5_readRule_30 ?_
      exact rz_aret dX5_readRule_31 trivial hF
    · replace hF := ite_t hF c
      refine rz_aload_n dX5_readRule_23 rfl (show _ = some (some (vo x0)) from rfl) ?_
      replace hF := rcv_e hF
      obtain ⟨fs, hg, hF⟩ := hF
      refine rz_callV (mc' := 3) (ms' := 421) (mc := 0) (ms := 0) (st := []) dX5_readRule_24 cV_X5_36 rfl hg ⟨_, _, rfl⟩ rfl (Nat.le_of_ble_eq_true rfl) hF (fun v h7 hG => ?_)
      clear hF
      revert hG
      intro hF
      replace hF := atR_e hF
      obtain ⟨r8, rfl, hF⟩ := hF
      refine rz_goto (tgt := 31) dX5_readRule_27 (by decide) ?_
      exact rz_aret dX5_readRule_31 trivial hF
theorem vX7_init {G : az_G} {d : Nat} {x0 : Nat} {x1 : Option Nat} {h : az_H} {Q : Option az_V → az_H → Prop} (hF : nwO h (cO 3 [vn, vn, vn, vn, vn, vi 0]) (fun No1 Nh2 => cz G mX3_init d 5 9824 [vo No1] Nh2 (fun v h3 => atV v (wrF h3 x0 7 1 (.object "InvariantSearch$Known") (vo No1) (fun h4 => nwO h4 (cR (.object "InvariantSearch$Call") (List.replicate 30 none)) (fun No5 Nh6 => wrF Nh6 x0 7 2 (.array (.object "InvariantSearch$Call")) (vo No5) (fun h7 => nwO h7 (cA .int (List.replicate 12 0)) (fun No8 Nh9 => wrF Nh9 x0 7 3 (.array (.int)) (vo No8) (fun h10 => wrF h10 x0 7 0 (.object "InvariantSearch$Machine") (vr x1) (fun h11 => Q none h11)))))))))) : cz G mX7_init (d + 1) 8 9872 [vo x0, vr x1] h Q := by
  refine cz_of (ls := [some (vo x0), some (vr x1)]) (by decide +kernel) (Nat.le_of_ble_eq_true rfl) rfl ?_
  refine rz_aload_n dX7_init_0 rfl (show _ = some (some (vo x0)) from rfl) ?_
  refine rz_obj dX7_init_1 k_241 k_99 k_100 (Nat.le_of_ble_eq_true rfl) ?_
  refine rz_aload_n dX7_init_4 rfl (show _ = some (some (vo x0)) from rfl) ?_
  refine ez_wide (mc := 7 + 1) (ms := 9866 + 6) (Nat.le_of_ble_eq_true rfl) (Nat.le_of_ble_eq_true rfl) ?_
  refine rz_new (fs := [vn, vn, vn, vn, vn, vi 0]) dX7_init_5 nw_X7_9 ?_
  replace hF := nwO_e hF
  refine rz_dup dX7_init_8 (by rintro ⟨_, q⟩; cases q) ?_
  refine rz_callN (mc' := 5) (ms' := 9824) (mc := 2) (ms := 42) (st := [vo _, vo x0]) dX7_init_9 cN_X7_11 rfl rfl (Nat.le_of_ble_eq_true rfl) hF (fun v h3 hG => ?_)
  clear hF
  revert hG
  intro hF
  replace hF := atV_e hF
  obtain ⟨rfl, hF⟩ := hF
  replace hF := wrF_e hF
  obtain ⟨fs, hg, hv, hF⟩ := hF
  refine rz_putf dX7_init_12 fl_X7_12 (Or.inr rfl) hg hv ?_
  refine rz_aload_n dX7_init_15 rfl (show _ = some (some (vo x0)) from rfl) ?_
  refine rz_bipush (v := 30) dX7_init_16 (by decide) (by decide) ?_
  refine ez_wide (mc := 1 + 1) (ms := 12 + (30 : Int).toNat) (Nat.le_of_ble_eq_true rfl) (by decide +kernel) ?_
  refine rz_anew (C0 := "InvariantSearch$Call") dX7_init_18 (by decide) k_267 (by decide +kernel) (by decide) (by decide) ?_
  replace hF := nwO_e hF
  replace hF := wrF_e hF
  obtain ⟨fs, hg, hv, hF⟩ := hF
  refine rz_putf dX7_init_21 fl_X7_20 (Or.inr rfl) hg hv ?_
  refine rz_aload_n dX7_init_24 rfl (show _ = some (some (vo x0)) from rfl) ?_
  refine rz_bipush (v := 12) dX7_init_25 (by decide) (by decide) ?_
  refine ez_wide (mc := 0 + 1) (ms := 0 + (12 : Int).toNat) (Nat.le_of_ble_eq_true rfl) (by decide +kernel) ?_
  refine rz_newa dX7_init_27 rfl (by decide) k_155 (by decide) (by decide) ?_
  replace hF := nwO_e hF
  replace hF := wrF_e hF
  obtain ⟨fs, hg, hv, hF⟩ := hF
  refine rz_putf dX7_init_29 fl_X7_24 (Or.inr rfl) hg hv ?_
  refine rz_aload_n dX7_init_32 rfl (show _ = some (some (vo x0)) from rfl) ?_
  refine rz_aload_n dX7_init_33 rfl (show _ = some (some (vr x1)) from rfl) ?_
  replace hF := wrF_e hF
  obtain ⟨fs, hg, hv, hF⟩ := hF
  refine rz_putf dX7_init_34 fl_X7_28 (Or.inr rfl) hg hv ?_
  exact rz_vret dX7_init_37 trivial hF
theorem vX7_addChoice {G : az_G} {d : Nat} {x0 : Nat} {x1 : Option Nat} {h : az_H} {Q : Option az_V → az_H → Prop} (hF : rdI h x0 7 4 (fun f1 => (if 30 ≤ f1 then Q none h else rdO h x0 7 2 (fun o2 => rdI h x0 7 4 (fun f3 => stR h o2 "InvariantSearch$Call" 0 f3 x1 (fun h4 => rdI h4 x0 7 4 (fun f5 => wrF h4 x0 7 4 (.int) (vi (w32 (f5 + 1))) (fun h6 => Q none h6)))))))) : cz G mX7_addChoice d 0 0 [vo x0, vr x1] h Q := by
  refine cz_of (ls := [some (vo x0), some (vr x1)]) (by decide +kernel) (Nat.le_of_ble_eq_true rfl) rfl ?_
  refine rz_aload_n dX7_addChoice_0 rfl (show _ = some (some (vo x0)) from rfl) ?_
  replace hF := rdI_e hF
  obtain ⟨fs, f1, hg, hv, hF⟩ := hF
  refine rz_getf dX7_addChoice_1 fl_X7_32 hg hv ?_
  refine rz_bipush (v := 30) dX7_addChoice_4 (by decide) (by decide) ?_
  refine rz_icmp_ge (tgt := 29) dX7_addChoice_6 (by decide) (fun c => ?_) (fun c => ?_)
  · replace hF := ite_t hF c
    exact rz_vret dX7_addChoice_29 trivial hF
  · replace hF := ite_f hF c
    refine rz_aload_n dX7_addChoice_9 rfl (show _ = some (some (vo x0)) from rfl) ?_
    replace hF := rdO_e hF
    obtain ⟨fs, o2, hg, hv, hF⟩ := hF
    refine rz_getf dX7_addChoice_10 fl_X7_20 hg hv ?_
    refine rz_aload_n dX7_addChoice_13 rfl (show _ = some (some (vo x0)) from rfl) ?_
    replace hF := rdI_e hF
    obtain ⟨fs, f3, hg, hv, hF⟩ := hF
    refine rz_getf dX7_addChoice_14 fl_X7_32 hg hv ?_
    refine rz_aload_n dX7_addChoice_17 rfl (show _ = some (some (vr x1)) from rfl) ?_
    replace hF := stR_e hF
    obtain ⟨xs, hg, hb, h0, h1, hF⟩ := hF
    refine rz_aast (ci := 0) dX7_addChoice_18 hg (by decide) rfl hb h0 h1 ?_
    refine rz_aload_n dX7_addChoice_19 rfl (show _ = some (some (vo x0)) from rfl) ?_
    refine rz_dup dX7_addChoice_20 (by rintro ⟨_, q⟩; cases q) ?_
    replace hF := rdI_e hF
    obtain ⟨fs, f5, hg, hv, hF⟩ := hF
    refine rz_getf dX7_addChoice_21 fl_X7_32 hg hv ?_
    refine rz_iconst dX7_addChoice_24 rfl (by decide) ?_
    refine rz_iadd dX7_addChoice_25 ?_
    replace hF := wrF_e hF
    obtain ⟨fs, hg, hv, hF⟩ := hF
    refine rz_putf dX7_addChoice_26 fl_X7_32 (Or.inl rfl) hg hv ?_
    exact rz_vret dX7_addChoice_29 trivial hF
theorem vX7_dropChoices {G : az_G} {d : Nat} {x0 : Nat} {h : az_H} {Q : Option az_V → az_H → Prop} (hF : wrF h x0 7 4 (.int) (vi 0) (fun h1 => Q none h1)) : cz G mX7_dropChoices d 0 0 [vo x0] h Q := by
  refine cz_of (ls := [some (vo x0)]) (by decide +kernel) (Nat.le_of_ble_eq_true rfl) rfl ?_
  refine rz_aload_n dX7_dropChoices_0 rfl (show _ = some (some (vo x0)) from rfl) ?_
  refine rz_iconst dX7_dropChoices_1 rfl (by decide) ?_
  replace hF := wrF_e hF
  obtain ⟨fs, hg, hv, hF⟩ := hF
  refine rz_putf dX7_dropChoices_2 fl_X7_32 (Or.inl rfl) hg hv ?_
  exact rz_vret dX7_dropChoices_5 trivial hF
theorem vX7_statesSeen {G : az_G} {d : Nat} {x0 : Nat} {h : az_H} {Q : Option az_V → az_H → Prop} (hF : rdI h x0 7 5 (fun f1 => Q (some (vi f1)) h)) : cz G mX7_statesSeen d 0 0 [vo x0] h Q := by
  refine cz_of (ls := [some (vo x0)]) (by decide +kernel) (Nat.le_of_ble_eq_true rfl) rfl ?_
  refine rz_aload_n dX7_statesSeen_0 rfl (show _ = some (some (vo x0)) from rfl) ?_
  replace hF := rdI_e hF
  obtain ⟨fs, f1, hg, hv, hF⟩ := hF
  refine rz_getf dX7_statesSeen_1 fl_X7_36 hg hv ?_
  exact rz_iret dX7_statesSeen_4 trivial hF
def pX7_doAll_9 (G : az_G) (d : Nat) (x0 : Nat) (x1 : Option Nat) (x2 : Int) (x3 : Int) (h : az_H) (Q : Option az_V → az_H → Prop) : Prop := ez G mX7_doAll (d + 1) 0 0 9 [some (vo x0), some (vr x1), some (vi x2), some (vi x3)] [] h Q
theorem vX7_doAll_9 {G : az_G} {d : Nat} {x0 : Nat} {x1 : Option Nat} {x2 : Int} {x3 : Int} {h : az_H} {Q : Option az_V → az_H → Prop} (hF : (if x2 ≤ x3 then Q none h else nnR x1 (fun a1 => aln h a1 (fun n2 => (if n2 ≤ x3 then Q none h else rdO h x0 7 0 (fun o3 => ldI h a1 (.int) x3 (fun e4 => rcv h x0 7 (cz G mX7_choiceAt d 0 0 [vo x0, vi e4] h (fun v h5 => atR v (fun r6 => rcv h5 o3 4 (cz G mX4_attempt d 0 0 [vo o3, vr r6] h5 (fun v h7 => atI v (fun r8 => pX7_doAll_9 G d x0 (some a1) x2 (w32 (x3 + 1)) h7 Q))))))))))))) : pX7_doAll_9 G d x0 x1 x2 x3 h Q := by
  unfold pX7_doAll_9
  refine rz_iload_n dX7_doAll_9 rfl (show _ = some (some (vi x3)) from rfl) ?_
  refine rz_iload_n dX7_doAll_10 rfl (show _ = some (some (vi x2)) from rfl) ?_
  refine rz_icmp_ge (tgt := 41) dX7_doAll_11 (by decide) (fun c => ?_) (fun c => ?_)
  · replace hF := ite_t hF c
    exact rz_vret dX7_doAll_41 trivial hF
  · replace hF := ite_f hF c
    refine rz_iload_n dX7_doAll_14 rfl (show _ = some (some (vi x3)) from rfl) ?_
    refine rz_aload_n dX7_doAll_15 rfl (show _ = some (some (vr x1)) from rfl) ?_
    replace hF := nnR_e hF
    obtain ⟨a1, ea1, hF⟩ := hF
    subst ea1
    replace hF := aln_e hF
    obtain ⟨n2, hg, hr, hF⟩ := hF
    refine rz_alen dX7_doAll_16 hg hr ?_
    refine rz_icmp_ge (tgt := 41) dX7_doAll_17 (by decide) (fun c => ?_) (fun c => ?_)
    · replace hF := ite_t hF c
      exact rz_vret dX7_doAll_41 trivial hF
    · replace hF := ite_f hF c
      refine rz_aload_n dX7_doAll_20 rfl (show _ = some (some (vo x0)) from rfl) ?_
      replace hF := rdO_e hF
      obtain ⟨fs, o3, hg, hv, hF⟩ := hF
      refine rz_getf dX7_doAll_21 fl_X7_28 hg hv ?_
      refine rz_aload_n dX7_doAll_24 rfl (show _ = some (some (vo x0)) from rfl) ?_
      refine rz_aload_n dX7_doAll_25 rfl (show _ = some (some (vo a1)) from rfl) ?_
      refine rz_iload_n dX7_doAll_26 rfl (show _ = some (some (vi x3)) from rfl) ?_
      replace hF := ldI_e hF
      obtain ⟨xs, hg, h0, h1, hF⟩ := hF
      refine rz_iald dX7_doAll_27 hg h0 h1 ?_
      generalize xs.getD _ 0 = e4 at hF ⊢
      replace hF := rcv_e hF
      obtain ⟨fs, hg, hF⟩ := hF
      refine rz_callV (mc' := 0) (ms' := 0) (mc := 0) (ms := 0) (st := [vo o3]) dX7_doAll_28 cV_X7_44 rfl hg ⟨_, _, rfl⟩ rfl (Nat.le_of_ble_eq_true rfl) hF (fun v h5 hG => ?_)
      clear hF
      revert hG
      intro hF
      replace hF := atR_e hF
      obtain ⟨r6, rfl, hF⟩ := hF
      replace hF := rcv_e hF
      obtain ⟨fs, hg, hF⟩ := hF
      refine rz_callV (mc' := 0) (ms' := 0) (mc := 0) (ms := 0) (st := []) dX7_doAll_31 cV_X7_48 rfl hg ⟨_, _, rfl⟩ rfl (Nat.le_of_ble_eq_true rfl) hF (fun v h7 hG => ?_)
      clear hF
      revert hG
      intro hF
      replace hF := atI_e hF
      obtain ⟨r8, rfl, hF⟩ := hF
      refine rz_pop dX7_doAll_34 (by rintro ⟨_, q⟩; cases q) ?_
      refine rz_iinc (ls' := [some (vo x0), some (vo a1), some (vi x2), some (vi (w32 (x3 + 1)))]) dX7_doAll_35 rfl (Nat.le_of_ble_eq_true rfl) rfl ?_
      refine rz_goto (tgt := 9) dX7_doAll_38 (by decide) ?_
      exact hF
theorem vX7_doAll {G : az_G} {d : Nat} {x0 : Nat} {x1 : Option Nat} {x2 : Int} {h : az_H} {Q : Option az_V → az_H → Prop} (hF : rdO h x0 7 0 (fun o1 => rcv h o1 4 (cz G mX4_toStart d 0 0 [vo o1] h (fun v h2 => atV v (pX7_doAll_9 G d x0 x1 x2 0 h2 Q))))) : cz G mX7_doAll (d + 1) 0 0 [vo x0, vr x1, vi x2] h Q := by
  refine cz_of (ls := [some (vo x0), some (vr x1), some (vi x2), none]) (by decide +kernel) (Nat.le_of_ble_eq_true rfl) rfl ?_
  refine rz_aload_n dX7_doAll_0 rfl (show _ = some (some (vo x0)) from rfl) ?_
  replace hF := rdO_e hF
  obtain ⟨fs, o1, hg, hv, hF⟩ := hF
  refine rz_getf dX7_doAll_1 fl_X7_28 hg hv ?_
  replace hF := rcv_e hF
  obtain ⟨fs, hg, hF⟩ := hF
  refine rz_callV (mc' := 0) (ms' := 0) (mc := 0) (ms := 0) (st := []) dX7_doAll_4 cV_X7_39 rfl hg ⟨_, _, rfl⟩ rfl (Nat.le_of_ble_eq_true rfl) hF (fun v h2 hG => ?_)
  clear hF
  revert hG
  intro hF
  replace hF := atV_e hF
  obtain ⟨rfl, hF⟩ := hF
  refine rz_iconst dX7_doAll_7 rfl (by decide) ?_
  refine rz_istore_n (ls' := [some (vo x0), some (vr x1), some (vi x2), some (vi 0)]) dX7_doAll_8 rfl (Nat.le_of_ble_eq_true rfl) rfl ?_
  exact hF
theorem vX7_tryWithout {G : az_G} {d : Nat} {x0 : Nat} {x1 : Option Nat} {x2 : Int} {x3 : Int} {h : az_H} {Q : Option az_V → az_H → Prop} (hF : (if x3 < 0 then Q none h else (if x2 ≤ x3 then Q none h else nnR x1 (fun a1 => aln h a1 (fun n2 => (if n2 < x2 then Q none h else rdO h x0 7 3 (fun o3 => aln h o3 (fun n4 => (if n4 < x2 then Q none h else rdO h x0 7 3 (fun o5 => acp h a1 o5 0 0 x3 (fun h6 => rdO h6 x0 7 3 (fun o7 => acp h6 a1 o7 (w32 (x3 + 1)) x3 (w32 ((w32 (x2 - 1)) - x3)) (fun h8 => Q none h8))))))))))))) : cz G mX7_tryWithout (d + 1) 0 0 [vo x0, vr x1, vi x2, vi x3] h Q := by
  refine cz_of (ls := [some (vo x0), some (vr x1), some (vi x2), some (vi x3)]) (by decide +kernel) (Nat.le_of_ble_eq_true rfl) rfl ?_
  refine rz_iload_n dX7_tryWithout_0 rfl (show _ = some (some (vi x3)) from rfl) ?_
  refine rz_if_lt (tgt := 52) dX7_tryWithout_1 (by decide) (fun c => ?_) (fun c => ?_)
  · replace hF := ite_t hF c
    exact rz_vret dX7_tryWithout_52 trivial hF
  · replace hF := ite_f hF c
    refine rz_iload_n dX7_tryWithout_4 rfl (show _ = some (some (vi x3)) from rfl) ?_
    refine rz_iload_n dX7_tryWithout_5 rfl (show _ = some (some (vi x2)) from rfl) ?_
    refine rz_icmp_ge (tgt := 52) dX7_tryWithout_6 (by decide) (fun c => ?_) (fun c => ?_)
    · replace hF := ite_t hF c
      exact rz_vret dX7_tryWithout_52 trivial hF
    · replace hF := ite_f hF c
      refine rz_iload_n dX7_tryWithout_9 rfl (show _ = some (some (vi x2)) from rfl) ?_
      refine rz_aload_n dX7_tryWithout_10 rfl (show _ = some (some (vr x1)) from rfl) ?_
      replace hF := nnR_e hF
      obtain ⟨a1, ea1, hF⟩ := hF
      subst ea1
      replace hF := aln_e hF
      obtain ⟨n2, hg, hr, hF⟩ := hF
      refine rz_alen dX7_tryWithout_11 hg hr ?_
      refine rz_icmp_gt (tgt := 52) dX7_tryWithout_12 (by decide) (fun c => ?_) (fun c => ?_)
      · replace hF := ite_t hF c
        exact rz_vret dX7_tryWithout_52 trivial hF
      · replace hF := ite_f hF c
        refine rz_iload_n dX7_tryWithout_15 rfl (show _ = some (some (vi x2)) from rfl) ?_
        refine rz_aload_n dX7_tryWithout_16 rfl (show _ = some (some (vo x0)) from rfl) ?_
        replace hF := rdO_e hF
        obtain ⟨fs, o3, hg, hv, hF⟩ := hF
        refine rz_getf dX7_tryWithout_17 fl_X7_24 hg hv ?_
        replace hF := aln_e hF
        obtain ⟨n4, hg, hr, hF⟩ := hF
        refine rz_alen dX7_tryWithout_20 hg hr ?_
        refine rz_icmp_gt (tgt := 52) dX7_tryWithout_21 (by decide) (fun c => ?_) (fun c => ?_)
        · replace hF := ite_t hF c
          exact rz_vret dX7_tryWithout_52 trivial hF
        · replace hF := ite_f hF c
          refine rz_aload_n dX7_tryWithout_24 rfl (show _ = some (some (vo a1)) from rfl) ?_
          refine rz_iconst dX7_tryWithout_25 rfl (by decide) ?_
          refine rz_aload_n dX7_tryWithout_26 rfl (show _ = some (some (vo x0)) from rfl) ?_
          replace hF := rdO_e hF
          obtain ⟨fs, o5, hg, hv, hF⟩ := hF
          refine rz_getf dX7_tryWithout_27 fl_X7_24 hg hv ?_
          refine rz_iconst dX7_tryWithout_30 rfl (by decide) ?_
          refine rz_iload_n dX7_tryWithout_31 rfl (show _ = some (some (vi x3)) from rfl) ?_
          replace hF := acp_e hF
          obtain ⟨xs, ys, hg0, hg1, g0, g1, g2, g3, g4, hF⟩ := hF
          refine rz_acpy dX7_tryWithout_32 k_990 k_652 k_651 k_92 hg0 hg1 g0 g1 g2 g3 g4 (Nat.le_of_ble_eq_true rfl) ?_
          refine rz_aload_n dX7_tryWithout_35 rfl (show _ = some (some (vo a1)) from rfl) ?_
          refine rz_iload_n dX7_tryWithout_36 rfl (show _ = some (some (vi x3)) from rfl) ?_
          refine rz_iconst dX7_tryWithout_37 rfl (by decide) ?_
          refine rz_iadd dX7_tryWithout_38 ?_
          refine rz_aload_n dX7_tryWithout_39 rfl (show _ = some (some (vo x0)) from rfl) ?_
          replace hF := rdO_e hF
          obtain ⟨fs, o7, hg, hv, hF⟩ := hF
          refine rz_getf dX7_tryWithout_40 fl_X7_24 hg hv ?_
          refine rz_iload_n dX7_tryWithout_43 rfl (show _ = some (some (vi x3)) from rfl) ?_
          refine rz_iload_n dX7_tryWithout_44 rfl (show _ = some (some (vi x2)) from rfl) ?_
          refine rz_iconst dX7_tryWithout_45 rfl (by decide) ?_
          refine rz_isub dX7_tryWithout_46 ?_
          refine rz_iload_n dX7_tryWithout_47 rfl (show _ = some (some (vi x3)) from rfl) ?_
          refine rz_isub dX7_tryWithout_48 ?_
          replace hF := acp_e hF
          obtain ⟨xs, ys, hg0, hg1, g0, g1, g2, g3, g4, hF⟩ := hF
          refine rz_acpy dX7_tryWithout_49 k_990 k_652 k_651 k_92 hg0 hg1 g0 g1 g2 g3 g4 (Nat.le_of_ble_eq_true rfl) ?_
          exact rz_vret dX7_tryWithout_52 trivial hF
def pX7_makeLeast_16 (G : az_G) (d : Nat) (x0 : Nat) (x1 : Option Nat) (x3 : Option Nat) (x4 : Int) (x5 : Int) (h : az_H) (Q : Option az_V → az_H → Prop) : Prop := ez G mX7_makeLeast (d + 1) 0 0 16 [some (vo x0), some (vr x1), none, some (vr x3), some (vi x4), some (vi x5), none, none, none] [] h Q
def pX7_makeLeast_33 (G : az_G) (d : Nat) (x0 : Nat) (x1 : Option Nat) (x3 : Option Nat) (x4 : Int) (x5 : Int) (x6 : Int) (x7 : Int) (h : az_H) (Q : Option az_V → az_H → Prop) : Prop := ez G mX7_makeLeast (d + 1) 0 0 33 [some (vo x0), some (vr x1), none, some (vr x3), some (vi x4), some (vi x5), some (vi x6), some (vi x7), none] [] h Q
theorem vX7_makeLeast_33 {G : az_G} {d : Nat} {x0 : Nat} {x1 : Option Nat} {x3 : Option Nat} {x4 : Int} {x5 : Int} {x6 : Int} {x7 : Int} {h : az_H} {Q : Option az_V → az_H → Prop} (hF : (if x7 < 0 then (if x4 = x6 then Q (some (vi x4)) h else pX7_makeLeast_16 G d x0 x1 x3 x4 (w32 (x5 + 1)) h Q) else rcv h x0 7 (cz G mX7_tryWithout d 0 0 [vo x0, vr x1, vi x4, vi x7] h (fun v h1 => atV v (rdO h1 x0 7 3 (fun o2 => rcv h1 x0 7 (cz G mX7_breaksAt d 0 0 [vo x0, vo o2, vi (w32 (x4 - 1)), vr x3] h1 (fun v h3 => atI v (fun r4 => (if r4 = (-2) then pX7_makeLeast_33 G d x0 x1 x3 x4 x5 x6 (w32 (x7 + (-1))) h3 Q else rdO h3 x0 7 3 (fun o5 => nnR x1 (fun a6 => acp h3 o5 a6 0 0 (w32 (r4 + 1)) (fun h7 => pX7_makeLeast_33 G d x0 (some a6) x3 (w32 (r4 + 1)) x5 x6 (w32 (x7 + (-1))) h7 Q))))))))))))) : pX7_makeLeast_33 G d x0 x1 x3 x4 x5 x6 x7 h Q := by
  unfold pX7_makeLeast_33
  refine rz_iload dX7_makeLeast_33 (show _ = some (some (vi x7)) from rfl) ?_
  refine rz_if_lt (tgt := 93) dX7_makeLeast_35 (by decide) (fun c => ?_) (fun c => ?_)
  · replace hF := ite_t hF c
    refine rz_iload dX7_makeLeast_93 (show _ = some (some (vi x4)) from rfl) ?_
    refine rz_iload dX7_makeLeast_95 (show _ = some (some (vi x6)) from rfl) ?_
    refine rz_icmp_ne (tgt := 103) dX7_makeLeast_97 (by decide) (fun c => ?_) (fun c => ?_)
    · replace hF := ite_f hF c
      refine rz_iinc (ls' := [some (vo x0), some (vr x1), none, some (vr x3), some (vi x4), some (vi (w32 (x5 + 1))), some (vi x6), some (vi x7), none]) dX7_makeLeast_103 rfl (Nat.le_of_ble_eq_true rfl) rfl ?_
      refine rz_goto (tgt := 16) dX7_makeLeast_106 (by decide) ?_
      refine ez_kp [true, true, false, true, true, true, false, false, false] rfl ?_
      exact hF
    · replace hF := ite_t hF c
      refine rz_goto (tgt := 109) dX7_makeLeast_100 (by decide) ?_
      refine rz_iload dX7_makeLeast_109 (show _ = some (some (vi x4)) from rfl) ?_
      exact rz_iret dX7_makeLeast_111 trivial hF
  · replace hF := ite_f hF c
    refine rz_aload_n dX7_makeLeast_38 rfl (show _ = some (some (vo x0)) from rfl) ?_
    refine rz_aload_n dX7_makeLeast_39 rfl (show _ = some (some (vr x1)) from rfl) ?_
    refine rz_iload dX7_makeLeast_40 (show _ = some (some (vi x4)) from rfl) ?_
    refine rz_iload dX7_makeLeast_42 (show _ = some (some (vi x7)) from rfl) ?_
    replace hF := rcv_e hF
    obtain ⟨fs, hg, hF⟩ := hF
    refine rz_callV (mc' := 0) (ms' := 0) (mc := 0) (ms := 0) (st := []) dX7_makeLeast_44 cV_X7_62 rfl hg ⟨_, _, rfl⟩ rfl (Nat.le_of_ble_eq_true rfl) hF (fun v h1 hG => ?_)
    clear hF
    revert hG
    intro hF
    replace hF := atV_e hF
    obtain ⟨rfl, hF⟩ := hF
    refine rz_aload_n dX7_makeLeast_47 rfl (show _ = some (some (vo x0)) from rfl) ?_
    refine rz_aload_n dX7_makeLeast_48 rfl (show _ = some (some (vo x0)) from rfl) ?_
    replace hF := rdO_e hF
    obtain ⟨fs, o2, hg, hv, hF⟩ := hF
    refine rz_getf dX7_makeLeast_49 fl_X7_24 hg hv ?_
    refine rz_iload dX7_makeLeast_52 (show _ = some (some (vi x4)) from rfl) ?_
    refine rz_iconst dX7_makeLeast_54 rfl (by decide) ?_
    refine rz_isub dX7_makeLeast_55 ?_
    refine rz_aload_n dX7_makeLeast_56 rfl (show _ = some (some (vr x3)) from rfl) ?_
    replace hF := rcv_e hF
    obtain ⟨fs, hg, hF⟩ := hF
    refine rz_callV (mc' := 0) (ms' := 0) (mc := 0) (ms := 0) (st := []) dX7_makeLeast_57 cV_X7_66 rfl hg ⟨_, _, rfl⟩ rfl (Nat.le_of_ble_eq_true rfl) hF (fun v h3 hG => ?_)
    clear hF
    revert hG
    intro hF
    replace hF := atI_e hF
    obtain ⟨r4, rfl, hF⟩ := hF
    refine rz_istore (ls' := [some (vo x0), some (vr x1), none, some (vr x3), some (vi x4), some (vi x5), some (vi x6), some (vi x7), some (vi r4)]) dX7_makeLeast_60 (Nat.le_of_ble_eq_true rfl) rfl ?_
    refine rz_iload dX7_makeLeast_62 (show _ = some (some (vi r4)) from rfl) ?_
    refine rz_bipush (v := (-2)) dX7_makeLeast_64 (by decide) (by decide) ?_
    refine rz_icmp_eq (tgt := 87) dX7_makeLeast_66 (by decide) (fun c => ?_) (fun c => ?_)
    · replace hF := ite_t hF c
      refine rz_iinc (ls' := [some (vo x0), some (vr x1), none, some (vr x3), some (vi x4), some (vi x5), some (vi x6), some (vi (w32 (x7 + (-1)))), some (vi r4)]) dX7_makeLeast_87 rfl (Nat.le_of_ble_eq_true rfl) rfl ?_
      refine rz_goto (tgt := 33) dX7_makeLeast_90 (by decide) ?_
      refine ez_kp [true, true, false, true, true, true, true, true, false] rfl ?_
      exact hF
    · replace hF := ite_f hF c
      refine rz_iload dX7_makeLeast_69 (show _ = some (some (vi r4)) from rfl) ?_
      refine rz_iconst dX7_makeLeast_71 rfl (by decide) ?_
      refine rz_iadd dX7_makeLeast_72 ?_
      refine rz_istore (ls' := [some (vo x0), some (vr x1), none, some (vr x3), some (vi (w32 (r4 + 1))), some (vi x5), some (vi x6), some (vi x7), some (vi r4)]) dX7_makeLeast_73 (Nat.le_of_ble_eq_true rfl) rfl ?_
      refine rz_aload_n dX7_makeLeast_75 rfl (show _ = some (some (vo x0)) from rfl) ?_
      replace hF := rdO_e hF
      obtain ⟨fs, o5, hg, hv, hF⟩ := hF
      refine rz_getf dX7_makeLeast_76 fl_X7_24 hg hv ?_
      refine rz_iconst dX7_makeLeast_79 rfl (by decide) ?_
      refine rz_aload_n dX7_makeLeast_80 rfl (show _ = some (some (vr x1)) from rfl) ?_
      refine rz_iconst dX7_makeLeast_81 rfl (by decide) ?_
      refine rz_iload dX7_makeLeast_82 (show _ = some (some (vi (w32 (r4 + 1)))) from rfl) ?_
      replace hF := nnR_e hF
      obtain ⟨a6, ea6, hF⟩ := hF
      subst ea6
      replace hF := acp_e hF
      obtain ⟨xs, ys, hg0, hg1, g0, g1, g2, g3, g4, hF⟩ := hF
      refine rz_acpy dX7_makeLeast_84 k_990 k_652 k_651 k_92 hg0 hg1 g0 g1 g2 g3 g4 (Nat.le_of_ble_eq_true rfl) ?_
      refine rz_iinc (ls' := [some (vo x0), some (vo a6), none, some (vr x3), some (vi (w32 (r4 + 1))), some (vi x5), some (vi x6), some (vi (w32 (x7 + (-1)))), some (vi r4)]) dX7_makeLeast_87 rfl (Nat.le_of_ble_eq_true rfl) rfl ?_
      refine rz_goto (tgt := 33) dX7_makeLeast_90 (by decide) ?_
      refine ez_kp [true, true, false, true, true, true, true, true, false] rfl ?_
      exact hF
theorem vX7_makeLeast_16 {G : az_G} {d : Nat} {x0 : Nat} {x1 : Option Nat} {x3 : Option Nat} {x4 : Int} {x5 : Int} {h : az_H} {Q : Option az_V → az_H → Prop} (hF : (if 12 ≤ x5 then Q (some (vi x4)) h else pX7_makeLeast_33 G d x0 x1 x3 x4 x5 x4 (w32 (x4 - 1)) h Q)) : pX7_makeLeast_16 G d x0 x1 x3 x4 x5 h Q := by
  unfold pX7_makeLeast_16
  refine rz_iload dX7_makeLeast_16 (show _ = some (some (vi x5)) from rfl) ?_
  refine rz_bipush (v := 12) dX7_makeLeast_18 (by decide) (by decide) ?_
  refine rz_icmp_ge (tgt := 109) dX7_makeLeast_20 (by decide) (fun c => ?_) (fun c => ?_)
  · replace hF := ite_t hF c
    refine rz_iload dX7_makeLeast_109 (show _ = some (some (vi x4)) from rfl) ?_
    exact rz_iret dX7_makeLeast_111 trivial hF
  · replace hF := ite_f hF c
    refine rz_iload dX7_makeLeast_23 (show _ = some (some (vi x4)) from rfl) ?_
    refine rz_istore (ls' := [some (vo x0), some (vr x1), none, some (vr x3), some (vi x4), some (vi x5), some (vi x4), none, none]) dX7_makeLeast_25 (Nat.le_of_ble_eq_true rfl) rfl ?_
    refine rz_iload dX7_makeLeast_27 (show _ = some (some (vi x4)) from rfl) ?_
    refine rz_iconst dX7_makeLeast_29 rfl (by decide) ?_
    refine rz_isub dX7_makeLeast_30 ?_
    refine rz_istore (ls' := [some (vo x0), some (vr x1), none, some (vr x3), some (vi x4), some (vi x5), some (vi x4), some (vi (w32 (x4 - 1))), none]) dX7_makeLeast_31 (Nat.le_of_ble_eq_true rfl) rfl ?_
    exact hF
theorem vX7_makeLeast {G : az_G} {d : Nat} {x0 : Nat} {x1 : Option Nat} {x2 : Int} {x3 : Option Nat} {h : az_H} {Q : Option az_V → az_H → Prop} (hF : nnR x1 (fun a1 => aln h a1 (fun n2 => cz G mJ9_min_7cf53 d 0 0 [vi n2, vi 12] h (fun v h3 => atI v (fun r4 => cz G mJ9_min_7cf53 d 0 0 [vi x2, vi r4] h3 (fun v h5 => atI v (fun r6 => pX7_makeLeast_16 G d x0 (some a1) x3 r6 0 h5 Q))))))) : cz G mX7_makeLeast (d + 1) 0 0 [vo x0, vr x1, vi x2, vr x3] h Q := by
  refine cz_of (ls := [some (vo x0), some (vr x1), some (vi x2), some (vr x3), none, none, none, none, none]) (by decide +kernel) (Nat.le_of_ble_eq_true rfl) rfl ?_
  refine rz_iload_n dX7_makeLeast_0 rfl (show _ = some (some (vi x2)) from rfl) ?_
  refine rz_aload_n dX7_makeLeast_1 rfl (show _ = some (some (vr x1)) from rfl) ?_
  replace hF := nnR_e hF
  obtain ⟨a1, ea1, hF⟩ := hF
  subst ea1
  replace hF := aln_e hF
  obtain ⟨n2, hg, hr, hF⟩ := hF
  refine rz_alen dX7_makeLeast_2 hg hr ?_
  refine rz_bipush (v := 12) dX7_makeLeast_3 (by decide) (by decide) ?_
  refine rz_callS (mc' := 0) (ms' := 0) (mc := 0) (ms := 0) (st := [vi x2]) dX7_makeLeast_5 cS_X7_56 rfl rfl (Nat.le_of_ble_eq_true rfl) hF (fun v h3 hG => ?_)
  clear hF
  revert hG
  intro hF
  replace hF := atI_e hF
  obtain ⟨r4, rfl, hF⟩ := hF
  refine rz_callS (mc' := 0) (ms' := 0) (mc := 0) (ms := 0) (st := []) dX7_makeLeast_8 cS_X7_56 rfl rfl (Nat.le_of_ble_eq_true rfl) hF (fun v h5 hG => ?_)
  clear hF
  revert hG
  intro hF
  replace hF := atI_e hF
  obtain ⟨r6, rfl, hF⟩ := hF
  refine rz_istore (ls' := [some (vo x0), some (vo a1), some (vi x2), some (vr x3), some (vi r6), none, none, none, none]) dX7_makeLeast_11 (Nat.le_of_ble_eq_true rfl) rfl ?_
  refine rz_iconst dX7_makeLeast_13 rfl (by decide) ?_
  refine rz_istore (ls' := [some (vo x0), some (vo a1), some (vi x2), some (vr x3), some (vi r6), some (vi 0), none, none, none]) dX7_makeLeast_14 (Nat.le_of_ble_eq_true rfl) rfl ?_
  refine ez_kp [true, true, false, true, true, true, false, false, false] rfl ?_
  exact hF
def pX7_seek_46 (G : az_G) (d : Nat) (x0 : Nat) (x1 : Option Nat) (x2 : Int) (x3 : Option Nat) (x4 : Int) (h : az_H) (Q : Option az_V → az_H → Prop) : Prop := ez G mX7_seek (d + 1) 0 0 46 [some (vo x0), some (vr x1), some (vi x2), some (vr x3), some (vi x4), none, none, none] [] h Q
def pX7_seek_91 (G : az_G) (d : Nat) (x0 : Nat) (x1 : Option Nat) (x2 : Int) (x3 : Option Nat) (x4 : Int) (x5 : Int) (x6 : Int) (h : az_H) (Q : Option az_V → az_H → Prop) : Prop := ez G mX7_seek (d + 1) 0 0 91 [some (vo x0), some (vr x1), some (vi x2), some (vr x3), some (vi x4), some (vi x5), some (vi x6), none] [] h Q
def pX7_seek_171 (G : az_G) (d : Nat) (x0 : Nat) (x1 : Option Nat) (x2 : Int) (x3 : Option Nat) (x4 : Int) (x5 : Int) (x6 : Int) (s0 : Int) (h : az_H) (Q : Option az_V → az_H → Prop) : Prop := ez G mX7_seek (d + 1) 0 0 171 [some (vo x0), some (vr x1), some (vi x2), some (vr x3), some (vi x4), some (vi x5), some (vi x6), none] [vi s0] h Q
theorem vX7_seek_171 {G : az_G} {d : Nat} {x0 : Nat} {x1 : Option Nat} {x2 : Int} {x3 : Option Nat} {x4 : Int} {x5 : Int} {x6 : Int} {s0 : Int} {h : az_H} {Q : Option az_V → az_H → Prop} (hF : (if s0 < 0 then pX7_seek_91 G d x0 x1 x2 x3 x4 x5 (w32 (x6 + 1)) h Q else rdI h x0 7 5 (fun f1 => wrF h x0 7 5 (.int) (vi (w32 (f1 + 1))) (fun h2 => rdO h2 x0 7 1 (fun o3 => rcv h2 o3 3 (cz G mX3_isFull d 0 0 [vo o3] h2 (fun v h4 => atI v (fun r5 => (if r5 = 0 then rdO h4 x0 7 1 (fun o6 => rdO h4 x0 7 0 (fun o7 => rcv h4 o6 3 (cz G mX3_add d 0 0 [vo o6, vo o7, vi s0, vi x4, vi x6] h4 (fun v h8 => atV v (pX7_seek_91 G d x0 x1 x2 x3 x4 x5 (w32 (x6 + 1)) h8 Q))))) else Q (some (vi ((-2)))) h4))))))))) : pX7_seek_171 G d x0 x1 x2 x3 x4 x5 x6 s0 h Q := by
  unfold pX7_seek_171
  refine rz_istore (ls' := [some (vo x0), some (vr x1), some (vi x2), some (vr x3), some (vi x4), some (vi x5), some (vi x6), some (vi s0)]) dX7_seek_171 (Nat.le_of_ble_eq_true rfl) rfl ?_
  refine rz_iload dX7_seek_173 (show _ = some (some (vi s0)) from rfl) ?_
  refine rz_if_lt (tgt := 218) dX7_seek_175 (by decide) (fun c => ?_) (fun c => ?_)
  · replace hF := ite_t hF c
    refine rz_iinc (ls' := [some (vo x0), some (vr x1), some (vi x2), some (vr x3), some (vi x4), some (vi x5), some (vi (w32 (x6 + 1))), some (vi s0)]) dX7_seek_218 rfl (Nat.le_of_ble_eq_true rfl) rfl ?_
    refine rz_goto (tgt := 91) dX7_seek_221 (by decide) ?_
    refine ez_kp [true, true, true, true, true, true, true, false] rfl ?_
    exact hF
  · replace hF := ite_f hF c
    refine rz_aload_n dX7_seek_178 rfl (show _ = some (some (vo x0)) from rfl) ?_
    refine rz_dup dX7_seek_179 (by rintro ⟨_, q⟩; cases q) ?_
    replace hF := rdI_e hF
    obtain ⟨fs, f1, hg, hv, hF⟩ := hF
    refine rz_getf dX7_seek_180 fl_X7_36 hg hv ?_
    refine rz_iconst dX7_seek_183 rfl (by decide) ?_
    refine rz_iadd dX7_seek_184 ?_
    replace hF := wrF_e hF
    obtain ⟨fs, hg, hv, hF⟩ := hF
    refine rz_putf dX7_seek_185 fl_X7_36 (Or.inl rfl) hg hv ?_
    refine rz_aload_n dX7_seek_188 rfl (show _ = some (some (vo x0)) from rfl) ?_
    replace hF := rdO_e hF
    obtain ⟨fs, o3, hg, hv, hF⟩ := hF
    refine rz_getf dX7_seek_189 fl_X7_12 hg hv ?_
    replace hF := rcv_e hF
    obtain ⟨fs, hg, hF⟩ := hF
    refine rz_callV (mc' := 0) (ms' := 0) (mc := 0) (ms := 0) (st := []) dX7_seek_192 cV_X7_103 rfl hg ⟨_, _, rfl⟩ rfl (Nat.le_of_ble_eq_true rfl) hF (fun v h4 hG => ?_)
    clear hF
    revert hG
    intro hF
    replace hF := atI_e hF
    obtain ⟨r5, rfl, hF⟩ := hF
    refine rz_if_eq (tgt := 201) dX7_seek_195 (by decide) (fun c => ?_) (fun c => ?_)
    · replace hF := ite_t hF c
      refine rz_aload_n dX7_seek_201 rfl (show _ = some (some (vo x0)) from rfl) ?_
      replace hF := rdO_e hF
      obtain ⟨fs, o6, hg, hv, hF⟩ := hF
      refine rz_getf dX7_seek_202 fl_X7_12 hg hv ?_
      refine rz_aload_n dX7_seek_205 rfl (show _ = some (some (vo x0)) from rfl) ?_
      replace hF := rdO_e hF
      obtain ⟨fs, o7, hg, hv, hF⟩ := hF
      refine rz_getf dX7_seek_206 fl_X7_28 hg hv ?_
      refine rz_iload dX7_seek_209 (show _ = some (some (vi s0)) from rfl) ?_
      refine rz_iload dX7_seek_211 (show _ = some (some (vi x4)) from rfl) ?_
      refine rz_iload dX7_seek_213 (show _ = some (some (vi x6)) from rfl) ?_
      replace hF := rcv_e hF
      obtain ⟨fs, hg, hF⟩ := hF
      refine rz_callV (mc' := 0) (ms' := 0) (mc := 0) (ms := 0) (st := []) dX7_seek_215 cV_X7_83 rfl hg ⟨_, _, rfl⟩ rfl (Nat.le_of_ble_eq_true rfl) hF (fun v h8 hG => ?_)
      clear hF
      revert hG
      intro hF
      replace hF := atV_e hF
      obtain ⟨rfl, hF⟩ := hF
      refine rz_iinc (ls' := [some (vo x0), some (vr x1), some (vi x2), some (vr x3), some (vi x4), some (vi x5), some (vi (w32 (x6 + 1))), some (vi s0)]) dX7_seek_218 rfl (Nat.le_of_ble_eq_true rfl) rfl ?_
      refine rz_goto (tgt := 91) dX7_seek_221 (by decide) ?_
      refine ez_kp [true, true, true, true, true, true, true, false] rfl ?_
      exact hF
    · replace hF := ite_f hF c
      refine rz_bipush (v := (-2)) dX7_seek_198 (by decide) (by decide) ?_
      exact rz_iret dX7_seek_200 trivial hF
theorem vX7_seek_91 {G : az_G} {d : Nat} {x0 : Nat} {x1 : Option Nat} {x2 : Int} {x3 : Option Nat} {x4 : Int} {x5 : Int} {x6 : Int} {h : az_H} {Q : Option az_V → az_H → Prop} (hF : rdI h x0 7 4 (fun f1 => (if f1 ≤ x6 then pX7_seek_46 G d x0 x1 x2 x3 (w32 (x4 + 1)) h Q else rdO h x0 7 1 (fun o2 => rdO h x0 7 0 (fun o3 => rcv h o2 3 (cz G mX3_enter d 0 0 [vo o2, vi x4, vo o3] h (fun v h4 => atV v (rdO h4 x0 7 0 (fun o5 => rcv h4 x0 7 (cz G mX7_choiceAt d 0 0 [vo x0, vi x6] h4 (fun v h6 => atR v (fun r7 => rcv h6 o5 4 (cz G mX4_attempt d 0 0 [vo o5, vr r7] h6 (fun v h8 => atI v (fun r9 => rdO h8 x0 7 0 (fun o10 => rcv h8 o10 4 (cz G mX4_keeps d 0 0 [vo o10, vr x1] h8 (fun v h11 => atI v (fun r12 => (if r12 = 0 then rdO h11 x0 7 1 (fun o17 => rcv h11 o17 3 (cz G mX3_rowThrough d 0 0 [vo o17, vi x4, vi x6, vr x3] h11 (fun v h18 => atI v (fun r19 => Q (some (vi r19)) h18)))) else (if x5 = 0 then pX7_seek_171 G d x0 x1 x2 x3 x4 x5 x6 ((-1)) h11 Q else rdO h11 x0 7 1 (fun o13 => rdO h11 x0 7 0 (fun o14 => rcv h11 o13 3 (cz G mX3_slotFor d 0 0 [vo o13, vo o14] h11 (fun v h15 => atI v (fun r16 => pX7_seek_171 G d x0 x1 x2 x3 x4 x5 x6 r16 h15 Q)))))))))))))))))))))))))) : pX7_seek_91 G d x0 x1 x2 x3 x4 x5 x6 h Q := by
  unfold pX7_seek_91
  refine rz_iload dX7_seek_91 (show _ = some (some (vi x6)) from rfl) ?_
  refine rz_aload_n dX7_seek_93 rfl (show _ = some (some (vo x0)) from rfl) ?_
  replace hF := rdI_e hF
  obtain ⟨fs, f1, hg, hv, hF⟩ := hF
  refine rz_getf dX7_seek_94 fl_X7_32 hg hv ?_
  refine rz_icmp_ge (tgt := 224) dX7_seek_97 (by decide) (fun c => ?_) (fun c => ?_)
  · replace hF := ite_t hF c
    refine rz_iinc (ls' := [some (vo x0), some (vr x1), some (vi x2), some (vr x3), some (vi (w32 (x4 + 1))), some (vi x5), some (vi x6), none]) dX7_seek_224 rfl (Nat.le_of_ble_eq_true rfl) rfl ?_
    refine rz_goto (tgt := 46) dX7_seek_227 (by decide) ?_
    refine ez_kp [true, true, true, true, true, false, false, false] rfl ?_
    exact hF
  · replace hF := ite_f hF c
    refine rz_aload_n dX7_seek_100 rfl (show _ = some (some (vo x0)) from rfl) ?_
    replace hF := rdO_e hF
    obtain ⟨fs, o2, hg, hv, hF⟩ := hF
    refine rz_getf dX7_seek_101 fl_X7_12 hg hv ?_
    refine rz_iload dX7_seek_104 (show _ = some (some (vi x4)) from rfl) ?_
    refine rz_aload_n dX7_seek_106 rfl (show _ = some (some (vo x0)) from rfl) ?_
    replace hF := rdO_e hF
    obtain ⟨fs, o3, hg, hv, hF⟩ := hF
    refine rz_getf dX7_seek_107 fl_X7_28 hg hv ?_
    replace hF := rcv_e hF
    obtain ⟨fs, hg, hF⟩ := hF
    refine rz_callV (mc' := 0) (ms' := 0) (mc := 0) (ms := 0) (st := []) dX7_seek_110 cV_X7_95 rfl hg ⟨_, _, rfl⟩ rfl (Nat.le_of_ble_eq_true rfl) hF (fun v h4 hG => ?_)
    clear hF
    revert hG
    intro hF
    replace hF := atV_e hF
    obtain ⟨rfl, hF⟩ := hF
    refine rz_aload_n dX7_seek_113 rfl (show _ = some (some (vo x0)) from rfl) ?_
    replace hF := rdO_e hF
    obtain ⟨fs, o5, hg, hv, hF⟩ := hF
    refine rz_getf dX7_seek_114 fl_X7_28 hg hv ?_
    refine rz_aload_n dX7_seek_117 rfl (show _ = some (some (vo x0)) from rfl) ?_
    refine rz_iload dX7_seek_118 (show _ = some (some (vi x6)) from rfl) ?_
    replace hF := rcv_e hF
    obtain ⟨fs, hg, hF⟩ := hF
    refine rz_callV (mc' := 0) (ms' := 0) (mc := 0) (ms := 0) (st := [vo o5]) dX7_seek_120 cV_X7_44 rfl hg ⟨_, _, rfl⟩ rfl (Nat.le_of_ble_eq_true rfl) hF (fun v h6 hG => ?_)
    clear hF
    revert hG
    intro hF
    replace hF := atR_e hF
    obtain ⟨r7, rfl, hF⟩ := hF
    replace hF := rcv_e hF
    obtain ⟨fs, hg, hF⟩ := hF
    refine rz_callV (mc' := 0) (ms' := 0) (mc := 0) (ms := 0) (st := []) dX7_seek_123 cV_X7_48 rfl hg ⟨_, _, rfl⟩ rfl (Nat.le_of_ble_eq_true rfl) hF (fun v h8 hG => ?_)
    clear hF
    revert hG
    intro hF
    replace hF := atI_e hF
    obtain ⟨r9, rfl, hF⟩ := hF
    refine rz_pop dX7_seek_126 (by rintro ⟨_, q⟩; cases q) ?_
    refine rz_aload_n dX7_seek_127 rfl (show _ = some (some (vo x0)) from rfl) ?_
    replace hF := rdO_e hF
    obtain ⟨fs, o10, hg, hv, hF⟩ := hF
    refine rz_getf dX7_seek_128 fl_X7_28 hg hv ?_
    refine rz_aload_n dX7_seek_131 rfl (show _ = some (some (vr x1)) from rfl) ?_
    replace hF := rcv_e hF
    obtain ⟨fs, hg, hF⟩ := hF
    refine rz_callV (mc' := 0) (ms' := 0) (mc := 0) (ms := 0) (st := []) dX7_seek_132 cV_X7_52 rfl hg ⟨_, _, rfl⟩ rfl (Nat.le_of_ble_eq_true rfl) hF (fun v h11 hG => ?_)
    clear hF
    revert hG
    intro hF
    replace hF := atI_e hF
    obtain ⟨r12, rfl, hF⟩ := hF
    refine rz_if_ne (tgt := 151) dX7_seek_135 (by decide) (fun c => ?_) (fun c => ?_)
    · replace hF := ite_f hF c
      refine rz_iload dX7_seek_151 (show _ = some (some (vi x5)) from rfl) ?_
      refine rz_if_eq (tgt := 170) dX7_seek_153 (by decide) (fun c => ?_) (fun c => ?_)
      · replace hF := ite_t hF c
        refine rz_iconst dX7_seek_170 rfl (by decide) ?_
        exact hF
      · replace hF := ite_f hF c
        refine rz_aload_n dX7_seek_156 rfl (show _ = some (some (vo x0)) from rfl) ?_
        replace hF := rdO_e hF
        obtain ⟨fs, o13, hg, hv, hF⟩ := hF
        refine rz_getf dX7_seek_157 fl_X7_12 hg hv ?_
        refine rz_aload_n dX7_seek_160 rfl (show _ = some (some (vo x0)) from rfl) ?_
        replace hF := rdO_e hF
        obtain ⟨fs, o14, hg, hv, hF⟩ := hF
        refine rz_getf dX7_seek_161 fl_X7_28 hg hv ?_
        replace hF := rcv_e hF
        obtain ⟨fs, hg, hF⟩ := hF
        refine rz_callV (mc' := 0) (ms' := 0) (mc := 0) (ms := 0) (st := []) dX7_seek_164 cV_X7_79 rfl hg ⟨_, _, rfl⟩ rfl (Nat.le_of_ble_eq_true rfl) hF (fun v h15 hG => ?_)
        clear hF
        revert hG
        intro hF
        replace hF := atI_e hF
        obtain ⟨r16, rfl, hF⟩ := hF
        refine rz_goto (tgt := 171) dX7_seek_167 (by decide) ?_
        exact hF
    · replace hF := ite_t hF c
      refine rz_aload_n dX7_seek_138 rfl (show _ = some (some (vo x0)) from rfl) ?_
      replace hF := rdO_e hF
      obtain ⟨fs, o17, hg, hv, hF⟩ := hF
      refine rz_getf dX7_seek_139 fl_X7_12 hg hv ?_
      refine rz_iload dX7_seek_142 (show _ = some (some (vi x4)) from rfl) ?_
      refine rz_iload dX7_seek_144 (show _ = some (some (vi x6)) from rfl) ?_
      refine rz_aload_n dX7_seek_146 rfl (show _ = some (some (vr x3)) from rfl) ?_
      replace hF := rcv_e hF
      obtain ⟨fs, hg, hF⟩ := hF
      refine rz_callV (mc' := 0) (ms' := 0) (mc := 0) (ms := 0) (st := []) dX7_seek_147 cV_X7_99 rfl hg ⟨_, _, rfl⟩ rfl (Nat.le_of_ble_eq_true rfl) hF (fun v h18 hG => ?_)
      clear hF
      revert hG
      intro hF
      replace hF := atI_e hF
      obtain ⟨r19, rfl, hF⟩ := hF
      exact rz_iret dX7_seek_150 trivial hF
theorem vX7_seek_46 {G : az_G} {d : Nat} {x0 : Nat} {x1 : Option Nat} {x2 : Int} {x3 : Option Nat} {x4 : Int} {h : az_H} {Q : Option az_V → az_H → Prop} (hF : (if 400 ≤ x4 then Q (some (vi 0)) h else rdO h x0 7 1 (fun o1 => rcv h o1 3 (cz G mX3_size d 0 0 [vo o1] h (fun v h2 => atI v (fun r3 => (if r3 ≤ x4 then Q (some (vi 0)) h2 else rdO h2 x0 7 1 (fun o4 => rcv h2 o4 3 (cz G mX3_depth d 0 0 [vo o4, vi x4] h2 (fun v h5 => atI v (fun r6 => (if x2 ≤ w32 (r6 + 1) then pX7_seek_91 G d x0 x1 x2 x3 x4 0 0 h5 Q else pX7_seek_91 G d x0 x1 x2 x3 x4 1 0 h5 Q)))))))))))) : pX7_seek_46 G d x0 x1 x2 x3 x4 h Q := by
  unfold pX7_seek_46
  refine rz_iload dX7_seek_46 (show _ = some (some (vi x4)) from rfl) ?_
  refine rz_sipush (v := 400) dX7_seek_48 (by decide) (by decide) ?_
  refine rz_icmp_ge (tgt := 230) dX7_seek_51 (by decide) (fun c => ?_) (fun c => ?_)
  · replace hF := ite_t hF c
    refine rz_iconst dX7_seek_230 rfl (by decide) ?_
    exact rz_iret dX7_seek_231 trivial hF
  · replace hF := ite_f hF c
    refine rz_iload dX7_seek_54 (show _ = some (some (vi x4)) from rfl) ?_
    refine rz_aload_n dX7_seek_56 rfl (show _ = some (some (vo x0)) from rfl) ?_
    replace hF := rdO_e hF
    obtain ⟨fs, o1, hg, hv, hF⟩ := hF
    refine rz_getf dX7_seek_57 fl_X7_12 hg hv ?_
    replace hF := rcv_e hF
    obtain ⟨fs, hg, hF⟩ := hF
    refine rz_callV (mc' := 0) (ms' := 0) (mc := 0) (ms := 0) (st := [vi x4]) dX7_seek_60 cV_X7_87 rfl hg ⟨_, _, rfl⟩ rfl (Nat.le_of_ble_eq_true rfl) hF (fun v h2 hG => ?_)
    clear hF
    revert hG
    intro hF
    replace hF := atI_e hF
    obtain ⟨r3, rfl, hF⟩ := hF
    refine rz_icmp_ge (tgt := 230) dX7_seek_63 (by decide) (fun c => ?_) (fun c => ?_)
    · replace hF := ite_t hF c
      refine rz_iconst dX7_seek_230 rfl (by decide) ?_
      exact rz_iret dX7_seek_231 trivial hF
    · replace hF := ite_f hF c
      refine rz_aload_n dX7_seek_66 rfl (show _ = some (some (vo x0)) from rfl) ?_
      replace hF := rdO_e hF
      obtain ⟨fs, o4, hg, hv, hF⟩ := hF
      refine rz_getf dX7_seek_67 fl_X7_12 hg hv ?_
      refine rz_iload dX7_seek_70 (show _ = some (some (vi x4)) from rfl) ?_
      replace hF := rcv_e hF
      obtain ⟨fs, hg, hF⟩ := hF
      refine rz_callV (mc' := 0) (ms' := 0) (mc := 0) (ms := 0) (st := []) dX7_seek_72 cV_X7_91 rfl hg ⟨_, _, rfl⟩ rfl (Nat.le_of_ble_eq_true rfl) hF (fun v h5 hG => ?_)
      clear hF
      revert hG
      intro hF
      replace hF := atI_e hF
      obtain ⟨r6, rfl, hF⟩ := hF
      refine rz_iconst dX7_seek_75 rfl (by decide) ?_
      refine rz_iadd dX7_seek_76 ?_
      refine rz_iload_n dX7_seek_77 rfl (show _ = some (some (vi x2)) from rfl) ?_
      refine rz_icmp_ge (tgt := 85) dX7_seek_78 (by decide) (fun c => ?_) (fun c => ?_)
      · replace hF := ite_t hF c
        refine rz_iconst dX7_seek_85 rfl (by decide) ?_
        refine rz_istore (ls' := [some (vo x0), some (vr x1), some (vi x2), some (vr x3), some (vi x4), some (vi 0), none, none]) dX7_seek_86 (Nat.le_of_ble_eq_true rfl) rfl ?_
        refine rz_iconst dX7_seek_88 rfl (by decide) ?_
        refine rz_istore (ls' := [some (vo x0), some (vr x1), some (vi x2), some (vr x3), some (vi x4), some (vi 0), some (vi 0), none]) dX7_seek_89 (Nat.le_of_ble_eq_true rfl) rfl ?_
        exact hF
      · replace hF := ite_f hF c
        refine rz_iconst dX7_seek_81 rfl (by decide) ?_
        refine rz_goto (tgt := 86) dX7_seek_82 (by decide) ?_
        refine rz_istore (ls' := [some (vo x0), some (vr x1), some (vi x2), some (vr x3), some (vi x4), some (vi 1), none, none]) dX7_seek_86 (Nat.le_of_ble_eq_true rfl) rfl ?_
        refine rz_iconst dX7_seek_88 rfl (by decide) ?_
        refine rz_istore (ls' := [some (vo x0), some (vr x1), some (vi x2), some (vr x3), some (vi x4), some (vi 1), some (vi 0), none]) dX7_seek_89 (Nat.le_of_ble_eq_true rfl) rfl ?_
        exact hF
theorem vX7_seek {G : az_G} {d : Nat} {x0 : Nat} {x1 : Option Nat} {x2 : Int} {x3 : Option Nat} {h : az_H} {Q : Option az_V → az_H → Prop} (hF : rdO h x0 7 1 (fun o1 => rcv h o1 3 (cz G mX3_clear d 0 0 [vo o1] h (fun v h2 => atV v (rdO h2 x0 7 0 (fun o3 => rcv h2 o3 4 (cz G mX4_toStart d 0 0 [vo o3] h2 (fun v h4 => atV v (rdO h4 x0 7 1 (fun o5 => rdO h4 x0 7 0 (fun o6 => rdO h4 x0 7 1 (fun o7 => rdO h4 x0 7 0 (fun o8 => rcv h4 o7 3 (cz G mX3_slotFor d 0 0 [vo o7, vo o8] h4 (fun v h9 => atI v (fun r10 => rcv h9 o5 3 (cz G mX3_add d 0 0 [vo o5, vo o6, vi r10, vi ((-1)), vi ((-1))] h9 (fun v h11 => atV v (wrF h11 x0 7 5 (.int) (vi 1) (fun h12 => pX7_seek_46 G d x0 x1 x2 x3 0 h12 Q)))))))))))))))))))) : cz G mX7_seek (d + 1) 0 0 [vo x0, vr x1, vi x2, vr x3] h Q := by
  refine cz_of (ls := [some (vo x0), some (vr x1), some (vi x2), some (vr x3), none, none, none, none]) (by decide +kernel) (Nat.le_of_ble_eq_true rfl) rfl ?_
  refine rz_aload_n dX7_seek_0 rfl (show _ = some (some (vo x0)) from rfl) ?_
  replace hF := rdO_e hF
  obtain ⟨fs, o1, hg, hv, hF⟩ := hF
  refine rz_getf dX7_seek_1 fl_X7_12 hg hv ?_
  replace hF := rcv_e hF
  obtain ⟨fs, hg, hF⟩ := hF
  refine rz_callV (mc' := 0) (ms' := 0) (mc := 0) (ms := 0) (st := []) dX7_seek_4 cV_X7_76 rfl hg ⟨_, _, rfl⟩ rfl (Nat.le_of_ble_eq_true rfl) hF (fun v h2 hG => ?_)
  clear hF
  revert hG
  intro hF
  replace hF := atV_e hF
  obtain ⟨rfl, hF⟩ := hF
  refine rz_aload_n dX7_seek_7 rfl (show _ = some (some (vo x0)) from rfl) ?_
  replace hF := rdO_e hF
  obtain ⟨fs, o3, hg, hv, hF⟩ := hF
  refine rz_getf dX7_seek_8 fl_X7_28 hg hv ?_
  replace hF := rcv_e hF
  obtain ⟨fs, hg, hF⟩ := hF
  refine rz_callV (mc' := 0) (ms' := 0) (mc := 0) (ms := 0) (st := []) dX7_seek_11 cV_X7_39 rfl hg ⟨_, _, rfl⟩ rfl (Nat.le_of_ble_eq_true rfl) hF (fun v h4 hG => ?_)
  clear hF
  revert hG
  intro hF
  replace hF := atV_e hF
  obtain ⟨rfl, hF⟩ := hF
  refine rz_aload_n dX7_seek_14 rfl (show _ = some (some (vo x0)) from rfl) ?_
  replace hF := rdO_e hF
  obtain ⟨fs, o5, hg, hv, hF⟩ := hF
  refine rz_getf dX7_seek_15 fl_X7_12 hg hv ?_
  refine rz_aload_n dX7_seek_18 rfl (show _ = some (some (vo x0)) from rfl) ?_
  replace hF := rdO_e hF
  obtain ⟨fs, o6, hg, hv, hF⟩ := hF
  refine rz_getf dX7_seek_19 fl_X7_28 hg hv ?_
  refine rz_aload_n dX7_seek_22 rfl (show _ = some (some (vo x0)) from rfl) ?_
  replace hF := rdO_e hF
  obtain ⟨fs, o7, hg, hv, hF⟩ := hF
  refine rz_getf dX7_seek_23 fl_X7_12 hg hv ?_
  refine rz_aload_n dX7_seek_26 rfl (show _ = some (some (vo x0)) from rfl) ?_
  replace hF := rdO_e hF
  obtain ⟨fs, o8, hg, hv, hF⟩ := hF
  refine rz_getf dX7_seek_27 fl_X7_28 hg hv ?_
  replace hF := rcv_e hF
  obtain ⟨fs, hg, hF⟩ := hF
  refine rz_callV (mc' := 0) (ms' := 0) (mc := 0) (ms := 0) (st := [vo o6, vo o5]) dX7_seek_30 cV_X7_79 rfl hg ⟨_, _, rfl⟩ rfl (Nat.le_of_ble_eq_true rfl) hF (fun v h9 hG => ?_)
  clear hF
  revert hG
  intro hF
  replace hF := atI_e hF
  obtain ⟨r10, rfl, hF⟩ := hF
  refine rz_iconst dX7_seek_33 rfl (by decide) ?_
  refine rz_iconst dX7_seek_34 rfl (by decide) ?_
  replace hF := rcv_e hF
  obtain ⟨fs, hg, hF⟩ := hF
  refine rz_callV (mc' := 0) (ms' := 0) (mc := 0) (ms := 0) (st := []) dX7_seek_35 cV_X7_83 rfl hg ⟨_, _, rfl⟩ rfl (Nat.le_of_ble_eq_true rfl) hF (fun v h11 hG => ?_)
  clear hF
  revert hG
  intro hF
  replace hF := atV_e hF
  obtain ⟨rfl, hF⟩ := hF
  refine rz_aload_n dX7_seek_38 rfl (show _ = some (some (vo x0)) from rfl) ?_
  refine rz_iconst dX7_seek_39 rfl (by decide) ?_
  replace hF := wrF_e hF
  obtain ⟨fs, hg, hv, hF⟩ := hF
  refine rz_putf dX7_seek_40 fl_X7_36 (Or.inl rfl) hg hv ?_
  refine rz_iconst dX7_seek_43 rfl (by decide) ?_
  refine rz_istore (ls' := [some (vo x0), some (vr x1), some (vi x2), some (vr x3), some (vi 0), none, none, none]) dX7_seek_44 (Nat.le_of_ble_eq_true rfl) rfl ?_
  exact hF
theorem vX8_init {G : az_G} {d : Nat} {x0 : Nat} {h : az_H} {Q : Option az_V → az_H → Prop} (hF : nwO h (cA .byte (List.replicate 208 0)) (fun No1 Nh2 => wrF Nh2 x0 8 0 (.array (.byte)) (vo No1) (fun h3 => Q none h3))) : cz G mX8_init (d + 1) 1 208 [vo x0] h Q := by
  refine cz_of (ls := [some (vo x0)]) (by decide +kernel) (Nat.le_of_ble_eq_true rfl) rfl ?_
  refine rz_aload_n dX8_init_0 rfl (show _ = some (some (vo x0)) from rfl) ?_
  refine rz_obj dX8_init_1 k_106 k_99 k_100 (Nat.le_of_ble_eq_true rfl) ?_
  refine rz_aload_n dX8_init_4 rfl (show _ = some (some (vo x0)) from rfl) ?_
  refine rz_sipush (v := 208) dX8_init_5 (by decide) (by decide) ?_
  refine ez_wide (mc := 0 + 1) (ms := 0 + (208 : Int).toNat) (Nat.le_of_ble_eq_true rfl) (by decide +kernel) ?_
  refine rz_newa dX8_init_8 rfl (by decide) k_126 (by decide) (by decide) ?_
  replace hF := nwO_e hF
  replace hF := wrF_e hF
  obtain ⟨fs, hg, hv, hF⟩ := hF
  refine rz_putf dX8_init_10 fl_X8_11 (Or.inr rfl) hg hv ?_
  exact rz_vret dX8_init_13 trivial hF
def pX8_isPlain_3 (G : az_G) (d : Nat) (x0 : Int) (x1 : Int) (h : az_H) (Q : Option az_V → az_H → Prop) : Prop := ez G mX8_isPlain d 0 0 3 [some (vi x0), some (vi x1), none] [] h Q
theorem vX8_isPlain_3 {G : az_G} {d : Nat} {x0 : Int} {x1 : Int} {h : az_H} {Q : Option az_V → az_H → Prop} (hF : (if x1 < 0 then Q (some (vi 1)) h else (if bAnd (bUshr x0 x1) 255 < 32 then Q (some (vi 0)) h else (if bAnd (bUshr x0 x1) 255 ≤ 126 then pX8_isPlain_3 G d x0 (w32 (x1 + (-8))) h Q else Q (some (vi 0)) h)))) : pX8_isPlain_3 G d x0 x1 h Q := by
  unfold pX8_isPlain_3
  refine rz_iload_n dX8_isPlain_3 rfl (show _ = some (some (vi x1)) from rfl) ?_
  refine rz_if_lt (tgt := 35) dX8_isPlain_4 (by decide) (fun c => ?_) (fun c => ?_)
  · replace hF := ite_t hF c
    refine rz_iconst dX8_isPlain_35 rfl (by decide) ?_
    exact rz_iret dX8_isPlain_36 (Or.inr rfl) hF
  · replace hF := ite_f hF c
    refine rz_iload_n dX8_isPlain_7 rfl (show _ = some (some (vi x0)) from rfl) ?_
    refine rz_iload_n dX8_isPlain_8 rfl (show _ = some (some (vi x1)) from rfl) ?_
    refine rz_iushr dX8_isPlain_9 ?_
    refine rz_sipush (v := 255) dX8_isPlain_10 (by decide) (by decide) ?_
    refine rz_iand dX8_isPlain_13 ?_
    refine rz_istore_n (ls' := [some (vi x0), some (vi x1), some (vi (bAnd (bUshr x0 x1) 255))]) dX8_isPlain_14 rfl (Nat.le_of_ble_eq_true rfl) rfl ?_
    refine rz_iload_n dX8_isPlain_15 rfl (show _ = some (some (vi (bAnd (bUshr x0 x1) 255))) from rfl) ?_
    refine rz_bipush (v := 32) dX8_isPlain_16 (by decide) (by decide) ?_
    refine rz_icmp_lt (tgt := 27) dX8_isPlain_18 (by decide) (fun c => ?_) (fun c => ?_)
    · replace hF := ite_t hF c
      refine rz_iconst dX8_isPlain_27 rfl (by decide) ?_
      exact rz_iret dX8_isPlain_28 (Or.inl rfl) hF
    · replace hF := ite_f hF c
      refine rz_iload_n dX8_isPlain_21 rfl (show _ = some (some (vi (bAnd (bUshr x0 x1) 255))) from rfl) ?_
      refine rz_bipush (v := 126) dX8_isPlain_22 (by decide) (by decide) ?_
      refine rz_icmp_le (tgt := 29) dX8_isPlain_24 (by decide) (fun c => ?_) (fun c => ?_)
      · replace hF := ite_t hF c
        refine rz_iinc (ls' := [some (vi x0), some (vi (w32 (x1 + (-8)))), some (vi (bAnd (bUshr x0 x1) 255))]) dX8_isPlain_29 rfl (Nat.le_of_ble_eq_true rfl) rfl ?_
        refine rz_goto (tgt := 3) dX8_isPlain_32 (by decide) ?_
        refine ez_kp [true, true, false] rfl ?_
        exact hF
      · replace hF := ite_f hF c
        refine rz_iconst dX8_isPlain_27 rfl (by decide) ?_
        exact rz_iret dX8_isPlain_28 (Or.inl rfl) hF
theorem vX8_isPlain {G : az_G} {d : Nat} {x0 : Int} {h : az_H} {Q : Option az_V → az_H → Prop} (hF : pX8_isPlain_3 G d x0 24 h Q) : cz G mX8_isPlain d 0 0 [vi x0] h Q := by
  refine cz_of (ls := [some (vi x0), none, none]) (by decide +kernel) (Nat.le_of_ble_eq_true rfl) rfl ?_
  refine rz_bipush (v := 24) dX8_isPlain_0 (by decide) (by decide) ?_
  refine rz_istore_n (ls' := [some (vi x0), some (vi 24), none]) dX8_isPlain_2 rfl (Nat.le_of_ble_eq_true rfl) rfl ?_
  exact hF
theorem vX8_hasRoomFor {G : az_G} {d : Nat} {x0 : Nat} {x1 : Int} {h : az_H} {Q : Option az_V → az_H → Prop} (hF : rdI h x0 8 1 (fun f1 => (if 208 < w32 (f1 + x1) then Q (some (vi 0)) h else Q (some (vi 1)) h))) : cz G mX8_hasRoomFor d 0 0 [vo x0, vi x1] h Q := by
  refine cz_of (ls := [some (vo x0), some (vi x1)]) (by decide +kernel) (Nat.le_of_ble_eq_true rfl) rfl ?_
  refine rz_aload_n dX8_hasRoomFor_0 rfl (show _ = some (some (vo x0)) from rfl) ?_
  replace hF := rdI_e hF
  obtain ⟨fs, f1, hg, hv, hF⟩ := hF
  refine rz_getf dX8_hasRoomFor_1 fl_X8_15 hg hv ?_
  refine rz_iload_n dX8_hasRoomFor_4 rfl (show _ = some (some (vi x1)) from rfl) ?_
  refine rz_iadd dX8_hasRoomFor_5 ?_
  refine rz_sipush (v := 208) dX8_hasRoomFor_6 (by decide) (by decide) ?_
  refine rz_icmp_gt (tgt := 16) dX8_hasRoomFor_9 (by decide) (fun c => ?_) (fun c => ?_)
  · replace hF := ite_t hF c
    refine rz_iconst dX8_hasRoomFor_16 rfl (by decide) ?_
    exact rz_iret dX8_hasRoomFor_17 (Or.inl rfl) hF
  · replace hF := ite_f hF c
    refine rz_iconst dX8_hasRoomFor_12 rfl (by decide) ?_
    refine rz_goto (tgt := 17) dX8_hasRoomFor_13 (by decide) ?_
    exact rz_iret dX8_hasRoomFor_17 (Or.inr rfl) hF
def pX8_append_3 (G : az_G) (d : Nat) (x0 : Nat) (x1 : Int) (x2 : Int) (h : az_H) (Q : Option az_V → az_H → Prop) : Prop := ez G mX8_append d 0 0 3 [some (vo x0), some (vi x1), some (vi x2)] [] h Q
theorem vX8_append_3 {G : az_G} {d : Nat} {x0 : Nat} {x1 : Int} {x2 : Int} {h : az_H} {Q : Option az_V → az_H → Prop} (hF : (if x2 < 0 then Q none h else rdI h x0 8 1 (fun f1 => (if 208 ≤ f1 then Q none h else rdO h x0 8 0 (fun o2 => rdI h x0 8 1 (fun f3 => stI h o2 .byte f3 (w8 (w8 (bUshr x1 x2))) (fun h4 => rdI h4 x0 8 1 (fun f5 => wrF h4 x0 8 1 (.int) (vi (w32 (f5 + 1))) (fun h6 => pX8_append_3 G d x0 x1 (w32 (x2 + (-8))) h6 Q))))))))) : pX8_append_3 G d x0 x1 x2 h Q := by
  unfold pX8_append_3
  refine rz_iload_n dX8_append_3 rfl (show _ = some (some (vi x2)) from rfl) ?_
  refine rz_if_lt (tgt := 46) dX8_append_4 (by decide) (fun c => ?_) (fun c => ?_)
  · replace hF := ite_t hF c
    exact rz_vret dX8_append_46 trivial hF
  · replace hF := ite_f hF c
    refine rz_aload_n dX8_append_7 rfl (show _ = some (some (vo x0)) from rfl) ?_
    replace hF := rdI_e hF
    obtain ⟨fs, f1, hg, hv, hF⟩ := hF
    refine rz_getf dX8_append_8 fl_X8_15 hg hv ?_
    refine rz_sipush (v := 208) dX8_append_11 (by decide) (by decide) ?_
    refine rz_icmp_ge (tgt := 46) dX8_append_14 (by decide) (fun c => ?_) (fun c => ?_)
    · replace hF := ite_t hF c
      exact rz_vret dX8_append_46 trivial hF
    · replace hF := ite_f hF c
      refine rz_aload_n dX8_append_17 rfl (show _ = some (some (vo x0)) from rfl) ?_
      replace hF := rdO_e hF
      obtain ⟨fs, o2, hg, hv, hF⟩ := hF
      refine rz_getf dX8_append_18 fl_X8_11 hg hv ?_
      refine rz_aload_n dX8_append_21 rfl (show _ = some (some (vo x0)) from rfl) ?_
      replace hF := rdI_e hF
      obtain ⟨fs, f3, hg, hv, hF⟩ := hF
      refine rz_getf dX8_append_22 fl_X8_15 hg hv ?_
      refine rz_iload_n dX8_append_25 rfl (show _ = some (some (vi x1)) from rfl) ?_
      refine rz_iload_n dX8_append_26 rfl (show _ = some (some (vi x2)) from rfl) ?_
      refine rz_iushr dX8_append_27 ?_
      refine rz_i2b dX8_append_28 ?_
      replace hF := stI_e hF
      obtain ⟨xs, hg, h0, h1, hF⟩ := hF
      refine rz_bast dX8_append_29 hg h0 h1 ?_
      refine rz_aload_n dX8_append_30 rfl (show _ = some (some (vo x0)) from rfl) ?_
      refine rz_dup dX8_append_31 (by rintro ⟨_, q⟩; cases q) ?_
      replace hF := rdI_e hF
      obtain ⟨fs, f5, hg, hv, hF⟩ := hF
      refine rz_getf dX8_append_32 fl_X8_15 hg hv ?_
      refine rz_iconst dX8_append_35 rfl (by decide) ?_
      refine rz_iadd dX8_append_36 ?_
      replace hF := wrF_e hF
      obtain ⟨fs, hg, hv, hF⟩ := hF
      refine rz_putf dX8_append_37 fl_X8_15 (Or.inl rfl) hg hv ?_
      refine rz_iinc (ls' := [some (vo x0), some (vi x1), some (vi (w32 (x2 + (-8))))]) dX8_append_40 rfl (Nat.le_of_ble_eq_true rfl) rfl ?_
      refine rz_goto (tgt := 3) dX8_append_43 (by decide) ?_
      exact hF
theorem vX8_append {G : az_G} {d : Nat} {x0 : Nat} {x1 : Int} {h : az_H} {Q : Option az_V → az_H → Prop} (hF : pX8_append_3 G d x0 x1 24 h Q) : cz G mX8_append d 0 0 [vo x0, vi x1] h Q := by
  refine cz_of (ls := [some (vo x0), some (vi x1), none]) (by decide +kernel) (Nat.le_of_ble_eq_true rfl) rfl ?_
  refine rz_bipush (v := 24) dX8_append_0 (by decide) (by decide) ?_
  refine rz_istore_n (ls' := [some (vo x0), some (vi x1), some (vi 24)]) dX8_append_2 rfl (Nat.le_of_ble_eq_true rfl) rfl ?_
  exact hF
theorem vX8_drop {G : az_G} {d : Nat} {x0 : Nat} {x1 : Int} {h : az_H} {Q : Option az_V → az_H → Prop} (hF : rdI h x0 8 1 (fun f1 => cz G mJ9_max_7cf53 d 0 0 [vi 0, vi (w32 (f1 - x1))] h (fun v h2 => atI v (fun r3 => wrF h2 x0 8 1 (.int) (vi r3) (fun h4 => Q none h4))))) : cz G mX8_drop (d + 1) 0 0 [vo x0, vi x1] h Q := by
  refine cz_of (ls := [some (vo x0), some (vi x1)]) (by decide +kernel) (Nat.le_of_ble_eq_true rfl) rfl ?_
  refine rz_aload_n dX8_drop_0 rfl (show _ = some (some (vo x0)) from rfl) ?_
  refine rz_iconst dX8_drop_1 rfl (by decide) ?_
  refine rz_aload_n dX8_drop_2 rfl (show _ = some (some (vo x0)) from rfl) ?_
  replace hF := rdI_e hF
  obtain ⟨fs, f1, hg, hv, hF⟩ := hF
  refine rz_getf dX8_drop_3 fl_X8_15 hg hv ?_
  refine rz_iload_n dX8_drop_6 rfl (show _ = some (some (vi x1)) from rfl) ?_
  refine rz_isub dX8_drop_7 ?_
  refine rz_callS (mc' := 0) (ms' := 0) (mc := 0) (ms := 0) (st := [vo x0]) dX8_drop_8 cS_X8_19 rfl rfl (Nat.le_of_ble_eq_true rfl) hF (fun v h2 hG => ?_)
  clear hF
  revert hG
  intro hF
  replace hF := atI_e hF
  obtain ⟨r3, rfl, hF⟩ := hF
  replace hF := wrF_e hF
  obtain ⟨fs, hg, hv, hF⟩ := hF
  refine rz_putf dX8_drop_11 fl_X8_15 (Or.inl rfl) hg hv ?_
  exact rz_vret dX8_drop_14 trivial hF
theorem vX8_length {G : az_G} {d : Nat} {x0 : Nat} {h : az_H} {Q : Option az_V → az_H → Prop} (hF : rdI h x0 8 1 (fun f1 => Q (some (vi f1)) h)) : cz G mX8_length d 0 0 [vo x0] h Q := by
  refine cz_of (ls := [some (vo x0)]) (by decide +kernel) (Nat.le_of_ble_eq_true rfl) rfl ?_
  refine rz_aload_n dX8_length_0 rfl (show _ = some (some (vo x0)) from rfl) ?_
  replace hF := rdI_e hF
  obtain ⟨fs, f1, hg, hv, hF⟩ := hF
  refine rz_getf dX8_length_1 fl_X8_15 hg hv ?_
  exact rz_iret dX8_length_4 trivial hF
theorem vX8_place {G : az_G} {d : Nat} {x0 : Nat} {h : az_H} {Q : Option az_V → az_H → Prop} (hF : rdI h x0 8 2 (fun f1 => Q (some (vi f1)) h)) : cz G mX8_place d 0 0 [vo x0] h Q := by
  refine cz_of (ls := [some (vo x0)]) (by decide +kernel) (Nat.le_of_ble_eq_true rfl) rfl ?_
  refine rz_aload_n dX8_place_0 rfl (show _ = some (some (vo x0)) from rfl) ?_
  replace hF := rdI_e hF
  obtain ⟨fs, f1, hg, hv, hF⟩ := hF
  refine rz_getf dX8_place_1 fl_X8_25 hg hv ?_
  exact rz_iret dX8_place_4 trivial hF
theorem vX9_init {G : az_G} {d : Nat} {x0 : Nat} {h : az_H} {Q : Option az_V → az_H → Prop} (hF : nwO h (cR (.object "InvariantSearch$Code") (List.replicate 6 none)) (fun No1 Nh2 => wrF Nh2 x0 9 0 (.array (.object "InvariantSearch$Code")) (vo No1) (fun h3 => nwO h3 (cA .int (List.replicate 6 0)) (fun No4 Nh5 => wrF Nh5 x0 9 1 (.array (.int)) (vo No4) (fun h6 => nwO h6 (cA .int (List.replicate 4 0)) (fun No7 Nh8 => wrF Nh8 x0 9 2 (.array (.int)) (vo No7) (fun h9 => nwO h9 (cR (.object "InvariantSearch$Call") (List.replicate 4 none)) (fun No10 Nh11 => wrF Nh11 x0 9 3 (.array (.object "InvariantSearch$Call")) (vo No10) (fun h12 => Q none h12))))))))) : cz G mX9_init (d + 1) 4 20 [vo x0] h Q := by
  refine cz_of (ls := [some (vo x0)]) (by decide +kernel) (Nat.le_of_ble_eq_true rfl) rfl ?_
  refine rz_aload_n dX9_init_0 rfl (show _ = some (some (vo x0)) from rfl) ?_
  refine rz_obj dX9_init_1 k_161 k_99 k_100 (Nat.le_of_ble_eq_true rfl) ?_
  refine rz_aload_n dX9_init_4 rfl (show _ = some (some (vo x0)) from rfl) ?_
  refine rz_bipush (v := 6) dX9_init_5 (by decide) (by decide) ?_
  refine ez_wide (mc := 3 + 1) (ms := 14 + (6 : Int).toNat) (Nat.le_of_ble_eq_true rfl) (by decide +kernel) ?_
  refine rz_anew (C0 := "InvariantSearch$Code") dX9_init_7 (by decide) k_162 (by decide +kernel) (by decide) (by decide) ?_
  replace hF := nwO_e hF
  replace hF := wrF_e hF
  obtain ⟨fs, hg, hv, hF⟩ := hF
  refine rz_putf dX9_init_10 fl_X9_11 (Or.inr rfl) hg hv ?_
  refine rz_aload_n dX9_init_13 rfl (show _ = some (some (vo x0)) from rfl) ?_
  refine rz_bipush (v := 6) dX9_init_14 (by decide) (by decide) ?_
  refine ez_wide (mc := 2 + 1) (ms := 8 + (6 : Int).toNat) (Nat.le_of_ble_eq_true rfl) (by decide +kernel) ?_
  refine rz_newa dX9_init_16 rfl (by decide) k_155 (by decide) (by decide) ?_
  replace hF := nwO_e hF
  replace hF := wrF_e hF
  obtain ⟨fs, hg, hv, hF⟩ := hF
  refine rz_putf dX9_init_18 fl_X9_17 (Or.inr rfl) hg hv ?_
  refine rz_aload_n dX9_init_21 rfl (show _ = some (some (vo x0)) from rfl) ?_
  refine rz_iconst dX9_init_22 rfl (by decide) ?_
  refine ez_wide (mc := 1 + 1) (ms := 4 + (4 : Int).toNat) (Nat.le_of_ble_eq_true rfl) (by decide +kernel) ?_
  refine rz_newa dX9_init_23 rfl (by decide) k_155 (by decide) (by decide) ?_
  replace hF := nwO_e hF
  replace hF := wrF_e hF
  obtain ⟨fs, hg, hv, hF⟩ := hF
  refine rz_putf dX9_init_25 fl_X9_21 (Or.inr rfl) hg hv ?_
  refine rz_aload_n dX9_init_28 rfl (show _ = some (some (vo x0)) from rfl) ?_
  refine rz_iconst dX9_init_29 rfl (by decide) ?_
  refine ez_wide (mc := 0 + 1) (ms := 0 + (4 : Int).toNat) (Nat.le_of_ble_eq_true rfl) (by decide +kernel) ?_
  refine rz_anew (C0 := "InvariantSearch$Call") dX9_init_30 (by decide) k_164 (by decide +kernel) (by decide) (by decide) ?_
  replace hF := nwO_e hF
  replace hF := wrF_e hF
  obtain ⟨fs, hg, hv, hF⟩ := hF
  refine rz_putf dX9_init_33 fl_X9_26 (Or.inr rfl) hg hv ?_
  exact rz_vret dX9_init_36 trivial hF
theorem vX9_setMethod {G : az_G} {d : Nat} {x0 : Nat} {x1 : Int} {x2 : Option Nat} {h : az_H} {Q : Option az_V → az_H → Prop} (hF : (if x1 < 0 then Q none h else (if 6 ≤ x1 then Q none h else rdO h x0 9 0 (fun o1 => stR h o1 "InvariantSearch$Code" 1 x1 x2 (fun h2 => rdO h2 x0 9 1 (fun o3 => stI h2 o3 .int x1 0 (fun h4 => Q none h4))))))) : cz G mX9_setMethod d 0 0 [vo x0, vi x1, vr x2] h Q := by
  refine cz_of (ls := [some (vo x0), some (vi x1), some (vr x2)]) (by decide +kernel) (Nat.le_of_ble_eq_true rfl) rfl ?_
  refine rz_iload_n dX9_setMethod_0 rfl (show _ = some (some (vi x1)) from rfl) ?_
  refine rz_if_lt (tgt := 24) dX9_setMethod_1 (by decide) (fun c => ?_) (fun c => ?_)
  · replace hF := ite_t hF c
    exact rz_vret dX9_setMethod_24 trivial hF
  · replace hF := ite_f hF c
    refine rz_iload_n dX9_setMethod_4 rfl (show _ = some (some (vi x1)) from rfl) ?_
    refine rz_bipush (v := 6) dX9_setMethod_5 (by decide) (by decide) ?_
    refine rz_icmp_ge (tgt := 24) dX9_setMethod_7 (by decide) (fun c => ?_) (fun c => ?_)
    · replace hF := ite_t hF c
      exact rz_vret dX9_setMethod_24 trivial hF
    · replace hF := ite_f hF c
      refine rz_aload_n dX9_setMethod_10 rfl (show _ = some (some (vo x0)) from rfl) ?_
      replace hF := rdO_e hF
      obtain ⟨fs, o1, hg, hv, hF⟩ := hF
      refine rz_getf dX9_setMethod_11 fl_X9_11 hg hv ?_
      refine rz_iload_n dX9_setMethod_14 rfl (show _ = some (some (vi x1)) from rfl) ?_
      refine rz_aload_n dX9_setMethod_15 rfl (show _ = some (some (vr x2)) from rfl) ?_
      replace hF := stR_e hF
      obtain ⟨xs, hg, hb, h0, h1, hF⟩ := hF
      refine rz_aast (ci := 1) dX9_setMethod_16 hg (by decide) rfl hb h0 h1 ?_
      refine rz_aload_n dX9_setMethod_17 rfl (show _ = some (some (vo x0)) from rfl) ?_
      replace hF := rdO_e hF
      obtain ⟨fs, o3, hg, hv, hF⟩ := hF
      refine rz_getf dX9_setMethod_18 fl_X9_17 hg hv ?_
      refine rz_iload_n dX9_setMethod_21 rfl (show _ = some (some (vi x1)) from rfl) ?_
      refine rz_iconst dX9_setMethod_22 rfl (by decide) ?_
      replace hF := stI_e hF
      obtain ⟨xs, hg, h0, h1, hF⟩ := hF
      refine rz_iast dX9_setMethod_23 hg h0 h1 ?_
      exact rz_vret dX9_setMethod_24 trivial hF
theorem vX9_leavesOf {G : az_G} {d : Nat} {x0 : Nat} {x1 : Int} {h : az_H} {Q : Option az_V → az_H → Prop} (hF : rcv h x0 9 (cz G mX9_codeOf d 0 0 [vo x0, vi x1] h (fun v h1 => atR v (fun r2 => (match r2 with | none => Q (some (vi 0)) h1 | some b3 => rdI h1 b3 1 1 (fun f4 => Q (some (vi f4)) h1)))))) : cz G mX9_leavesOf (d + 1) 0 0 [vo x0, vi x1] h Q := by
  refine cz_of (ls := [some (vo x0), some (vi x1), none]) (by decide +kernel) (Nat.le_of_ble_eq_true rfl) rfl ?_
  refine rz_aload_n dX9_leavesOf_0 rfl (show _ = some (some (vo x0)) from rfl) ?_
  refine rz_iload_n dX9_leavesOf_1 rfl (show _ = some (some (vi x1)) from rfl) ?_
  replace hF := rcv_e hF
  obtain ⟨fs, hg, hF⟩ := hF
  refine rz_callV (mc' := 0) (ms' := 0) (mc := 0) (ms := 0) (st := []) dX9_leavesOf_2 cV_X9_30 rfl hg ⟨_, _, rfl⟩ rfl (Nat.le_of_ble_eq_true rfl) hF (fun v h1 hG => ?_)
  clear hF
  revert hG
  intro hF
  replace hF := atR_e hF
  obtain ⟨r2, rfl, hF⟩ := hF
  refine rz_astore_n (ls' := [some (vo x0), some (vi x1), some (vr r2)]) dX9_leavesOf_5 rfl (Nat.le_of_ble_eq_true rfl) rfl ?_
  refine rz_aload_n dX9_leavesOf_6 rfl (show _ = some (some (vr r2)) from rfl) ?_
  cases r2 with
  | none =>
    refine rz_ifnonnull (tgt := 14) dX9_leavesOf_7 (by decide) (fun c => absurd rfl c) (fun c => ?_)
    refine rz_iconst dX9_leavesOf_10 rfl (by decide) ?_
    refine rz_goto (tgt := 18) dX9_leavesOf_11 (by decide) ?_
    exact rz_iret dX9_leavesOf_18 trivial hF
  | some b3 =>
    refine rz_ifnonnull (tgt := 14) dX9_leavesOf_7 (by decide) (fun c => ?_) (fun c => absurd c (by simp))
    refine rz_aload_n dX9_leavesOf_14 rfl (show _ = some (some (vo b3)) from rfl) ?_
    replace hF := rdI_e hF
    obtain ⟨fs, f4, hg, hv, hF⟩ := hF
    refine rz_getg dX9_leavesOf_15 fr_X9_34 hg hv ?_
    exact rz_iret dX9_leavesOf_18 trivial hF
theorem vX9_setActor {G : az_G} {d : Nat} {x0 : Nat} {x1 : Int} {x2 : Int} {x3 : Option Nat} {h : az_H} {Q : Option az_V → az_H → Prop} (hF : (if x1 < 0 then Q none h else (if 4 ≤ x1 then Q none h else rdO h x0 9 2 (fun o1 => stI h o1 .int x1 x2 (fun h2 => rdO h2 x0 9 3 (fun o3 => stR h2 o3 "InvariantSearch$Call" 0 x1 x3 (fun h4 => Q none h4))))))) : cz G mX9_setActor d 0 0 [vo x0, vi x1, vi x2, vr x3] h Q := by
  refine cz_of (ls := [some (vo x0), some (vi x1), some (vi x2), some (vr x3)]) (by decide +kernel) (Nat.le_of_ble_eq_true rfl) rfl ?_
  refine rz_iload_n dX9_setActor_0 rfl (show _ = some (some (vi x1)) from rfl) ?_
  refine rz_if_lt (tgt := 23) dX9_setActor_1 (by decide) (fun c => ?_) (fun c => ?_)
  · replace hF := ite_t hF c
    exact rz_vret dX9_setActor_23 trivial hF
  · replace hF := ite_f hF c
    refine rz_iload_n dX9_setActor_4 rfl (show _ = some (some (vi x1)) from rfl) ?_
    refine rz_iconst dX9_setActor_5 rfl (by decide) ?_
    refine rz_icmp_ge (tgt := 23) dX9_setActor_6 (by decide) (fun c => ?_) (fun c => ?_)
    · replace hF := ite_t hF c
      exact rz_vret dX9_setActor_23 trivial hF
    · replace hF := ite_f hF c
      refine rz_aload_n dX9_setActor_9 rfl (show _ = some (some (vo x0)) from rfl) ?_
      replace hF := rdO_e hF
      obtain ⟨fs, o1, hg, hv, hF⟩ := hF
      refine rz_getf dX9_setActor_10 fl_X9_21 hg hv ?_
      refine rz_iload_n dX9_setActor_13 rfl (show _ = some (some (vi x1)) from rfl) ?_
      refine rz_iload_n dX9_setActor_14 rfl (show _ = some (some (vi x2)) from rfl) ?_
      replace hF := stI_e hF
      obtain ⟨xs, hg, h0, h1, hF⟩ := hF
      refine rz_iast dX9_setActor_15 hg h0 h1 ?_
      refine rz_aload_n dX9_setActor_16 rfl (show _ = some (some (vo x0)) from rfl) ?_
      replace hF := rdO_e hF
      obtain ⟨fs, o3, hg, hv, hF⟩ := hF
      refine rz_getf dX9_setActor_17 fl_X9_26 hg hv ?_
      refine rz_iload_n dX9_setActor_20 rfl (show _ = some (some (vi x1)) from rfl) ?_
      refine rz_aload_n dX9_setActor_21 rfl (show _ = some (some (vr x3)) from rfl) ?_
      replace hF := stR_e hF
      obtain ⟨xs, hg, hb, h0, h1, hF⟩ := hF
      refine rz_aast (ci := 0) dX9_setActor_22 hg (by decide) rfl hb h0 h1 ?_
      exact rz_vret dX9_setActor_23 trivial hF
theorem vX10_init {G : az_G} {d : Nat} {x0 : Nat} {h : az_H} {Q : Option az_V → az_H → Prop} (hF : nwO h (cO 8 [vn, vi 0, vi 0, vi 0, vi 0, vi 0]) (fun No1 Nh2 => cz G mX8_init d 1 208 [vo No1] Nh2 (fun v h3 => atV v (wrF h3 x0 10 0 (.object "InvariantSearch$Text") (vo No1) (fun h4 => nwO h4 (cO 5 [vn, vn, vn, vi 0, vi 0, vi 0, vi 0]) (fun No5 Nh6 => rdO Nh6 x0 10 0 (fun o7 => cz G mX5_init d 2 416 [vo No5, vo o7] Nh6 (fun v h8 => atV v (wrF h8 x0 10 1 (.object "InvariantSearch$Parser") (vo No5) (fun h9 => nwO h9 (cO 9 [vn, vn, vn, vn, vi 0, vi 0]) (fun No10 Nh11 => cz G mX9_init d 4 20 [vo No10] Nh11 (fun v h12 => atV v (wrF h12 x0 10 2 (.object "InvariantSearch$World") (vo No10) (fun h13 => nwO h13 (cO 4 [vn, vn, vn, vn, vn, vi 0]) (fun No14 Nh15 => rdO Nh15 x0 10 2 (fun o16 => cz G mX4_init d 7 115 [vo No14, vo o16] Nh15 (fun v h17 => atV v (wrF h17 x0 10 3 (.object "InvariantSearch$Machine") (vo No14) (fun h18 => nwO h18 (cO 7 [vn, vn, vn, vn, vi 0, vi 0]) (fun No19 Nh20 => rdO Nh20 x0 10 3 (fun o21 => cz G mX7_init d 8 9872 [vo No19, vo o21] Nh20 (fun v h22 => atV v (wrF h22 x0 10 4 (.object "InvariantSearch$Runner") (vo No19) (fun h23 => nwO h23 (cO 2 [vn, vn, vn, vi 0]) (fun No24 Nh25 => rdO Nh25 x0 10 4 (fun o26 => rdO Nh25 x0 10 2 (fun o27 => cz G mX2_init d 3 484 [vo No24, vo o26, vo o27] Nh25 (fun v h28 => atV v (wrF h28 x0 10 5 (.object "InvariantSearch$Drawer") (vo No24) (fun h29 => nwO h29 (cO 6 [vi 0, vn, vn, vi 0]) (fun No30 Nh31 => cz G mX6_init d 2 480 [vo No30, vi 20] Nh31 (fun v h32 => atV v (wrF h32 x0 10 6 (.object "InvariantSearch$Rows") (vo No30) (fun h33 => nwO h33 (cR (.object "InvariantSearch$Code") (List.replicate 8 none)) (fun No34 Nh35 => wrF Nh35 x0 10 7 (.array (.object "InvariantSearch$Code")) (vo No34) (fun h36 => nwO h36 (cA .int (List.replicate 12 0)) (fun No37 Nh38 => wrF Nh38 x0 10 8 (.array (.int)) (vo No37) (fun h39 => nwO h39 (cA .int (List.replicate 19 0)) (fun No40 Nh41 => wrF Nh41 x0 10 9 (.array (.int)) (vo No40) (fun h42 => wrF h42 x0 10 10 (.int) (vi 0) (fun h43 => wrF h43 x0 10 11 (.int) (vi 0) (fun h44 => Q none h44)))))))))))))))))))))))))))))))))))))))))) : cz G mX10_init (d + 1) 37 11673 [vo x0] h Q := by
  refine cz_of (ls := [some (vo x0)]) (by decide +kernel) (Nat.le_of_ble_eq_true rfl) rfl ?_
  refine rz_aload_n dX10_init_0 rfl (show _ = some (some (vo x0)) from rfl) ?_
  refine rz_obj dX10_init_1 k_98 k_99 k_100 (Nat.le_of_ble_eq_true rfl) ?_
  refine rz_aload_n dX10_init_4 rfl (show _ = some (some (vo x0)) from rfl) ?_
  refine ez_wide (mc := 36 + 1) (ms := 11667 + 6) (Nat.le_of_ble_eq_true rfl) (Nat.le_of_ble_eq_true rfl) ?_
  refine rz_new (fs := [vn, vi 0, vi 0, vi 0, vi 0, vi 0]) dX10_init_5 nw_X10_7 ?_
  replace hF := nwO_e hF
  refine rz_dup dX10_init_8 (by rintro ⟨_, q⟩; cases q) ?_
  refine rz_callN (mc' := 1) (ms' := 208) (mc := 35) (ms := 11459) (st := [vo _, vo x0]) dX10_init_9 cN_X10_9 rfl rfl (Nat.le_of_ble_eq_true rfl) hF (fun v h3 hG => ?_)
  clear hF
  revert hG
  intro hF
  replace hF := atV_e hF
  obtain ⟨rfl, hF⟩ := hF
  replace hF := wrF_e hF
  obtain ⟨fs, hg, hv, hF⟩ := hF
  refine rz_putf dX10_init_12 fl_X10_10 (Or.inr rfl) hg hv ?_
  refine rz_aload_n dX10_init_15 rfl (show _ = some (some (vo x0)) from rfl) ?_
  refine ez_wide (mc := 34 + 1) (ms := 11452 + 7) (Nat.le_of_ble_eq_true rfl) (Nat.le_of_ble_eq_true rfl) ?_
  refine rz_new (fs := [vn, vn, vn, vi 0, vi 0, vi 0, vi 0]) dX10_init_16 nw_X10_16 ?_
  replace hF := nwO_e hF
  refine rz_dup dX10_init_19 (by rintro ⟨_, q⟩; cases q) ?_
  refine rz_aload_n dX10_init_20 rfl (show _ = some (some (vo x0)) from rfl) ?_
  replace hF := rdO_e hF
  obtain ⟨fs, o7, hg, hv, hF⟩ := hF
  refine rz_getf dX10_init_21 fl_X10_10 hg hv ?_
  refine rz_callI (mc' := 2) (ms' := 416) (mc := 32) (ms := 11036) (st := [vo _, vo x0]) dX10_init_24 cI_X10_18 rfl rfl (Nat.le_of_ble_eq_true rfl) hF (fun v h8 hG => ?_)
  clear hF
  revert hG
  intro hF
  replace hF := atV_e hF
  obtain ⟨rfl, hF⟩ := hF
  replace hF := wrF_e hF
  obtain ⟨fs, hg, hv, hF⟩ := hF
  refine rz_putf dX10_init_27 fl_X10_21 (Or.inr rfl) hg hv ?_
  refine rz_aload_n dX10_init_30 rfl (show _ = some (some (vo x0)) from rfl) ?_
  refine ez_wide (mc := 31 + 1) (ms := 11030 + 6) (Nat.le_of_ble_eq_true rfl) (Nat.le_of_ble_eq_true rfl) ?_
  refine rz_new (fs := [vn, vn, vn, vn, vi 0, vi 0]) dX10_init_31 nw_X10_25 ?_
  replace hF := nwO_e hF
  refine rz_dup dX10_init_34 (by rintro ⟨_, q⟩; cases q) ?_
  refine rz_callN (mc' := 4) (ms' := 20) (mc := 27) (ms := 11010) (st := [vo _, vo x0]) dX10_init_35 cN_X10_27 rfl rfl (Nat.le_of_ble_eq_true rfl) hF (fun v h12 hG => ?_)
  clear hF
  revert hG
  intro hF
  replace hF := atV_e hF
  obtain ⟨rfl, hF⟩ := hF
  replace hF := wrF_e hF
  obtain ⟨fs, hg, hv, hF⟩ := hF
  refine rz_putf dX10_init_38 fl_X10_28 (Or.inr rfl) hg hv ?_
  refine rz_aload_n dX10_init_41 rfl (show _ = some (some (vo x0)) from rfl) ?_
  refine ez_wide (mc := 26 + 1) (ms := 11004 + 6) (Nat.le_of_ble_eq_true rfl) (Nat.le_of_ble_eq_true rfl) ?_
  refine rz_new (fs := [vn, vn, vn, vn, vn, vi 0]) dX10_init_42 nw_X10_32 ?_
  replace hF := nwO_e hF
  refine rz_dup dX10_init_45 (by rintro ⟨_, q⟩; cases q) ?_
  refine rz_aload_n dX10_init_46 rfl (show _ = some (some (vo x0)) from rfl) ?_
  replace hF := rdO_e hF
  obtain ⟨fs, o16, hg, hv, hF⟩ := hF
  refine rz_getf dX10_init_47 fl_X10_28 hg hv ?_
  refine rz_callI (mc' := 7) (ms' := 115) (mc := 19) (ms := 10889) (st := [vo _, vo x0]) dX10_init_50 cI_X10_34 rfl rfl (Nat.le_of_ble_eq_true rfl) hF (fun v h17 hG => ?_)
  clear hF
  revert hG
  intro hF
  replace hF := atV_e hF
  obtain ⟨rfl, hF⟩ := hF
  replace hF := wrF_e hF
  obtain ⟨fs, hg, hv, hF⟩ := hF
  refine rz_putf dX10_init_53 fl_X10_37 (Or.inr rfl) hg hv ?_
  refine rz_aload_n dX10_init_56 rfl (show _ = some (some (vo x0)) from rfl) ?_
  refine ez_wide (mc := 18 + 1) (ms := 10883 + 6) (Nat.le_of_ble_eq_true rfl) (Nat.le_of_ble_eq_true rfl) ?_
  refine rz_new (fs := [vn, vn, vn, vn, vi 0, vi 0]) dX10_init_57 nw_X10_41 ?_
  replace hF := nwO_e hF
  refine rz_dup dX10_init_60 (by rintro ⟨_, q⟩; cases q) ?_
  refine rz_aload_n dX10_init_61 rfl (show _ = some (some (vo x0)) from rfl) ?_
  replace hF := rdO_e hF
  obtain ⟨fs, o21, hg, hv, hF⟩ := hF
  refine rz_getf dX10_init_62 fl_X10_37 hg hv ?_
  refine rz_callI (mc' := 8) (ms' := 9872) (mc := 10) (ms := 1011) (st := [vo _, vo x0]) dX10_init_65 cI_X10_43 rfl rfl (Nat.le_of_ble_eq_true rfl) hF (fun v h22 hG => ?_)
  clear hF
  revert hG
  intro hF
  replace hF := atV_e hF
  obtain ⟨rfl, hF⟩ := hF
  replace hF := wrF_e hF
  obtain ⟨fs, hg, hv, hF⟩ := hF
  refine rz_putf dX10_init_68 fl_X10_46 (Or.inr rfl) hg hv ?_
  refine rz_aload_n dX10_init_71 rfl (show _ = some (some (vo x0)) from rfl) ?_
  refine ez_wide (mc := 9 + 1) (ms := 1007 + 4) (Nat.le_of_ble_eq_true rfl) (Nat.le_of_ble_eq_true rfl) ?_
  refine rz_new (fs := [vn, vn, vn, vi 0]) dX10_init_72 nw_X10_50 ?_
  replace hF := nwO_e hF
  refine rz_dup dX10_init_75 (by rintro ⟨_, q⟩; cases q) ?_
  refine rz_aload_n dX10_init_76 rfl (show _ = some (some (vo x0)) from rfl) ?_
  replace hF := rdO_e hF
  obtain ⟨fs, o26, hg, hv, hF⟩ := hF
  refine rz_getf dX10_init_77 fl_X10_46 hg hv ?_
  refine rz_aload_n dX10_init_80 rfl (show _ = some (some (vo x0)) from rfl) ?_
  replace hF := rdO_e hF
  obtain ⟨fs, o27, hg, hv, hF⟩ := hF
  refine rz_getf dX10_init_81 fl_X10_28 hg hv ?_
  refine rz_callI (mc' := 3) (ms' := 484) (mc := 6) (ms := 523) (st := [vo _, vo x0]) dX10_init_84 cI_X10_52 rfl rfl (Nat.le_of_ble_eq_true rfl) hF (fun v h28 hG => ?_)
  clear hF
  revert hG
  intro hF
  replace hF := atV_e hF
  obtain ⟨rfl, hF⟩ := hF
  replace hF := wrF_e hF
  obtain ⟨fs, hg, hv, hF⟩ := hF
  refine rz_putf dX10_init_87 fl_X10_55 (Or.inr rfl) hg hv ?_
  refine rz_aload_n dX10_init_90 rfl (show _ = some (some (vo x0)) from rfl) ?_
  refine ez_wide (mc := 5 + 1) (ms := 519 + 4) (Nat.le_of_ble_eq_true rfl) (Nat.le_of_ble_eq_true rfl) ?_
  refine rz_new (fs := [vi 0, vn, vn, vi 0]) dX10_init_91 nw_X10_59 ?_
  replace hF := nwO_e hF
  refine rz_dup dX10_init_94 (by rintro ⟨_, q⟩; cases q) ?_
  refine rz_bipush (v := 20) dX10_init_95 (by decide) (by decide) ?_
  refine rz_callI (mc' := 2) (ms' := 480) (mc := 3) (ms := 39) (st := [vo _, vo x0]) dX10_init_97 cI_X10_61 rfl rfl (Nat.le_of_ble_eq_true rfl) hF (fun v h32 hG => ?_)
  clear hF
  revert hG
  intro hF
  replace hF := atV_e hF
  obtain ⟨rfl, hF⟩ := hF
  replace hF := wrF_e hF
  obtain ⟨fs, hg, hv, hF⟩ := hF
  refine rz_putf dX10_init_100 fl_X10_64 (Or.inr rfl) hg hv ?_
  refine rz_aload_n dX10_init_103 rfl (show _ = some (some (vo x0)) from rfl) ?_
  refine rz_bipush (v := 8) dX10_init_104 (by decide) (by decide) ?_
  refine ez_wide (mc := 2 + 1) (ms := 31 + (8 : Int).toNat) (Nat.le_of_ble_eq_true rfl) (by decide +kernel) ?_
  refine rz_anew (C0 := "InvariantSearch$Code") dX10_init_106 (by decide) k_330 (by decide +kernel) (by decide) (by decide) ?_
  replace hF := nwO_e hF
  replace hF := wrF_e hF
  obtain ⟨fs, hg, hv, hF⟩ := hF
  refine rz_putf dX10_init_109 fl_X10_70 (Or.inr rfl) hg hv ?_
  refine rz_aload_n dX10_init_112 rfl (show _ = some (some (vo x0)) from rfl) ?_
  refine rz_bipush (v := 12) dX10_init_113 (by decide) (by decide) ?_
  refine ez_wide (mc := 1 + 1) (ms := 19 + (12 : Int).toNat) (Nat.le_of_ble_eq_true rfl) (by decide +kernel) ?_
  refine rz_newa dX10_init_115 rfl (by decide) k_155 (by decide) (by decide) ?_
  replace hF := nwO_e hF
  replace hF := wrF_e hF
  obtain ⟨fs, hg, hv, hF⟩ := hF
  refine rz_putf dX10_init_117 fl_X10_74 (Or.inr rfl) hg hv ?_
  refine rz_aload_n dX10_init_120 rfl (show _ = some (some (vo x0)) from rfl) ?_
  refine rz_bipush (v := 19) dX10_init_121 (by decide) (by decide) ?_
  refine ez_wide (mc := 0 + 1) (ms := 0 + (19 : Int).toNat) (Nat.le_of_ble_eq_true rfl) (by decide +kernel) ?_
  refine rz_newa dX10_init_123 rfl (by decide) k_155 (by decide) (by decide) ?_
  replace hF := nwO_e hF
  replace hF := wrF_e hF
  obtain ⟨fs, hg, hv, hF⟩ := hF
  refine rz_putf dX10_init_125 fl_X10_78 (Or.inr rfl) hg hv ?_
  refine rz_aload_n dX10_init_128 rfl (show _ = some (some (vo x0)) from rfl) ?_
  refine rz_iconst dX10_init_129 rfl (by decide) ?_
  replace hF := wrF_e hF
  obtain ⟨fs, hg, hv, hF⟩ := hF
  refine rz_putf dX10_init_130 fl_X10_81 (Or.inl rfl) hg hv ?_
  refine rz_aload_n dX10_init_133 rfl (show _ = some (some (vo x0)) from rfl) ?_
  refine rz_iconst dX10_init_134 rfl (by decide) ?_
  replace hF := wrF_e hF
  obtain ⟨fs, hg, hv, hF⟩ := hF
  refine rz_putf dX10_init_135 fl_X10_85 (Or.inl rfl) hg hv ?_
  exact rz_vret dX10_init_138 trivial hF
theorem vX10_feed {G : az_G} {d : Nat} {x0 : Nat} {x1 : Int} {x2 : Int} {x3 : Int} {x4 : Int} {h : az_H} {Q : Option az_V → az_H → Prop} (hF : cz G mX8_isPlain d 0 0 [vi x1] h (fun v h1 => atI v (fun r2 => (if r2 = 0 then Q (some (vi ((-1)))) h1 else cz G mX8_isPlain d 0 0 [vi x2] h1 (fun v h3 => atI v (fun r4 => (if r4 = 0 then Q (some (vi ((-1)))) h3 else cz G mX8_isPlain d 0 0 [vi x3] h3 (fun v h5 => atI v (fun r6 => (if r6 = 0 then Q (some (vi ((-1)))) h5 else cz G mX8_isPlain d 0 0 [vi x4] h5 (fun v h7 => atI v (fun r8 => (if r8 = 0 then Q (some (vi ((-1)))) h7 else rdO h7 x0 10 0 (fun o9 => rcv h7 o9 8 (cz G mX8_hasRoomFor d 0 0 [vo o9, vi 16] h7 (fun v h10 => atI v (fun r11 => (if r11 = 0 then Q (some (vi ((-3)))) h10 else rdO h10 x0 10 0 (fun o12 => rcv h10 o12 8 (cz G mX8_append d 0 0 [vo o12, vi x1] h10 (fun v h13 => atV v (rdO h13 x0 10 0 (fun o14 => rcv h13 o14 8 (cz G mX8_append d 0 0 [vo o14, vi x2] h13 (fun v h15 => atV v (rdO h15 x0 10 0 (fun o16 => rcv h15 o16 8 (cz G mX8_append d 0 0 [vo o16, vi x3] h15 (fun v h17 => atV v (rdO h17 x0 10 0 (fun o18 => rcv h17 o18 8 (cz G mX8_append d 0 0 [vo o18, vi x4] h17 (fun v h19 => atV v (rdO h19 x0 10 0 (fun o20 => rcv h19 o20 8 (cz G mX8_length d 0 0 [vo o20] h19 (fun v h21 => atI v (fun r22 => Q (some (vi r22)) h21)))))))))))))))))))))))))))))))))))))) : cz G mX10_feed (d + 1) 0 0 [vo x0, vi x1, vi x2, vi x3, vi x4] h Q := by
  refine cz_of (ls := [some (vo x0), some (vi x1), some (vi x2), some (vi x3), some (vi x4)]) (by decide +kernel) (Nat.le_of_ble_eq_true rfl) rfl ?_
  refine rz_iload_n dX10_feed_0 rfl (show _ = some (some (vi x1)) from rfl) ?_
  refine rz_callS (mc' := 0) (ms' := 0) (mc := 0) (ms := 0) (st := []) dX10_feed_1 cS_X10_88 rfl rfl (Nat.le_of_ble_eq_true rfl) hF (fun v h1 hG => ?_)
  clear hF
  revert hG
  intro hF
  replace hF := atI_e hF
  obtain ⟨r2, rfl, hF⟩ := hF
  refine rz_if_eq (tgt := 29) dX10_feed_4 (by decide) (fun c => ?_) (fun c => ?_)
  · replace hF := ite_t hF c
    refine rz_iconst dX10_feed_29 rfl (by decide) ?_
    exact rz_iret dX10_feed_30 trivial hF
  · replace hF := ite_f hF c
    refine rz_iload_n dX10_feed_7 rfl (show _ = some (some (vi x2)) from rfl) ?_
    refine rz_callS (mc' := 0) (ms' := 0) (mc := 0) (ms := 0) (st := []) dX10_feed_8 cS_X10_88 rfl rfl (Nat.le_of_ble_eq_true rfl) hF (fun v h3 hG => ?_)
    clear hF
    revert hG
    intro hF
    replace hF := atI_e hF
    obtain ⟨r4, rfl, hF⟩ := hF
    refine rz_if_eq (tgt := 29) dX10_feed_11 (by decide) (fun c => ?_) (fun c => ?_)
    · replace hF := ite_t hF c
      refine rz_iconst dX10_feed_29 rfl (by decide) ?_
      exact rz_iret dX10_feed_30 trivial hF
    · replace hF := ite_f hF c
      refine rz_iload_n dX10_feed_14 rfl (show _ = some (some (vi x3)) from rfl) ?_
      refine rz_callS (mc' := 0) (ms' := 0) (mc := 0) (ms := 0) (st := []) dX10_feed_15 cS_X10_88 rfl rfl (Nat.le_of_ble_eq_true rfl) hF (fun v h5 hG => ?_)
      clear hF
      revert hG
      intro hF
      replace hF := atI_e hF
      obtain ⟨r6, rfl, hF⟩ := hF
      refine rz_if_eq (tgt := 29) dX10_feed_18 (by decide) (fun c => ?_) (fun c => ?_)
      · replace hF := ite_t hF c
        refine rz_iconst dX10_feed_29 rfl (by decide) ?_
        exact rz_iret dX10_feed_30 trivial hF
      · replace hF := ite_f hF c
        refine rz_iload dX10_feed_21 (show _ = some (some (vi x4)) from rfl) ?_
        refine rz_callS (mc' := 0) (ms' := 0) (mc := 0) (ms := 0) (st := []) dX10_feed_23 cS_X10_88 rfl rfl (Nat.le_of_ble_eq_true rfl) hF (fun v h7 hG => ?_)
        clear hF
        revert hG
        intro hF
        replace hF := atI_e hF
        obtain ⟨r8, rfl, hF⟩ := hF
        refine rz_if_ne (tgt := 31) dX10_feed_26 (by decide) (fun c => ?_) (fun c => ?_)
        · replace hF := ite_f hF c
          refine rz_aload_n dX10_feed_31 rfl (show _ = some (some (vo x0)) from rfl) ?_
          replace hF := rdO_e hF
          obtain ⟨fs, o9, hg, hv, hF⟩ := hF
          refine rz_getf dX10_feed_32 fl_X10_10 hg hv ?_
          refine rz_bipush (v := 16) dX10_feed_35 (by decide) (by decide) ?_
          replace hF := rcv_e hF
          obtain ⟨fs, hg, hF⟩ := hF
          refine rz_callV (mc' := 0) (ms' := 0) (mc := 0) (ms := 0) (st := []) dX10_feed_37 cV_X10_92 rfl hg ⟨_, _, rfl⟩ rfl (Nat.le_of_ble_eq_true rfl) hF (fun v h10 hG => ?_)
          clear hF
          revert hG
          intro hF
          replace hF := atI_e hF
          obtain ⟨r11, rfl, hF⟩ := hF
          refine rz_if_ne (tgt := 46) dX10_feed_40 (by decide) (fun c => ?_) (fun c => ?_)
          · replace hF := ite_f hF c
            refine rz_aload_n dX10_feed_46 rfl (show _ = some (some (vo x0)) from rfl) ?_
            replace hF := rdO_e hF
            obtain ⟨fs, o12, hg, hv, hF⟩ := hF
            refine rz_getf dX10_feed_47 fl_X10_10 hg hv ?_
            refine rz_iload_n dX10_feed_50 rfl (show _ = some (some (vi x1)) from rfl) ?_
            replace hF := rcv_e hF
            obtain ⟨fs, hg, hF⟩ := hF
            refine rz_callV (mc' := 0) (ms' := 0) (mc := 0) (ms := 0) (st := []) dX10_feed_51 cV_X10_95 rfl hg ⟨_, _, rfl⟩ rfl (Nat.le_of_ble_eq_true rfl) hF (fun v h13 hG => ?_)
            clear hF
            revert hG
            intro hF
            replace hF := atV_e hF
            obtain ⟨rfl, hF⟩ := hF
            refine rz_aload_n dX10_feed_54 rfl (show _ = some (some (vo x0)) from rfl) ?_
            replace hF := rdO_e hF
            obtain ⟨fs, o14, hg, hv, hF⟩ := hF
            refine rz_getf dX10_feed_55 fl_X10_10 hg hv ?_
            refine rz_iload_n dX10_feed_58 rfl (show _ = some (some (vi x2)) from rfl) ?_
            replace hF := rcv_e hF
            obtain ⟨fs, hg, hF⟩ := hF
            refine rz_callV (mc' := 0) (ms' := 0) (mc := 0) (ms := 0) (st := []) dX10_feed_59 cV_X10_95 rfl hg ⟨_, _, rfl⟩ rfl (Nat.le_of_ble_eq_true rfl) hF (fun v h15 hG => ?_)
            clear hF
            revert hG
            intro hF
            replace hF := atV_e hF
            obtain ⟨rfl, hF⟩ := hF
            refine rz_aload_n dX10_feed_62 rfl (show _ = some (some (vo x0)) from rfl) ?_
            replace hF := rdO_e hF
            obtain ⟨fs, o16, hg, hv, hF⟩ := hF
            refine rz_getf dX10_feed_63 fl_X10_10 hg hv ?_
            refine rz_iload_n dX10_feed_66 rfl (show _ = some (some (vi x3)) from rfl) ?_
            replace hF := rcv_e hF
            obtain ⟨fs, hg, hF⟩ := hF
            refine rz_callV (mc' := 0) (ms' := 0) (mc := 0) (ms := 0) (st := []) dX10_feed_67 cV_X10_95 rfl hg ⟨_, _, rfl⟩ rfl (Nat.le_of_ble_eq_true rfl) hF (fun v h17 hG => ?_)
            clear hF
            revert hG
            intro hF
            replace hF := atV_e hF
            obtain ⟨rfl, hF⟩ := hF
            refine rz_aload_n dX10_feed_70 rfl (show _ = some (some (vo x0)) from rfl) ?_
            replace hF := rdO_e hF
            obtain ⟨fs, o18, hg, hv, hF⟩ := hF
            refine rz_getf dX10_feed_71 fl_X10_10 hg hv ?_
            refine rz_iload dX10_feed_74 (show _ = some (some (vi x4)) from rfl) ?_
            replace hF := rcv_e hF
            obtain ⟨fs, hg, hF⟩ := hF
            refine rz_callV (mc' := 0) (ms' := 0) (mc := 0) (ms := 0) (st := []) dX10_feed_76 cV_X10_95 rfl hg ⟨_, _, rfl⟩ rfl (Nat.le_of_ble_eq_true rfl) hF (fun v h19 hG => ?_)
            clear hF
            revert hG
            intro hF
            replace hF := atV_e hF
            obtain ⟨rfl, hF⟩ := hF
            refine rz_aload_n dX10_feed_79 rfl (show _ = some (some (vo x0)) from rfl) ?_
            replace hF := rdO_e hF
            obtain ⟨fs, o20, hg, hv, hF⟩ := hF
            refine rz_getf dX10_feed_80 fl_X10_10 hg hv ?_
            replace hF := rcv_e hF
            obtain ⟨fs, hg, hF⟩ := hF
            refine rz_callV (mc' := 0) (ms' := 0) (mc := 0) (ms := 0) (st := []) dX10_feed_83 cV_X10_98 rfl hg ⟨_, _, rfl⟩ rfl (Nat.le_of_ble_eq_true rfl) hF (fun v h21 hG => ?_)
            clear hF
            revert hG
            intro hF
            replace hF := atI_e hF
            obtain ⟨r22, rfl, hF⟩ := hF
            exact rz_iret dX10_feed_86 trivial hF
          · replace hF := ite_t hF c
            refine rz_bipush (v := (-3)) dX10_feed_43 (by decide) (by decide) ?_
            exact rz_iret dX10_feed_45 trivial hF
        · replace hF := ite_t hF c
          refine rz_iconst dX10_feed_29 rfl (by decide) ?_
          exact rz_iret dX10_feed_30 trivial hF
theorem vX10_cut {G : az_G} {d : Nat} {x0 : Nat} {x1 : Int} {h : az_H} {Q : Option az_V → az_H → Prop} (hF : (if x1 < 0 then Q (some (vi ((-1)))) h else rdO h x0 10 0 (fun o1 => rcv h o1 8 (cz G mX8_length d 0 0 [vo o1] h (fun v h2 => atI v (fun r3 => (if x1 ≤ r3 then rdO h2 x0 10 0 (fun o4 => rcv h2 o4 8 (cz G mX8_drop d 0 0 [vo o4, vi x1] h2 (fun v h5 => atV v (rdO h5 x0 10 0 (fun o6 => rcv h5 o6 8 (cz G mX8_length d 0 0 [vo o6] h5 (fun v h7 => atI v (fun r8 => Q (some (vi r8)) h7)))))))) else Q (some (vi ((-1)))) h2))))))) : cz G mX10_cut (d + 1) 0 0 [vo x0, vi x1] h Q := by
  refine cz_of (ls := [some (vo x0), some (vi x1)]) (by decide +kernel) (Nat.le_of_ble_eq_true rfl) rfl ?_
  refine rz_iload_n dX10_cut_0 rfl (show _ = some (some (vi x1)) from rfl) ?_
  refine rz_if_lt (tgt := 15) dX10_cut_1 (by decide) (fun c => ?_) (fun c => ?_)
  · replace hF := ite_t hF c
    refine rz_iconst dX10_cut_15 rfl (by decide) ?_
    exact rz_iret dX10_cut_16 trivial hF
  · replace hF := ite_f hF c
    refine rz_iload_n dX10_cut_4 rfl (show _ = some (some (vi x1)) from rfl) ?_
    refine rz_aload_n dX10_cut_5 rfl (show _ = some (some (vo x0)) from rfl) ?_
    replace hF := rdO_e hF
    obtain ⟨fs, o1, hg, hv, hF⟩ := hF
    refine rz_getf dX10_cut_6 fl_X10_10 hg hv ?_
    replace hF := rcv_e hF
    obtain ⟨fs, hg, hF⟩ := hF
    refine rz_callV (mc' := 0) (ms' := 0) (mc := 0) (ms := 0) (st := [vi x1]) dX10_cut_9 cV_X10_98 rfl hg ⟨_, _, rfl⟩ rfl (Nat.le_of_ble_eq_true rfl) hF (fun v h2 hG => ?_)
    clear hF
    revert hG
    intro hF
    replace hF := atI_e hF
    obtain ⟨r3, rfl, hF⟩ := hF
    refine rz_icmp_le (tgt := 17) dX10_cut_12 (by decide) (fun c => ?_) (fun c => ?_)
    · replace hF := ite_t hF c
      refine rz_aload_n dX10_cut_17 rfl (show _ = some (some (vo x0)) from rfl) ?_
      replace hF := rdO_e hF
      obtain ⟨fs, o4, hg, hv, hF⟩ := hF
      refine rz_getf dX10_cut_18 fl_X10_10 hg hv ?_
      refine rz_iload_n dX10_cut_21 rfl (show _ = some (some (vi x1)) from rfl) ?_
      replace hF := rcv_e hF
      obtain ⟨fs, hg, hF⟩ := hF
      refine rz_callV (mc' := 0) (ms' := 0) (mc := 0) (ms := 0) (st := []) dX10_cut_22 cV_X10_102 rfl hg ⟨_, _, rfl⟩ rfl (Nat.le_of_ble_eq_true rfl) hF (fun v h5 hG => ?_)
      clear hF
      revert hG
      intro hF
      replace hF := atV_e hF
      obtain ⟨rfl, hF⟩ := hF
      refine rz_aload_n dX10_cut_25 rfl (show _ = some (some (vo x0)) from rfl) ?_
      replace hF := rdO_e hF
      obtain ⟨fs, o6, hg, hv, hF⟩ := hF
      refine rz_getf dX10_cut_26 fl_X10_10 hg hv ?_
      replace hF := rcv_e hF
      obtain ⟨fs, hg, hF⟩ := hF
      refine rz_callV (mc' := 0) (ms' := 0) (mc := 0) (ms := 0) (st := []) dX10_cut_29 cV_X10_98 rfl hg ⟨_, _, rfl⟩ rfl (Nat.le_of_ble_eq_true rfl) hF (fun v h7 hG => ?_)
      clear hF
      revert hG
      intro hF
      replace hF := atI_e hF
      obtain ⟨r8, rfl, hF⟩ := hF
      exact rz_iret dX10_cut_32 trivial hF
    · replace hF := ite_f hF c
      refine rz_iconst dX10_cut_15 rfl (by decide) ?_
      exact rz_iret dX10_cut_16 trivial hF
theorem vX10_isWithin {G : az_G} {d : Nat} {x0 : Int} {x1 : Int} {x2 : Int} {h : az_H} {Q : Option az_V → az_H → Prop} (hF : (if x0 < x1 then Q (some (vi 0)) h else (if x2 < x0 then Q (some (vi 0)) h else Q (some (vi 1)) h))) : cz G mX10_isWithin d 0 0 [vi x0, vi x1, vi x2] h Q := by
  refine cz_of (ls := [some (vi x0), some (vi x1), some (vi x2)]) (by decide +kernel) (Nat.le_of_ble_eq_true rfl) rfl ?_
  refine rz_iload_n dX10_isWithin_0 rfl (show _ = some (some (vi x0)) from rfl) ?_
  refine rz_iload_n dX10_isWithin_1 rfl (show _ = some (some (vi x1)) from rfl) ?_
  refine rz_icmp_lt (tgt := 14) dX10_isWithin_2 (by decide) (fun c => ?_) (fun c => ?_)
  · replace hF := ite_t hF c
    refine rz_iconst dX10_isWithin_14 rfl (by decide) ?_
    exact rz_iret dX10_isWithin_15 (Or.inl rfl) hF
  · replace hF := ite_f hF c
    refine rz_iload_n dX10_isWithin_5 rfl (show _ = some (some (vi x0)) from rfl) ?_
    refine rz_iload_n dX10_isWithin_6 rfl (show _ = some (some (vi x2)) from rfl) ?_
    refine rz_icmp_gt (tgt := 14) dX10_isWithin_7 (by decide) (fun c => ?_) (fun c => ?_)
    · replace hF := ite_t hF c
      refine rz_iconst dX10_isWithin_14 rfl (by decide) ?_
      exact rz_iret dX10_isWithin_15 (Or.inl rfl) hF
    · replace hF := ite_f hF c
      refine rz_iconst dX10_isWithin_10 rfl (by decide) ?_
      refine rz_goto (tgt := 15) dX10_isWithin_11 (by decide) ?_
      exact rz_iret dX10_isWithin_15 (Or.inr rfl) hF
theorem vX10_method {G : az_G} {d : Nat} {x0 : Nat} {x1 : Int} {h : az_H} {Q : Option az_V → az_H → Prop} (hF : cz G mX10_isWithin d 0 0 [vi x1, vi 0, vi 5] h (fun v h1 => atI v (fun r2 => (if r2 = 0 then Q (some (vi ((-1)))) h1 else rdO h1 x0 10 1 (fun o3 => rcv h1 o3 5 (cz G mX5_readMethod d 3 421 [vo o3] h1 (fun v h4 => atR v (fun r5 => rdO h4 x0 10 0 (fun o6 => rcv h4 o6 8 (cz G mX8_place d 0 0 [vo o6] h4 (fun v h7 => atI v (fun r8 => rdO h7 x0 10 0 (fun o9 => rdO h7 x0 10 0 (fun o10 => rcv h7 o10 8 (cz G mX8_length d 0 0 [vo o10] h7 (fun v h11 => atI v (fun r12 => rcv h11 o9 8 (cz G mX8_drop d 0 0 [vo o9, vi r12] h11 (fun v h13 => atV v ((match r5 with | none => Q (some (vi (w32 (((-10)) - r8)))) h13 | some b14 => rdO h13 x0 10 2 (fun o15 => rcv h13 o15 9 (cz G mX9_setMethod d 0 0 [vo o15, vi x1, vo b14] h13 (fun v h16 => atV v (rdI h16 b14 1 0 (fun f17 => Q (some (vi f17)) h16)))))))))))))))))))))))))) : cz G mX10_method (d + 1) 3 421 [vo x0, vi x1] h Q := by
  refine cz_of (ls := [some (vo x0), some (vi x1), none, none]) (by decide +kernel) (Nat.le_of_ble_eq_true rfl) rfl ?_
  refine rz_iload_n dX10_method_0 rfl (show _ = some (some (vi x1)) from rfl) ?_
  refine rz_iconst dX10_method_1 rfl (by decide) ?_
  refine rz_iconst dX10_method_2 rfl (by decide) ?_
  refine rz_callS (mc' := 0) (ms' := 0) (mc := 3) (ms := 421) (st := []) dX10_method_3 cS_X10_105 rfl rfl (Nat.le_of_ble_eq_true rfl) hF (fun v h1 hG => ?_)
  clear hF
  revert hG
  intro hF
  replace hF := atI_e hF
  obtain ⟨r2, rfl, hF⟩ := hF
  refine rz_if_ne (tgt := 11) dX10_method_6 (by decide) (fun c => ?_) (fun c => ?_)
  · replace hF := ite_f hF c
    refine rz_aload_n dX10_method_11 rfl (show _ = some (some (vo x0)) from rfl) ?_
    replace hF := rdO_e hF
    obtain ⟨fs, o3, hg, hv, hF⟩ := hF
    refine rz_getf dX10_method_12 fl_X10_21 hg hv ?_
    replace hF := rcv_e hF
    obtain ⟨fs, hg, hF⟩ := hF
    refine rz_callV (mc' := 3) (ms' := 421) (mc := 0) (ms := 0) (st := []) dX10_method_15 cV_X10_109 rfl hg ⟨_, _, rfl⟩ rfl (Nat.le_of_ble_eq_true rfl) hF (fun v h4 hG => ?_)
    clear hF
    revert hG
    intro hF
    replace hF := atR_e hF
    obtain ⟨r5, rfl, hF⟩ := hF
    refine rz_astore_n (ls' := [some (vo x0), some (vi x1), some (vr r5), none]) dX10_method_18 rfl (Nat.le_of_ble_eq_true rfl) rfl ?_
    refine rz_bipush (v := (-10)) dX10_method_19 (by decide) (by decide) ?_
    refine rz_aload_n dX10_method_21 rfl (show _ = some (some (vo x0)) from rfl) ?_
    replace hF := rdO_e hF
    obtain ⟨fs, o6, hg, hv, hF⟩ := hF
    refine rz_getf dX10_method_22 fl_X10_10 hg hv ?_
    replace hF := rcv_e hF
    obtain ⟨fs, hg, hF⟩ := hF
    refine rz_callV (mc' := 0) (ms' := 0) (mc := 0) (ms := 0) (st := [vi ((-10))]) dX10_method_25 cV_X10_113 rfl hg ⟨_, _, rfl⟩ rfl (Nat.le_of_ble_eq_true rfl) hF (fun v h7 hG => ?_)
    clear hF
    revert hG
    intro hF
    replace hF := atI_e hF
    obtain ⟨r8, rfl, hF⟩ := hF
    refine rz_isub dX10_method_28 ?_
    refine rz_istore_n (ls' := [some (vo x0), some (vi x1), some (vr r5), some (vi (w32 (((-10)) - r8)))]) dX10_method_29 rfl (Nat.le_of_ble_eq_true rfl) rfl ?_
    refine rz_aload_n dX10_method_30 rfl (show _ = some (some (vo x0)) from rfl) ?_
    replace hF := rdO_e hF
    obtain ⟨fs, o9, hg, hv, hF⟩ := hF
    refine rz_getf dX10_method_31 fl_X10_10 hg hv ?_
    refine rz_aload_n dX10_method_34 rfl (show _ = some (some (vo x0)) from rfl) ?_
    replace hF := rdO_e hF
    obtain ⟨fs, o10, hg, hv, hF⟩ := hF
    refine rz_getf dX10_method_35 fl_X10_10 hg hv ?_
    replace hF := rcv_e hF
    obtain ⟨fs, hg, hF⟩ := hF
    refine rz_callV (mc' := 0) (ms' := 0) (mc := 0) (ms := 0) (st := [vo o9]) dX10_method_38 cV_X10_98 rfl hg ⟨_, _, rfl⟩ rfl (Nat.le_of_ble_eq_true rfl) hF (fun v h11 hG => ?_)
    clear hF
    revert hG
    intro hF
    replace hF := atI_e hF
    obtain ⟨r12, rfl, hF⟩ := hF
    replace hF := rcv_e hF
    obtain ⟨fs, hg, hF⟩ := hF
    refine rz_callV (mc' := 0) (ms' := 0) (mc := 0) (ms := 0) (st := []) dX10_method_41 cV_X10_102 rfl hg ⟨_, _, rfl⟩ rfl (Nat.le_of_ble_eq_true rfl) hF (fun v h13 hG => ?_)
    clear hF
    revert hG
    intro hF
    replace hF := atV_e hF
    obtain ⟨rfl, hF⟩ := hF
    refine rz_aload_n dX10_method_44 rfl (show _ = some (some (vr r5)) from rfl) ?_
    cases r5 with
    | none =>
      refine rz_ifnonnull (tgt := 50) dX10_method_45 (by decide) (fun c => absurd rfl c) (fun c => ?_)
      refine rz_iload_n dX10_method_48 rfl (show _ = some (some (vi (w32 (((-10)) - r8)))) from rfl) ?_
      exact rz_iret dX10_method_49 trivial hF
    | some b14 =>
      refine rz_ifnonnull (tgt := 50) dX10_method_45 (by decide) (fun c => ?_) (fun c => absurd c (by simp))
      refine rz_aload_n dX10_method_50 rfl (show _ = some (some (vo x0)) from rfl) ?_
      replace hF := rdO_e hF
      obtain ⟨fs, o15, hg, hv, hF⟩ := hF
      refine rz_getf dX10_method_51 fl_X10_28 hg hv ?_
      refine rz_iload_n dX10_method_54 rfl (show _ = some (some (vi x1)) from rfl) ?_
      refine rz_aload_n dX10_method_55 rfl (show _ = some (some (vo b14)) from rfl) ?_
      replace hF := rcv_e hF
      obtain ⟨fs, hg, hF⟩ := hF
      refine rz_callV (mc' := 0) (ms' := 0) (mc := 0) (ms := 0) (st := []) dX10_method_56 cV_X10_116 rfl hg ⟨_, _, rfl⟩ rfl (Nat.le_of_ble_eq_true rfl) hF (fun v h16 hG => ?_)
      clear hF
      revert hG
      intro hF
      replace hF := atV_e hF
      obtain ⟨rfl, hF⟩ := hF
      refine rz_aload_n dX10_method_59 rfl (show _ = some (some (vo b14)) from rfl) ?_
      replace hF := rdI_e hF
      obtain ⟨fs, f17, hg, hv, hF⟩ := hF
      refine rz_getg dX10_method_60 fr_X10_120 hg hv ?_
      exact rz_iret dX10_method_63 trivial hF
  · replace hF := ite_t hF c
    refine rz_iconst dX10_method_9 rfl (by decide) ?_
    exact rz_iret dX10_method_10 trivial hF
theorem vX10_rule {G : az_G} {d : Nat} {x0 : Nat} {h : az_H} {Q : Option az_V → az_H → Prop} (hF : rdO h x0 10 1 (fun o1 => rcv h o1 5 (cz G mX5_readRule d 3 421 [vo o1] h (fun v h2 => atR v (fun r3 => rdO h2 x0 10 0 (fun o4 => rcv h2 o4 8 (cz G mX8_place d 0 0 [vo o4] h2 (fun v h5 => atI v (fun r6 => rdO h5 x0 10 0 (fun o7 => rdO h5 x0 10 0 (fun o8 => rcv h5 o8 8 (cz G mX8_length d 0 0 [vo o8] h5 (fun v h9 => atI v (fun r10 => rcv h9 o7 8 (cz G mX8_drop d 0 0 [vo o7, vi r10] h9 (fun v h11 => atV v ((match r3 with | none => Q (some (vi (w32 (((-10)) - r6)))) h11 | some b12 => rdI h11 x0 10 10 (fun f13 => (if f13 < 8 then rdO h11 x0 10 7 (fun o14 => rdI h11 x0 10 10 (fun f15 => stR h11 o14 "InvariantSearch$Code" 1 f15 (some b12) (fun h16 => rdI h16 x0 10 10 (fun f17 => wrF h16 x0 10 10 (.int) (vi (w32 (f17 + 1))) (fun h18 => rdI h18 x0 10 10 (fun f19 => Q (some (vi (w32 (f19 - 1)))) h18)))))) else Q (some (vi ((-3)))) h11)))))))))))))))))))) : cz G mX10_rule (d + 1) 3 421 [vo x0] h Q := by
  refine cz_of (ls := [some (vo x0), none, none]) (by decide +kernel) (Nat.le_of_ble_eq_true rfl) rfl ?_
  refine rz_aload_n dX10_rule_0 rfl (show _ = some (some (vo x0)) from rfl) ?_
  replace hF := rdO_e hF
  obtain ⟨fs, o1, hg, hv, hF⟩ := hF
  refine rz_getf dX10_rule_1 fl_X10_21 hg hv ?_
  replace hF := rcv_e hF
  obtain ⟨fs, hg, hF⟩ := hF
  refine rz_callV (mc' := 3) (ms' := 421) (mc := 0) (ms := 0) (st := []) dX10_rule_4 cV_X10_123 rfl hg ⟨_, _, rfl⟩ rfl (Nat.le_of_ble_eq_true rfl) hF (fun v h2 hG => ?_)
  clear hF
  revert hG
  intro hF
  replace hF := atR_e hF
  obtain ⟨r3, rfl, hF⟩ := hF
  refine rz_astore_n (ls' := [some (vo x0), some (vr r3), none]) dX10_rule_7 rfl (Nat.le_of_ble_eq_true rfl) rfl ?_
  refine rz_bipush (v := (-10)) dX10_rule_8 (by decide) (by decide) ?_
  refine rz_aload_n dX10_rule_10 rfl (show _ = some (some (vo x0)) from rfl) ?_
  replace hF := rdO_e hF
  obtain ⟨fs, o4, hg, hv, hF⟩ := hF
  refine rz_getf dX10_rule_11 fl_X10_10 hg hv ?_
  replace hF := rcv_e hF
  obtain ⟨fs, hg, hF⟩ := hF
  refine rz_callV (mc' := 0) (ms' := 0) (mc := 0) (ms := 0) (st := [vi ((-10))]) dX10_rule_14 cV_X10_113 rfl hg ⟨_, _, rfl⟩ rfl (Nat.le_of_ble_eq_true rfl) hF (fun v h5 hG => ?_)
  clear hF
  revert hG
  intro hF
  replace hF := atI_e hF
  obtain ⟨r6, rfl, hF⟩ := hF
  refine rz_isub dX10_rule_17 ?_
  refine rz_istore_n (ls' := [some (vo x0), some (vr r3), some (vi (w32 (((-10)) - r6)))]) dX10_rule_18 rfl (Nat.le_of_ble_eq_true rfl) rfl ?_
  refine rz_aload_n dX10_rule_19 rfl (show _ = some (some (vo x0)) from rfl) ?_
  replace hF := rdO_e hF
  obtain ⟨fs, o7, hg, hv, hF⟩ := hF
  refine rz_getf dX10_rule_20 fl_X10_10 hg hv ?_
  refine rz_aload_n dX10_rule_23 rfl (show _ = some (some (vo x0)) from rfl) ?_
  replace hF := rdO_e hF
  obtain ⟨fs, o8, hg, hv, hF⟩ := hF
  refine rz_getf dX10_rule_24 fl_X10_10 hg hv ?_
  replace hF := rcv_e hF
  obtain ⟨fs, hg, hF⟩ := hF
  refine rz_callV (mc' := 0) (ms' := 0) (mc := 0) (ms := 0) (st := [vo o7]) dX10_rule_27 cV_X10_98 rfl hg ⟨_, _, rfl⟩ rfl (Nat.le_of_ble_eq_true rfl) hF (fun v h9 hG => ?_)
  clear hF
  revert hG
  intro hF
  replace hF := atI_e hF
  obtain ⟨r10, rfl, hF⟩ := hF
  replace hF := rcv_e hF
  obtain ⟨fs, hg, hF⟩ := hF
  refine rz_callV (mc' := 0) (ms' := 0) (mc := 0) (ms := 0) (st := []) dX10_rule_30 cV_X10_102 rfl hg ⟨_, _, rfl⟩ rfl (Nat.le_of_ble_eq_true rfl) hF (fun v h11 hG => ?_)
  clear hF
  revert hG
  intro hF
  replace hF := atV_e hF
  obtain ⟨rfl, hF⟩ := hF
  refine rz_aload_n dX10_rule_33 rfl (show _ = some (some (vr r3)) from rfl) ?_
  cases r3 with
  | none =>
    refine rz_ifnonnull (tgt := 39) dX10_rule_34 (by decide) (fun c => absurd rfl c) (fun c => ?_)
    refine rz_iload_n dX10_rule_37 rfl (show _ = some (some (vi (w32 (((-10)) - r6)))) from rfl) ?_
    exact rz_iret dX10_rule_38 trivial hF
  | some b12 =>
    refine rz_ifnonnull (tgt := 39) dX10_rule_34 (by decide) (fun c => ?_) (fun c => absurd c (by simp))
    refine rz_aload_n dX10_rule_39 rfl (show _ = some (some (vo x0)) from rfl) ?_
    replace hF := rdI_e hF
    obtain ⟨fs, f13, hg, hv, hF⟩ := hF
    refine rz_getf dX10_rule_40 fl_X10_81 hg hv ?_
    refine rz_bipush (v := 8) dX10_rule_43 (by decide) (by decide) ?_
    refine rz_icmp_lt (tgt := 51) dX10_rule_45 (by decide) (fun c => ?_) (fun c => ?_)
    · replace hF := ite_t hF c
      refine rz_aload_n dX10_rule_51 rfl (show _ = some (some (vo x0)) from rfl) ?_
      replace hF := rdO_e hF
      obtain ⟨fs, o14, hg, hv, hF⟩ := hF
      refine rz_getf dX10_rule_52 fl_X10_70 hg hv ?_
      refine rz_aload_n dX10_rule_55 rfl (show _ = some (some (vo x0)) from rfl) ?_
      replace hF := rdI_e hF
      obtain ⟨fs, f15, hg, hv, hF⟩ := hF
      refine rz_getf dX10_rule_56 fl_X10_81 hg hv ?_
      refine rz_aload_n dX10_rule_59 rfl (show _ = some (some (vo b12)) from rfl) ?_
      replace hF := stR_e hF
      obtain ⟨xs, hg, hb, h0, h1, hF⟩ := hF
      refine rz_aast (ci := 1) dX10_rule_60 hg (by decide) rfl hb h0 h1 ?_
      refine rz_aload_n dX10_rule_61 rfl (show _ = some (some (vo x0)) from rfl) ?_
      refine rz_dup dX10_rule_62 (by rintro ⟨_, q⟩; cases q) ?_
      replace hF := rdI_e hF
      obtain ⟨fs, f17, hg, hv, hF⟩ := hF
      refine rz_getf dX10_rule_63 fl_X10_81 hg hv ?_
      refine rz_iconst dX10_rule_66 rfl (by decide) ?_
      refine rz_iadd dX10_rule_67 ?_
      replace hF := wrF_e hF
      obtain ⟨fs, hg, hv, hF⟩ := hF
      refine rz_putf dX10_rule_68 fl_X10_81 (Or.inl rfl) hg hv ?_
      refine rz_aload_n dX10_rule_71 rfl (show _ = some (some (vo x0)) from rfl) ?_
      replace hF := rdI_e hF
      obtain ⟨fs, f19, hg, hv, hF⟩ := hF
      refine rz_getf dX10_rule_72 fl_X10_81 hg hv ?_
      refine rz_iconst dX10_rule_75 rfl (by decide) ?_
      refine rz_isub dX10_rule_76 ?_
      exact rz_iret dX10_rule_77 trivial hF
    · replace hF := ite_f hF c
      refine rz_bipush (v := (-3)) dX10_rule_48 (by decide) (by decide) ?_
      exact rz_iret dX10_rule_50 trivial hF
theorem vX10_isCall {G : az_G} {d : Nat} {x0 : Int} {x1 : Int} {x2 : Int} {x3 : Int} {h : az_H} {Q : Option az_V → az_H → Prop} (hF : cz G mX10_isWithin d 0 0 [vi x0, vi 0, vi 3] h (fun v h1 => atI v (fun r2 => (if r2 = 0 then Q (some (vi 0)) h1 else cz G mX10_isWithin d 0 0 [vi x1, vi 0, vi 5] h1 (fun v h3 => atI v (fun r4 => (if r4 = 0 then Q (some (vi 0)) h3 else cz G mX10_isWithin d 0 0 [vi x2, vi ((-1000000)), vi 1000000] h3 (fun v h5 => atI v (fun r6 => (if r6 = 0 then Q (some (vi 0)) h5 else cz G mX10_isWithin d 0 0 [vi x3, vi 0, vi 1000000] h5 (fun v h7 => atI v (fun r8 => (if r8 = 0 then Q (some (vi 0)) h7 else Q (some (vi 1)) h7))))))))))))) : cz G mX10_isCall (d + 1) 0 0 [vi x0, vi x1, vi x2, vi x3] h Q := by
  refine cz_of (ls := [some (vi x0), some (vi x1), some (vi x2), some (vi x3)]) (by decide +kernel) (Nat.le_of_ble_eq_true rfl) rfl ?_
  refine rz_iload_n dX10_isCall_0 rfl (show _ = some (some (vi x0)) from rfl) ?_
  refine rz_iconst dX10_isCall_1 rfl (by decide) ?_
  refine rz_iconst dX10_isCall_2 rfl (by decide) ?_
  refine rz_callS (mc' := 0) (ms' := 0) (mc := 0) (ms := 0) (st := []) dX10_isCall_3 cS_X10_105 rfl rfl (Nat.le_of_ble_eq_true rfl) hF (fun v h1 hG => ?_)
  clear hF
  revert hG
  intro hF
  replace hF := atI_e hF
  obtain ⟨r2, rfl, hF⟩ := hF
  refine rz_if_eq (tgt := 43) dX10_isCall_6 (by decide) (fun c => ?_) (fun c => ?_)
  · replace hF := ite_t hF c
    refine rz_iconst dX10_isCall_43 rfl (by decide) ?_
    exact rz_iret dX10_isCall_44 (Or.inl rfl) hF
  · replace hF := ite_f hF c
    refine rz_iload_n dX10_isCall_9 rfl (show _ = some (some (vi x1)) from rfl) ?_
    refine rz_iconst dX10_isCall_10 rfl (by decide) ?_
    refine rz_iconst dX10_isCall_11 rfl (by decide) ?_
    refine rz_callS (mc' := 0) (ms' := 0) (mc := 0) (ms := 0) (st := []) dX10_isCall_12 cS_X10_105 rfl rfl (Nat.le_of_ble_eq_true rfl) hF (fun v h3 hG => ?_)
    clear hF
    revert hG
    intro hF
    replace hF := atI_e hF
    obtain ⟨r4, rfl, hF⟩ := hF
    refine rz_if_eq (tgt := 43) dX10_isCall_15 (by decide) (fun c => ?_) (fun c => ?_)
    · replace hF := ite_t hF c
      refine rz_iconst dX10_isCall_43 rfl (by decide) ?_
      exact rz_iret dX10_isCall_44 (Or.inl rfl) hF
    · replace hF := ite_f hF c
      refine rz_iload_n dX10_isCall_18 rfl (show _ = some (some (vi x2)) from rfl) ?_
      refine rz_ldc (v := (-1000000)) dX10_isCall_19 k_700 (by decide) ?_
      refine rz_ldc (v := 1000000) dX10_isCall_21 k_692 (by decide) ?_
      refine rz_callS (mc' := 0) (ms' := 0) (mc := 0) (ms := 0) (st := []) dX10_isCall_23 cS_X10_105 rfl rfl (Nat.le_of_ble_eq_true rfl) hF (fun v h5 hG => ?_)
      clear hF
      revert hG
      intro hF
      replace hF := atI_e hF
      obtain ⟨r6, rfl, hF⟩ := hF
      refine rz_if_eq (tgt := 43) dX10_isCall_26 (by decide) (fun c => ?_) (fun c => ?_)
      · replace hF := ite_t hF c
        refine rz_iconst dX10_isCall_43 rfl (by decide) ?_
        exact rz_iret dX10_isCall_44 (Or.inl rfl) hF
      · replace hF := ite_f hF c
        refine rz_iload_n dX10_isCall_29 rfl (show _ = some (some (vi x3)) from rfl) ?_
        refine rz_iconst dX10_isCall_30 rfl (by decide) ?_
        refine rz_ldc (v := 1000000) dX10_isCall_31 k_692 (by decide) ?_
        refine rz_callS (mc' := 0) (ms' := 0) (mc := 0) (ms := 0) (st := []) dX10_isCall_33 cS_X10_105 rfl rfl (Nat.le_of_ble_eq_true rfl) hF (fun v h7 hG => ?_)
        clear hF
        revert hG
        intro hF
        replace hF := atI_e hF
        obtain ⟨r8, rfl, hF⟩ := hF
        refine rz_if_eq (tgt := 43) dX10_isCall_36 (by decide) (fun c => ?_) (fun c => ?_)
        · replace hF := ite_t hF c
          refine rz_iconst dX10_isCall_43 rfl (by decide) ?_
          exact rz_iret dX10_isCall_44 (Or.inl rfl) hF
        · replace hF := ite_f hF c
          refine rz_iconst dX10_isCall_39 rfl (by decide) ?_
          refine rz_goto (tgt := 44) dX10_isCall_40 (by decide) ?_
          exact rz_iret dX10_isCall_44 (Or.inr rfl) hF
theorem vX10_showStart {G : az_G} {d : Nat} {x0 : Nat} {h : az_H} {Q : Option az_V → az_H → Prop} (hF : rdO h x0 10 3 (fun o1 => rcv h o1 4 (cz G mX4_toStart d 0 0 [vo o1] h (fun v h2 => atV v (rdO h2 x0 10 3 (fun o3 => rdO h2 x0 10 9 (fun o4 => rcv h2 o3 4 (cz G mX4_save d 0 0 [vo o3, vo o4, vi 0] h2 (fun v h5 => atV v (wrF h5 x0 10 11 (.int) (vi 0) (fun h6 => Q none h6))))))))))) : cz G mX10_showStart (d + 1) 0 0 [vo x0] h Q := by
  refine cz_of (ls := [some (vo x0)]) (by decide +kernel) (Nat.le_of_ble_eq_true rfl) rfl ?_
  refine rz_aload_n dX10_showStart_0 rfl (show _ = some (some (vo x0)) from rfl) ?_
  replace hF := rdO_e hF
  obtain ⟨fs, o1, hg, hv, hF⟩ := hF
  refine rz_getf dX10_showStart_1 fl_X10_37 hg hv ?_
  replace hF := rcv_e hF
  obtain ⟨fs, hg, hF⟩ := hF
  refine rz_callV (mc' := 0) (ms' := 0) (mc := 0) (ms := 0) (st := []) dX10_showStart_4 cV_X10_241 rfl hg ⟨_, _, rfl⟩ rfl (Nat.le_of_ble_eq_true rfl) hF (fun v h2 hG => ?_)
  clear hF
  revert hG
  intro hF
  replace hF := atV_e hF
  obtain ⟨rfl, hF⟩ := hF
  refine rz_aload_n dX10_showStart_7 rfl (show _ = some (some (vo x0)) from rfl) ?_
  replace hF := rdO_e hF
  obtain ⟨fs, o3, hg, hv, hF⟩ := hF
  refine rz_getf dX10_showStart_8 fl_X10_37 hg hv ?_
  refine rz_aload_n dX10_showStart_11 rfl (show _ = some (some (vo x0)) from rfl) ?_
  replace hF := rdO_e hF
  obtain ⟨fs, o4, hg, hv, hF⟩ := hF
  refine rz_getf dX10_showStart_12 fl_X10_78 hg hv ?_
  refine rz_iconst dX10_showStart_15 rfl (by decide) ?_
  replace hF := rcv_e hF
  obtain ⟨fs, hg, hF⟩ := hF
  refine rz_callV (mc' := 0) (ms' := 0) (mc := 0) (ms := 0) (st := []) dX10_showStart_16 cV_X10_151 rfl hg ⟨_, _, rfl⟩ rfl (Nat.le_of_ble_eq_true rfl) hF (fun v h5 hG => ?_)
  clear hF
  revert hG
  intro hF
  replace hF := atV_e hF
  obtain ⟨rfl, hF⟩ := hF
  refine rz_aload_n dX10_showStart_19 rfl (show _ = some (some (vo x0)) from rfl) ?_
  refine rz_iconst dX10_showStart_20 rfl (by decide) ?_
  replace hF := wrF_e hF
  obtain ⟨fs, hg, hv, hF⟩ := hF
  refine rz_putf dX10_showStart_21 fl_X10_85 (Or.inl rfl) hg hv ?_
  exact rz_vret dX10_showStart_24 trivial hF
theorem vX10_actor {G : az_G} {d : Nat} {x0 : Nat} {x1 : Int} {x2 : Int} {x3 : Int} {x4 : Int} {h : az_H} {Q : Option az_V → az_H → Prop} (hF : cz G mX10_isWithin d 0 0 [vi x1, vi 0, vi 3] h (fun v h1 => atI v (fun r2 => (if r2 = 0 then Q (some (vi ((-1)))) h1 else cz G mX10_isWithin d 0 0 [vi x2, vi 0, vi 1000000] h1 (fun v h3 => atI v (fun r4 => (if r4 = 0 then Q (some (vi ((-1)))) h3 else (if x3 = (-1) then rdO h3 x0 10 2 (fun o13 => rcv h3 o13 9 (cz G mX9_setActor d 0 0 [vo o13, vi x1, vi x2, vn] h3 (fun v h14 => atV v (rcv h14 x0 10 (cz G mX10_showStart d 0 0 [vo x0] h14 (fun v h15 => atV v (Q (some (vi 1)) h15))))))) else cz G mX10_isCall d 0 0 [vi x1, vi x3, vi x4, vi 0] h3 (fun v h5 => atI v (fun r6 => (if r6 = 0 then Q (some (vi ((-1)))) h5 else rdO h5 x0 10 2 (fun o7 => nwO h5 (cO 0 [vi 0, vi 0, vi 0, vi 0]) (fun No8 Nh9 => cz G mX0_init d 0 0 [vo No8, vi x1, vi x3, vi x4, vi 0] Nh9 (fun v h10 => atV v (rcv h10 o7 9 (cz G mX9_setActor d 0 0 [vo o7, vi x1, vi x2, vo No8] h10 (fun v h11 => atV v (rcv h11 x0 10 (cz G mX10_showStart d 0 0 [vo x0] h11 (fun v h12 => atV v (Q (some (vi 1)) h12))))))))))))))))))))) : cz G mX10_actor (d + 1) 1 4 [vo x0, vi x1, vi x2, vi x3, vi x4] h Q := by
  refine cz_of (ls := [some (vo x0), some (vi x1), some (vi x2), some (vi x3), some (vi x4)]) (by decide +kernel) (Nat.le_of_ble_eq_true rfl) rfl ?_
  refine rz_iload_n dX10_actor_0 rfl (show _ = some (some (vi x1)) from rfl) ?_
  refine rz_iconst dX10_actor_1 rfl (by decide) ?_
  refine rz_iconst dX10_actor_2 rfl (by decide) ?_
  refine rz_callS (mc' := 0) (ms' := 0) (mc := 1) (ms := 4) (st := []) dX10_actor_3 cS_X10_105 rfl rfl (Nat.le_of_ble_eq_true rfl) hF (fun v h1 hG => ?_)
  clear hF
  revert hG
  intro hF
  replace hF := atI_e hF
  obtain ⟨r2, rfl, hF⟩ := hF
  refine rz_if_eq (tgt := 19) dX10_actor_6 (by decide) (fun c => ?_) (fun c => ?_)
  · replace hF := ite_t hF c
    refine rz_iconst dX10_actor_19 rfl (by decide) ?_
    exact rz_iret dX10_actor_20 trivial hF
  · replace hF := ite_f hF c
    refine rz_iload_n dX10_actor_9 rfl (show _ = some (some (vi x2)) from rfl) ?_
    refine rz_iconst dX10_actor_10 rfl (by decide) ?_
    refine rz_ldc (v := 1000000) dX10_actor_11 k_692 (by decide) ?_
    refine rz_callS (mc' := 0) (ms' := 0) (mc := 1) (ms := 4) (st := []) dX10_actor_13 cS_X10_105 rfl rfl (Nat.le_of_ble_eq_true rfl) hF (fun v h3 hG => ?_)
    clear hF
    revert hG
    intro hF
    replace hF := atI_e hF
    obtain ⟨r4, rfl, hF⟩ := hF
    refine rz_if_ne (tgt := 21) dX10_actor_16 (by decide) (fun c => ?_) (fun c => ?_)
    · replace hF := ite_f hF c
      refine rz_iload_n dX10_actor_21 rfl (show _ = some (some (vi x3)) from rfl) ?_
      refine rz_iconst dX10_actor_22 rfl (by decide) ?_
      refine rz_icmp_ne (tgt := 39) dX10_actor_23 (by decide) (fun c => ?_) (fun c => ?_)
      · replace hF := ite_f hF c
        refine rz_iload_n dX10_actor_39 rfl (show _ = some (some (vi x1)) from rfl) ?_
        refine rz_iload_n dX10_actor_40 rfl (show _ = some (some (vi x3)) from rfl) ?_
        refine rz_iload dX10_actor_41 (show _ = some (some (vi x4)) from rfl) ?_
        refine rz_iconst dX10_actor_43 rfl (by decide) ?_
        refine rz_callS (mc' := 0) (ms' := 0) (mc := 1) (ms := 4) (st := []) dX10_actor_44 cS_X10_131 rfl rfl (Nat.le_of_ble_eq_true rfl) hF (fun v h5 hG => ?_)
        clear hF
        revert hG
        intro hF
        replace hF := atI_e hF
        obtain ⟨r6, rfl, hF⟩ := hF
        refine rz_if_eq (tgt := 74) dX10_actor_47 (by decide) (fun c => ?_) (fun c => ?_)
        · replace hF := ite_t hF c
          refine rz_iconst dX10_actor_74 rfl (by decide) ?_
          exact rz_iret dX10_actor_75 trivial hF
        · replace hF := ite_f hF c
          refine rz_aload_n dX10_actor_50 rfl (show _ = some (some (vo x0)) from rfl) ?_
          replace hF := rdO_e hF
          obtain ⟨fs, o7, hg, hv, hF⟩ := hF
          refine rz_getf dX10_actor_51 fl_X10_28 hg hv ?_
          refine rz_iload_n dX10_actor_54 rfl (show _ = some (some (vi x1)) from rfl) ?_
          refine rz_iload_n dX10_actor_55 rfl (show _ = some (some (vi x2)) from rfl) ?_
          refine ez_wide (mc := 0 + 1) (ms := 0 + 4) (Nat.le_of_ble_eq_true rfl) (Nat.le_of_ble_eq_true rfl) ?_
          refine rz_new (fs := [vi 0, vi 0, vi 0, vi 0]) dX10_actor_56 nw_X10_135 ?_
          replace hF := nwO_e hF
          refine rz_dup dX10_actor_59 (by rintro ⟨_, q⟩; cases q) ?_
          refine rz_iload_n dX10_actor_60 rfl (show _ = some (some (vi x1)) from rfl) ?_
          refine rz_iload_n dX10_actor_61 rfl (show _ = some (some (vi x3)) from rfl) ?_
          refine rz_iload dX10_actor_62 (show _ = some (some (vi x4)) from rfl) ?_
          refine rz_iconst dX10_actor_64 rfl (by decide) ?_
          refine rz_callI (mc' := 0) (ms' := 0) (mc := 0) (ms := 0) (st := [vo _, vi x2, vi x1, vo o7]) dX10_actor_65 cI_X10_137 rfl rfl (Nat.le_of_ble_eq_true rfl) hF (fun v h10 hG => ?_)
          clear hF
          revert hG
          intro hF
          replace hF := atV_e hF
          obtain ⟨rfl, hF⟩ := hF
          replace hF := rcv_e hF
          obtain ⟨fs, hg, hF⟩ := hF
          refine rz_callV (mc' := 0) (ms' := 0) (mc := 0) (ms := 0) (st := []) dX10_actor_68 cV_X10_127 rfl hg ⟨_, _, rfl⟩ rfl (Nat.le_of_ble_eq_true rfl) hF (fun v h11 hG => ?_)
          clear hF
          revert hG
          intro hF
          replace hF := atV_e hF
          obtain ⟨rfl, hF⟩ := hF
          refine rz_goto (tgt := 76) dX10_actor_71 (by decide) ?_
          refine rz_aload_n dX10_actor_76 rfl (show _ = some (some (vo x0)) from rfl) ?_
          replace hF := rcv_e hF
          obtain ⟨fs, hg, hF⟩ := hF
          refine rz_callV (mc' := 0) (ms' := 0) (mc := 0) (ms := 0) (st := []) dX10_actor_77 cV_X10_140 rfl hg ⟨_, _, rfl⟩ rfl (Nat.le_of_ble_eq_true rfl) hF (fun v h12 hG => ?_)
          clear hF
          revert hG
          intro hF
          replace hF := atV_e hF
          obtain ⟨rfl, hF⟩ := hF
          refine rz_iconst dX10_actor_80 rfl (by decide) ?_
          exact rz_iret dX10_actor_81 trivial hF
      · replace hF := ite_t hF c
        refine rz_aload_n dX10_actor_26 rfl (show _ = some (some (vo x0)) from rfl) ?_
        replace hF := rdO_e hF
        obtain ⟨fs, o13, hg, hv, hF⟩ := hF
        refine rz_getf dX10_actor_27 fl_X10_28 hg hv ?_
        refine rz_iload_n dX10_actor_30 rfl (show _ = some (some (vi x1)) from rfl) ?_
        refine rz_iload_n dX10_actor_31 rfl (show _ = some (some (vi x2)) from rfl) ?_
        refine rz_null dX10_actor_32 ?_
        replace hF := rcv_e hF
        obtain ⟨fs, hg, hF⟩ := hF
        refine rz_callV (mc' := 0) (ms' := 0) (mc := 1) (ms := 4) (st := []) dX10_actor_33 cV_X10_127 rfl hg ⟨_, _, rfl⟩ rfl (Nat.le_of_ble_eq_true rfl) hF (fun v h14 hG => ?_)
        clear hF
        revert hG
        intro hF
        replace hF := atV_e hF
        obtain ⟨rfl, hF⟩ := hF
        refine rz_goto (tgt := 76) dX10_actor_36 (by decide) ?_
        refine rz_aload_n dX10_actor_76 rfl (show _ = some (some (vo x0)) from rfl) ?_
        replace hF := rcv_e hF
        obtain ⟨fs, hg, hF⟩ := hF
        refine rz_callV (mc' := 0) (ms' := 0) (mc := 1) (ms := 4) (st := []) dX10_actor_77 cV_X10_140 rfl hg ⟨_, _, rfl⟩ rfl (Nat.le_of_ble_eq_true rfl) hF (fun v h15 hG => ?_)
        clear hF
        revert hG
        intro hF
        replace hF := atV_e hF
        obtain ⟨rfl, hF⟩ := hF
        refine rz_iconst dX10_actor_80 rfl (by decide) ?_
        exact rz_iret dX10_actor_81 trivial hF
    · replace hF := ite_t hF c
      refine rz_iconst dX10_actor_19 rfl (by decide) ?_
      exact rz_iret dX10_actor_20 trivial hF
