theorem vX11_cellOf {G : az_G} {d : Nat} {x0 : Int} {h : az_H} {Q : Option az_V → az_H → Prop} (hF : cz G mX11_in d 0 0 [vl x0, vl 97, vl 102] h (fun v h1 => atI v (fun r2 => (if r2 = 0 then (if x0 = 112 then Q (some (vi 6)) h1 else (if x0 = 113 then Q (some (vi 7)) h1 else Q (some (vi ((-1)))) h1)) else Q (some (vi (w32 (x0 - 97)))) h1)))) : cz G mX11_cellOf (d + 1) 0 0 [vi x0] h Q := by
  refine cz_of (ls := [some (vi x0)]) (by decide +kernel) (Nat.le_of_ble_eq_true rfl) rfl ?_
  refine rz_iload_n dX11_cellOf_0 rfl (show _ = some (some (vi x0)) from rfl) ?_
  refine rz_i2l dX11_cellOf_1 ?_
  refine rz_ldc2 (v := 97) dX11_cellOf_2 k_1275 (by decide) ?_
  refine rz_ldc2 (v := 102) dX11_cellOf_5 k_1291 (by decide) ?_
  refine rz_callS (mc' := 0) (ms' := 0) (mc := 0) (ms := 0) (st := []) dX11_cellOf_8 cS_X11_117 rfl rfl (Nat.le_of_ble_eq_true rfl) hF (fun v h1 hG => ?_)
  clear hF
  revert hG
  intro hF
  replace hF := atI_e hF
  obtain ⟨r2, rfl, hF⟩ := hF
  refine rz_if_eq (tgt := 21) dX11_cellOf_11 (by decide) (fun c => ?_) (fun c => ?_)
  · replace hF := ite_t hF c
    refine rz_iload_n dX11_cellOf_21 rfl (show _ = some (some (vi x0)) from rfl) ?_
    refine rz_bipush (v := 112) dX11_cellOf_22 (by decide) (by decide) ?_
    refine rz_icmp_ne (tgt := 32) dX11_cellOf_24 (by decide) (fun c => ?_) (fun c => ?_)
    · replace hF := ite_f hF c
      refine rz_iload_n dX11_cellOf_32 rfl (show _ = some (some (vi x0)) from rfl) ?_
      refine rz_bipush (v := 113) dX11_cellOf_33 (by decide) (by decide) ?_
      refine rz_icmp_ne (tgt := 43) dX11_cellOf_35 (by decide) (fun c => ?_) (fun c => ?_)
      · replace hF := ite_f hF c
        refine rz_iconst dX11_cellOf_43 rfl (by decide) ?_
        exact rz_iret dX11_cellOf_44 trivial hF
      · replace hF := ite_t hF c
        refine rz_bipush (v := 7) dX11_cellOf_38 (by decide) (by decide) ?_
        refine rz_goto (tgt := 44) dX11_cellOf_40 (by decide) ?_
        exact rz_iret dX11_cellOf_44 trivial hF
    · replace hF := ite_t hF c
      refine rz_bipush (v := 6) dX11_cellOf_27 (by decide) (by decide) ?_
      refine rz_goto (tgt := 44) dX11_cellOf_29 (by decide) ?_
      exact rz_iret dX11_cellOf_44 trivial hF
  · replace hF := ite_f hF c
    refine rz_iload_n dX11_cellOf_14 rfl (show _ = some (some (vi x0)) from rfl) ?_
    refine rz_bipush (v := 97) dX11_cellOf_15 (by decide) (by decide) ?_
    refine rz_isub dX11_cellOf_17 ?_
    refine rz_goto (tgt := 44) dX11_cellOf_18 (by decide) ?_
    exact rz_iret dX11_cellOf_44 trivial hF
theorem vX11_strength {G : az_G} {d : Nat} {x0 : Int} {h : az_H} {Q : Option az_V → az_H → Prop} (hF : (if x0 = 42 then Q (some (vi 3)) h else (if x0 = 47 then Q (some (vi 3)) h else (if x0 = 38 then Q (some (vi 3)) h else (if x0 = 43 then Q (some (vi 2)) h else (if x0 = 45 then Q (some (vi 2)) h else (if x0 = 124 then Q (some (vi 2)) h else (if x0 = 60 then Q (some (vi 1)) h else (if x0 = 61 then Q (some (vi 1)) h else Q (some (vi 0)) h))))))))) : cz G mX11_strength d 0 0 [vi x0] h Q := by
  refine cz_of (ls := [some (vi x0)]) (by decide +kernel) (Nat.le_of_ble_eq_true rfl) rfl ?_
  refine rz_iload_n dX11_strength_0 rfl (show _ = some (some (vi x0)) from rfl) ?_
  refine rz_bipush (v := 42) dX11_strength_1 (by decide) (by decide) ?_
  refine rz_icmp_eq (tgt := 18) dX11_strength_3 (by decide) (fun c => ?_) (fun c => ?_)
  · replace hF := ite_t hF c
    refine rz_iconst dX11_strength_18 rfl (by decide) ?_
    refine rz_goto (tgt := 61) dX11_strength_19 (by decide) ?_
    exact rz_iret dX11_strength_61 trivial hF
  · replace hF := ite_f hF c
    refine rz_iload_n dX11_strength_6 rfl (show _ = some (some (vi x0)) from rfl) ?_
    refine rz_bipush (v := 47) dX11_strength_7 (by decide) (by decide) ?_
    refine rz_icmp_eq (tgt := 18) dX11_strength_9 (by decide) (fun c => ?_) (fun c => ?_)
    · replace hF := ite_t hF c
      refine rz_iconst dX11_strength_18 rfl (by decide) ?_
      refine rz_goto (tgt := 61) dX11_strength_19 (by decide) ?_
      exact rz_iret dX11_strength_61 trivial hF
    · replace hF := ite_f hF c
      refine rz_iload_n dX11_strength_12 rfl (show _ = some (some (vi x0)) from rfl) ?_
      refine rz_bipush (v := 38) dX11_strength_13 (by decide) (by decide) ?_
      refine rz_icmp_ne (tgt := 22) dX11_strength_15 (by decide) (fun c => ?_) (fun c => ?_)
      · replace hF := ite_f hF c
        refine rz_iload_n dX11_strength_22 rfl (show _ = some (some (vi x0)) from rfl) ?_
        refine rz_bipush (v := 43) dX11_strength_23 (by decide) (by decide) ?_
        refine rz_icmp_eq (tgt := 40) dX11_strength_25 (by decide) (fun c => ?_) (fun c => ?_)
        · replace hF := ite_t hF c
          refine rz_iconst dX11_strength_40 rfl (by decide) ?_
          refine rz_goto (tgt := 61) dX11_strength_41 (by decide) ?_
          exact rz_iret dX11_strength_61 trivial hF
        · replace hF := ite_f hF c
          refine rz_iload_n dX11_strength_28 rfl (show _ = some (some (vi x0)) from rfl) ?_
          refine rz_bipush (v := 45) dX11_strength_29 (by decide) (by decide) ?_
          refine rz_icmp_eq (tgt := 40) dX11_strength_31 (by decide) (fun c => ?_) (fun c => ?_)
          · replace hF := ite_t hF c
            refine rz_iconst dX11_strength_40 rfl (by decide) ?_
            refine rz_goto (tgt := 61) dX11_strength_41 (by decide) ?_
            exact rz_iret dX11_strength_61 trivial hF
          · replace hF := ite_f hF c
            refine rz_iload_n dX11_strength_34 rfl (show _ = some (some (vi x0)) from rfl) ?_
            refine rz_bipush (v := 124) dX11_strength_35 (by decide) (by decide) ?_
            refine rz_icmp_ne (tgt := 44) dX11_strength_37 (by decide) (fun c => ?_) (fun c => ?_)
            · replace hF := ite_f hF c
              refine rz_iload_n dX11_strength_44 rfl (show _ = some (some (vi x0)) from rfl) ?_
              refine rz_bipush (v := 60) dX11_strength_45 (by decide) (by decide) ?_
              refine rz_icmp_eq (tgt := 56) dX11_strength_47 (by decide) (fun c => ?_) (fun c => ?_)
              · replace hF := ite_t hF c
                refine rz_iconst dX11_strength_56 rfl (by decide) ?_
                refine rz_goto (tgt := 61) dX11_strength_57 (by decide) ?_
                exact rz_iret dX11_strength_61 trivial hF
              · replace hF := ite_f hF c
                refine rz_iload_n dX11_strength_50 rfl (show _ = some (some (vi x0)) from rfl) ?_
                refine rz_bipush (v := 61) dX11_strength_51 (by decide) (by decide) ?_
                refine rz_icmp_ne (tgt := 60) dX11_strength_53 (by decide) (fun c => ?_) (fun c => ?_)
                · replace hF := ite_f hF c
                  refine rz_iconst dX11_strength_60 rfl (by decide) ?_
                  exact rz_iret dX11_strength_61 trivial hF
                · replace hF := ite_t hF c
                  refine rz_iconst dX11_strength_56 rfl (by decide) ?_
                  refine rz_goto (tgt := 61) dX11_strength_57 (by decide) ?_
                  exact rz_iret dX11_strength_61 trivial hF
            · replace hF := ite_t hF c
              refine rz_iconst dX11_strength_40 rfl (by decide) ?_
              refine rz_goto (tgt := 61) dX11_strength_41 (by decide) ?_
              exact rz_iret dX11_strength_61 trivial hF
      · replace hF := ite_t hF c
        refine rz_iconst dX11_strength_18 rfl (by decide) ?_
        refine rz_goto (tgt := 61) dX11_strength_19 (by decide) ?_
        exact rz_iret dX11_strength_61 trivial hF
theorem vX11_stepOf {G : az_G} {d : Nat} {x0 : Int} {h : az_H} {Q : Option az_V → az_H → Prop} (hF : (if x0 = 38 then Q (some (vi 16)) h else (if x0 = 42 then Q (some (vi 14)) h else (if x0 = 43 then Q (some (vi 11)) h else (if x0 = 45 then Q (some (vi 12)) h else (if x0 = 47 then Q (some (vi 15)) h else (if x0 = 60 then Q (some (vi 17)) h else (if x0 = 124 then Q (some (vi 13)) h else Q (some (vi 18)) h)))))))) : cz G mX11_stepOf d 0 0 [vi x0] h Q := by
  refine cz_of (ls := [some (vi x0)]) (by decide +kernel) (Nat.le_of_ble_eq_true rfl) rfl ?_
  refine rz_iload_n dX11_stepOf_0 rfl (show _ = some (some (vi x0)) from rfl) ?_
  by_cases c1 : x0 = 38
  · replace hF := ite_t hF c1
    refine rz_lookup (off := 82) (tgt := 83) dX11_stepOf_1 (by decide) (by rw [c1]; rfl) (by decide) ?_
    refine rz_bipush (v := 16) dX11_stepOf_83 (by decide) (by decide) ?_
    exact rz_iret dX11_stepOf_85 trivial hF
  · replace hF := ite_f hF c1
    by_cases c2 : x0 = 42
    · replace hF := ite_t hF c2
      refine rz_lookup (off := 76) (tgt := 77) dX11_stepOf_1 (by decide) (by rw [c2]; rfl) (by decide) ?_
      refine rz_bipush (v := 14) dX11_stepOf_77 (by decide) (by decide) ?_
      exact rz_iret dX11_stepOf_79 trivial hF
    · replace hF := ite_f hF c2
      by_cases c3 : x0 = 43
      · replace hF := ite_t hF c3
        refine rz_lookup (off := 67) (tgt := 68) dX11_stepOf_1 (by decide) (by rw [c3]; rfl) (by decide) ?_
        refine rz_bipush (v := 11) dX11_stepOf_68 (by decide) (by decide) ?_
        exact rz_iret dX11_stepOf_70 trivial hF
      · replace hF := ite_f hF c3
        by_cases c4 : x0 = 45
        · replace hF := ite_t hF c4
          refine rz_lookup (off := 70) (tgt := 71) dX11_stepOf_1 (by decide) (by rw [c4]; rfl) (by decide) ?_
          refine rz_bipush (v := 12) dX11_stepOf_71 (by decide) (by decide) ?_
          exact rz_iret dX11_stepOf_73 trivial hF
        · replace hF := ite_f hF c4
          by_cases c5 : x0 = 47
          · replace hF := ite_t hF c5
            refine rz_lookup (off := 79) (tgt := 80) dX11_stepOf_1 (by decide) (by rw [c5]; rfl) (by decide) ?_
            refine rz_bipush (v := 15) dX11_stepOf_80 (by decide) (by decide) ?_
            exact rz_iret dX11_stepOf_82 trivial hF
          · replace hF := ite_f hF c5
            by_cases c6 : x0 = 60
            · replace hF := ite_t hF c6
              refine rz_lookup (off := 85) (tgt := 86) dX11_stepOf_1 (by decide) (by rw [c6]; rfl) (by decide) ?_
              refine rz_bipush (v := 17) dX11_stepOf_86 (by decide) (by decide) ?_
              exact rz_iret dX11_stepOf_88 trivial hF
            · replace hF := ite_f hF c6
              by_cases c7 : x0 = 124
              · replace hF := ite_t hF c7
                refine rz_lookup (off := 73) (tgt := 74) dX11_stepOf_1 (by decide) (by rw [c7]; rfl) (by decide) ?_
                refine rz_bipush (v := 13) dX11_stepOf_74 (by decide) (by decide) ?_
                exact rz_iret dX11_stepOf_76 trivial hF
              · replace hF := ite_f hF c7
                refine rz_lookup (off := 88) (tgt := 89) dX11_stepOf_1 (by decide) (by simp [Op.lookupswitch.offset, show ¬ (38 : Int) = x0 from fun q => c1 q.symm, show ¬ (42 : Int) = x0 from fun q => c2 q.symm, show ¬ (43 : Int) = x0 from fun q => c3 q.symm, show ¬ (45 : Int) = x0 from fun q => c4 q.symm, show ¬ (47 : Int) = x0 from fun q => c5 q.symm, show ¬ (60 : Int) = x0 from fun q => c6 q.symm, show ¬ (124 : Int) = x0 from fun q => c7 q.symm]) (by decide) ?_
                refine rz_bipush (v := 18) dX11_stepOf_89 (by decide) (by decide) ?_
                exact rz_iret dX11_stepOf_91 trivial hF
theorem vX11_top {G : az_G} {d : Nat} {x0 : Nat} {h : az_H} {Q : Option az_V → az_H → Prop} (hF : rdI h x0 11 15 (fun f1 => (if f1 = 0 then Q (some (vi 0)) h else rdO h x0 11 16 (fun o2 => rdI h x0 11 15 (fun f3 => ldI h o2 (.int) (w32 (f3 - 1)) (fun e4 => Q (some (vi e4)) h)))))) : cz G mX11_top d 0 0 [vo x0] h Q := by
  refine cz_of (ls := [some (vo x0)]) (by decide +kernel) (Nat.le_of_ble_eq_true rfl) rfl ?_
  refine rz_aload_n dX11_top_0 rfl (show _ = some (some (vo x0)) from rfl) ?_
  replace hF := rdI_e hF
  obtain ⟨fs, f1, hg, hv, hF⟩ := hF
  refine rz_getf dX11_top_1 fl_X11_175 hg hv ?_
  refine rz_if_ne (tgt := 11) dX11_top_4 (by decide) (fun c => ?_) (fun c => ?_)
  · replace hF := ite_f hF c
    refine rz_aload_n dX11_top_11 rfl (show _ = some (some (vo x0)) from rfl) ?_
    replace hF := rdO_e hF
    obtain ⟨fs, o2, hg, hv, hF⟩ := hF
    refine rz_getf dX11_top_12 fl_X11_32 hg hv ?_
    refine rz_aload_n dX11_top_15 rfl (show _ = some (some (vo x0)) from rfl) ?_
    replace hF := rdI_e hF
    obtain ⟨fs, f3, hg, hv, hF⟩ := hF
    refine rz_getf dX11_top_16 fl_X11_175 hg hv ?_
    refine rz_iconst dX11_top_19 rfl (by decide) ?_
    refine rz_isub dX11_top_20 ?_
    replace hF := ldI_e hF
    obtain ⟨xs, hg, h0, h1, hF⟩ := hF
    refine rz_iald dX11_top_21 hg h0 h1 ?_
    generalize xs.getD _ 0 = e4 at hF ⊢
    exact rz_iret dX11_top_22 trivial hF
  · replace hF := ite_t hF c
    refine rz_iconst dX11_top_7 rfl (by decide) ?_
    refine rz_goto (tgt := 22) dX11_top_8 (by decide) ?_
    exact rz_iret dX11_top_22 trivial hF
def pX11_reduce_0 (G : az_G) (d : Nat) (x0 : Nat) (x1 : Int) (h : az_H) (Q : Option az_V → az_H → Prop) : Prop := ez G mX11_reduce (d + 1) 0 0 0 [some (vo x0), some (vi x1)] [] h Q
theorem vX11_reduce_0 {G : az_G} {d : Nat} {x0 : Nat} {x1 : Int} {h : az_H} {Q : Option az_V → az_H → Prop} (hF : rcv h x0 11 (cz G mX11_top d 0 0 [vo x0] h (fun v h1 => atI v (fun r2 => cz G mX11_strength d 0 0 [vi r2] h1 (fun v h3 => atI v (fun r4 => (if r4 < x1 then Q none h3 else rcv h3 x0 11 (cz G mX11_top d 0 0 [vo x0] h3 (fun v h5 => atI v (fun r6 => cz G mX11_strength d 0 0 [vi r6] h5 (fun v h7 => atI v (fun r8 => (if r8 ≤ 0 then Q none h7 else rcv h7 x0 11 (cz G mX11_top d 0 0 [vo x0] h7 (fun v h9 => atI v (fun r10 => cz G mX11_stepOf d 0 0 [vi r10] h9 (fun v h11 => atI v (fun r12 => rcv h11 x0 11 (cz G mX11_step d 0 0 [vo x0, vi r12, vi 0] h11 (fun v h13 => atV v (rdI h13 x0 11 15 (fun f14 => wrF h13 x0 11 15 (.int) (vi (w32 (f14 - 1))) (fun h15 => pX11_reduce_0 G d x0 x1 h15 Q))))))))))))))))))))))) : pX11_reduce_0 G d x0 x1 h Q := by
  unfold pX11_reduce_0
  refine rz_aload_n dX11_reduce_0 rfl (show _ = some (some (vo x0)) from rfl) ?_
  replace hF := rcv_e hF
  obtain ⟨fs, hg, hF⟩ := hF
  refine rz_callV (mc' := 0) (ms' := 0) (mc := 0) (ms := 0) (st := []) dX11_reduce_1 cV_X11_178 rfl hg ⟨_, _, rfl⟩ rfl (Nat.le_of_ble_eq_true rfl) hF (fun v h1 hG => ?_)
  clear hF
  revert hG
  intro hF
  replace hF := atI_e hF
  obtain ⟨r2, rfl, hF⟩ := hF
  refine rz_callS (mc' := 0) (ms' := 0) (mc := 0) (ms := 0) (st := []) dX11_reduce_4 cS_X11_182 rfl rfl (Nat.le_of_ble_eq_true rfl) hF (fun v h3 hG => ?_)
  clear hF
  revert hG
  intro hF
  replace hF := atI_e hF
  obtain ⟨r4, rfl, hF⟩ := hF
  refine rz_iload_n dX11_reduce_7 rfl (show _ = some (some (vi x1)) from rfl) ?_
  refine rz_icmp_lt (tgt := 46) dX11_reduce_8 (by decide) (fun c => ?_) (fun c => ?_)
  · replace hF := ite_t hF c
    exact rz_vret dX11_reduce_46 trivial hF
  · replace hF := ite_f hF c
    refine rz_aload_n dX11_reduce_11 rfl (show _ = some (some (vo x0)) from rfl) ?_
    replace hF := rcv_e hF
    obtain ⟨fs, hg, hF⟩ := hF
    refine rz_callV (mc' := 0) (ms' := 0) (mc := 0) (ms := 0) (st := []) dX11_reduce_12 cV_X11_178 rfl hg ⟨_, _, rfl⟩ rfl (Nat.le_of_ble_eq_true rfl) hF (fun v h5 hG => ?_)
    clear hF
    revert hG
    intro hF
    replace hF := atI_e hF
    obtain ⟨r6, rfl, hF⟩ := hF
    refine rz_callS (mc' := 0) (ms' := 0) (mc := 0) (ms := 0) (st := []) dX11_reduce_15 cS_X11_182 rfl rfl (Nat.le_of_ble_eq_true rfl) hF (fun v h7 hG => ?_)
    clear hF
    revert hG
    intro hF
    replace hF := atI_e hF
    obtain ⟨r8, rfl, hF⟩ := hF
    refine rz_if_le (tgt := 46) dX11_reduce_18 (by decide) (fun c => ?_) (fun c => ?_)
    · replace hF := ite_t hF c
      exact rz_vret dX11_reduce_46 trivial hF
    · replace hF := ite_f hF c
      refine rz_aload_n dX11_reduce_21 rfl (show _ = some (some (vo x0)) from rfl) ?_
      refine rz_aload_n dX11_reduce_22 rfl (show _ = some (some (vo x0)) from rfl) ?_
      replace hF := rcv_e hF
      obtain ⟨fs, hg, hF⟩ := hF
      refine rz_callV (mc' := 0) (ms' := 0) (mc := 0) (ms := 0) (st := [vo x0]) dX11_reduce_23 cV_X11_178 rfl hg ⟨_, _, rfl⟩ rfl (Nat.le_of_ble_eq_true rfl) hF (fun v h9 hG => ?_)
      clear hF
      revert hG
      intro hF
      replace hF := atI_e hF
      obtain ⟨r10, rfl, hF⟩ := hF
      refine rz_callS (mc' := 0) (ms' := 0) (mc := 0) (ms := 0) (st := [vo x0]) dX11_reduce_26 cS_X11_185 rfl rfl (Nat.le_of_ble_eq_true rfl) hF (fun v h11 hG => ?_)
      clear hF
      revert hG
      intro hF
      replace hF := atI_e hF
      obtain ⟨r12, rfl, hF⟩ := hF
      refine rz_iconst dX11_reduce_29 rfl (by decide) ?_
      replace hF := rcv_e hF
      obtain ⟨fs, hg, hF⟩ := hF
      refine rz_callV (mc' := 0) (ms' := 0) (mc := 0) (ms := 0) (st := []) dX11_reduce_30 cV_X11_188 rfl hg ⟨_, _, rfl⟩ rfl (Nat.le_of_ble_eq_true rfl) hF (fun v h13 hG => ?_)
      clear hF
      revert hG
      intro hF
      replace hF := atV_e hF
      obtain ⟨rfl, hF⟩ := hF
      refine rz_aload_n dX11_reduce_33 rfl (show _ = some (some (vo x0)) from rfl) ?_
      refine rz_dup dX11_reduce_34 (by rintro ⟨_, q⟩; cases q) ?_
      replace hF := rdI_e hF
      obtain ⟨fs, f14, hg, hv, hF⟩ := hF
      refine rz_getf dX11_reduce_35 fl_X11_175 hg hv ?_
      refine rz_iconst dX11_reduce_38 rfl (by decide) ?_
      refine rz_isub dX11_reduce_39 ?_
      replace hF := wrF_e hF
      obtain ⟨fs, hg, hv, hF⟩ := hF
      refine rz_putf dX11_reduce_40 fl_X11_175 (Or.inl rfl) hg hv ?_
      refine rz_goto (tgt := 0) dX11_reduce_43 (by decide) ?_
      exact hF
theorem vX11_reduce {G : az_G} {d : Nat} {x0 : Nat} {x1 : Int} {h : az_H} {Q : Option az_V → az_H → Prop} (hF : pX11_reduce_0 G d x0 x1 h Q) : cz G mX11_reduce (d + 1) 0 0 [vo x0, vi x1] h Q := by
  refine cz_of (ls := [some (vo x0), some (vi x1)]) (by decide +kernel) (Nat.le_of_ble_eq_true rfl) rfl ?_
  exact hF
def pX11_complete_0 (G : az_G) (d : Nat) (x0 : Nat) (h : az_H) (Q : Option az_V → az_H → Prop) : Prop := ez G mX11_complete (d + 1) 0 0 0 [some (vo x0)] [] h Q
def pX11_complete_16 (G : az_G) (d : Nat) (x0 : Nat) (h : az_H) (Q : Option az_V → az_H → Prop) : Prop := ez G mX11_complete (d + 1) 0 0 16 [some (vo x0)] [] h Q
theorem vX11_complete_16 {G : az_G} {d : Nat} {x0 : Nat} {h : az_H} {Q : Option az_V → az_H → Prop} (hF : rcv h x0 11 (cz G mX11_top d 0 0 [vo x0] h (fun v h1 => atI v (fun r2 => (if r2 = 1 then rcv h1 x0 11 (cz G mX11_step d 0 0 [vo x0, vi 10, vi 0] h1 (fun v h6 => atV v (rdI h6 x0 11 15 (fun f7 => wrF h6 x0 11 15 (.int) (vi (w32 (f7 - 1))) (fun h8 => pX11_complete_0 G d x0 h8 Q))))) else rcv h1 x0 11 (cz G mX11_step d 0 0 [vo x0, vi 9, vi 0] h1 (fun v h3 => atV v (rdI h3 x0 11 15 (fun f4 => wrF h3 x0 11 15 (.int) (vi (w32 (f4 - 1))) (fun h5 => pX11_complete_0 G d x0 h5 Q)))))))))) : pX11_complete_16 G d x0 h Q := by
  unfold pX11_complete_16
  refine rz_aload_n dX11_complete_16 rfl (show _ = some (some (vo x0)) from rfl) ?_
  refine rz_aload_n dX11_complete_17 rfl (show _ = some (some (vo x0)) from rfl) ?_
  replace hF := rcv_e hF
  obtain ⟨fs, hg, hF⟩ := hF
  refine rz_callV (mc' := 0) (ms' := 0) (mc := 0) (ms := 0) (st := [vo x0]) dX11_complete_18 cV_X11_178 rfl hg ⟨_, _, rfl⟩ rfl (Nat.le_of_ble_eq_true rfl) hF (fun v h1 hG => ?_)
  clear hF
  revert hG
  intro hF
  replace hF := atI_e hF
  obtain ⟨r2, rfl, hF⟩ := hF
  refine rz_iconst dX11_complete_21 rfl (by decide) ?_
  refine rz_icmp_ne (tgt := 30) dX11_complete_22 (by decide) (fun c => ?_) (fun c => ?_)
  · replace hF := ite_f hF c
    refine rz_bipush (v := 9) dX11_complete_30 (by decide) (by decide) ?_
    refine rz_iconst dX11_complete_32 rfl (by decide) ?_
    replace hF := rcv_e hF
    obtain ⟨fs, hg, hF⟩ := hF
    refine rz_callV (mc' := 0) (ms' := 0) (mc := 0) (ms := 0) (st := []) dX11_complete_33 cV_X11_188 rfl hg ⟨_, _, rfl⟩ rfl (Nat.le_of_ble_eq_true rfl) hF (fun v h3 hG => ?_)
    clear hF
    revert hG
    intro hF
    replace hF := atV_e hF
    obtain ⟨rfl, hF⟩ := hF
    refine rz_aload_n dX11_complete_36 rfl (show _ = some (some (vo x0)) from rfl) ?_
    refine rz_dup dX11_complete_37 (by rintro ⟨_, q⟩; cases q) ?_
    replace hF := rdI_e hF
    obtain ⟨fs, f4, hg, hv, hF⟩ := hF
    refine rz_getf dX11_complete_38 fl_X11_175 hg hv ?_
    refine rz_iconst dX11_complete_41 rfl (by decide) ?_
    refine rz_isub dX11_complete_42 ?_
    replace hF := wrF_e hF
    obtain ⟨fs, hg, hv, hF⟩ := hF
    refine rz_putf dX11_complete_43 fl_X11_175 (Or.inl rfl) hg hv ?_
    refine rz_goto (tgt := 0) dX11_complete_46 (by decide) ?_
    exact hF
  · replace hF := ite_t hF c
    refine rz_bipush (v := 10) dX11_complete_25 (by decide) (by decide) ?_
    refine rz_goto (tgt := 32) dX11_complete_27 (by decide) ?_
    refine rz_iconst dX11_complete_32 rfl (by decide) ?_
    replace hF := rcv_e hF
    obtain ⟨fs, hg, hF⟩ := hF
    refine rz_callV (mc' := 0) (ms' := 0) (mc := 0) (ms := 0) (st := []) dX11_complete_33 cV_X11_188 rfl hg ⟨_, _, rfl⟩ rfl (Nat.le_of_ble_eq_true rfl) hF (fun v h6 hG => ?_)
    clear hF
    revert hG
    intro hF
    replace hF := atV_e hF
    obtain ⟨rfl, hF⟩ := hF
    refine rz_aload_n dX11_complete_36 rfl (show _ = some (some (vo x0)) from rfl) ?_
    refine rz_dup dX11_complete_37 (by rintro ⟨_, q⟩; cases q) ?_
    replace hF := rdI_e hF
    obtain ⟨fs, f7, hg, hv, hF⟩ := hF
    refine rz_getf dX11_complete_38 fl_X11_175 hg hv ?_
    refine rz_iconst dX11_complete_41 rfl (by decide) ?_
    refine rz_isub dX11_complete_42 ?_
    replace hF := wrF_e hF
    obtain ⟨fs, hg, hv, hF⟩ := hF
    refine rz_putf dX11_complete_43 fl_X11_175 (Or.inl rfl) hg hv ?_
    refine rz_goto (tgt := 0) dX11_complete_46 (by decide) ?_
    exact hF
theorem vX11_complete_0 {G : az_G} {d : Nat} {x0 : Nat} {h : az_H} {Q : Option az_V → az_H → Prop} (hF : rcv h x0 11 (cz G mX11_top d 0 0 [vo x0] h (fun v h1 => atI v (fun r2 => (if r2 = 1 then pX11_complete_16 G d x0 h1 Q else rcv h1 x0 11 (cz G mX11_top d 0 0 [vo x0] h1 (fun v h3 => atI v (fun r4 => (if r4 = 2 then pX11_complete_16 G d x0 h3 Q else Q none h3))))))))) : pX11_complete_0 G d x0 h Q := by
  unfold pX11_complete_0
  refine rz_aload_n dX11_complete_0 rfl (show _ = some (some (vo x0)) from rfl) ?_
  replace hF := rcv_e hF
  obtain ⟨fs, hg, hF⟩ := hF
  refine rz_callV (mc' := 0) (ms' := 0) (mc := 0) (ms := 0) (st := []) dX11_complete_1 cV_X11_178 rfl hg ⟨_, _, rfl⟩ rfl (Nat.le_of_ble_eq_true rfl) hF (fun v h1 hG => ?_)
  clear hF
  revert hG
  intro hF
  replace hF := atI_e hF
  obtain ⟨r2, rfl, hF⟩ := hF
  refine rz_iconst dX11_complete_4 rfl (by decide) ?_
  refine rz_icmp_eq (tgt := 16) dX11_complete_5 (by decide) (fun c => ?_) (fun c => ?_)
  · replace hF := ite_t hF c
    exact hF
  · replace hF := ite_f hF c
    refine rz_aload_n dX11_complete_8 rfl (show _ = some (some (vo x0)) from rfl) ?_
    replace hF := rcv_e hF
    obtain ⟨fs, hg, hF⟩ := hF
    refine rz_callV (mc' := 0) (ms' := 0) (mc := 0) (ms := 0) (st := []) dX11_complete_9 cV_X11_178 rfl hg ⟨_, _, rfl⟩ rfl (Nat.le_of_ble_eq_true rfl) hF (fun v h3 hG => ?_)
    clear hF
    revert hG
    intro hF
    replace hF := atI_e hF
    obtain ⟨r4, rfl, hF⟩ := hF
    refine rz_iconst dX11_complete_12 rfl (by decide) ?_
    refine rz_icmp_ne (tgt := 49) dX11_complete_13 (by decide) (fun c => ?_) (fun c => ?_)
    · replace hF := ite_f hF c
      exact rz_vret dX11_complete_49 trivial hF
    · replace hF := ite_t hF c
      exact hF
theorem vX11_complete {G : az_G} {d : Nat} {x0 : Nat} {h : az_H} {Q : Option az_V → az_H → Prop} (hF : pX11_complete_0 G d x0 h Q) : cz G mX11_complete (d + 1) 0 0 [vo x0] h Q := by
  refine cz_of (ls := [some (vo x0)]) (by decide +kernel) (Nat.le_of_ble_eq_true rfl) rfl ?_
  exact hF
def pX11_isOperand_30 (G : az_G) (d : Nat) (x0 : Nat) (x1 : Int) (h : az_H) (Q : Option az_V → az_H → Prop) : Prop := ez G mX11_isOperand (d + 1) 0 0 30 [some (vo x0), some (vi x1), none, none] [] h Q
def pX11_isOperand_137 (G : az_G) (d : Nat) (x0 : Nat) (s0 : Int) (h : az_H) (Q : Option az_V → az_H → Prop) : Prop := ez G mX11_isOperand (d + 1) 0 0 137 [some (vo x0), none, none, none] [vi s0] h Q
theorem vX11_isOperand_137 {G : az_G} {d : Nat} {x0 : Nat} {s0 : Int} {h : az_H} {Q : Option az_V → az_H → Prop} (hF : (if s0 ≤ 0 then (if s0 ≤ 0 then Q (some (vi 0)) h else Q (some (vi 1)) h) else (if s0 = 7 then rdI h x0 11 5 (fun f4 => (if f4 = 80 then rcv h x0 11 (cz G mX11_step d 0 0 [vo x0, vi s0, vi 0] h (fun v h6 => atV v ((if s0 ≤ 0 then Q (some (vi 0)) h6 else Q (some (vi 1)) h6)))) else rcv h x0 11 (cz G mX11_step d 0 0 [vo x0, vi s0, vi 1] h (fun v h5 => atV v ((if s0 ≤ 0 then Q (some (vi 0)) h5 else Q (some (vi 1)) h5)))))) else (if s0 = 8 then rdI h x0 11 5 (fun f2 => rcv h x0 11 (cz G mX11_step d 0 0 [vo x0, vi s0, vi (w32 (f2 - 27952))] h (fun v h3 => atV v ((if s0 ≤ 0 then Q (some (vi 0)) h3 else Q (some (vi 1)) h3))))) else rcv h x0 11 (cz G mX11_step d 0 0 [vo x0, vi s0, vi 0] h (fun v h1 => atV v ((if s0 ≤ 0 then Q (some (vi 0)) h1 else Q (some (vi 1)) h1)))))))) : pX11_isOperand_137 G d x0 s0 h Q := by
  unfold pX11_isOperand_137
  refine rz_istore_n (ls' := [some (vo x0), none, none, some (vi s0)]) dX11_isOperand_137 rfl (Nat.le_of_ble_eq_true rfl) rfl ?_
  refine rz_iload_n dX11_isOperand_138 rfl (show _ = some (some (vi s0)) from rfl) ?_
  refine rz_if_le (tgt := 188) dX11_isOperand_139 (by decide) (fun c => ?_) (fun c => ?_)
  · replace hF := ite_t hF c
    refine rz_iload_n dX11_isOperand_188 rfl (show _ = some (some (vi s0)) from rfl) ?_
    refine rz_if_le (tgt := 196) dX11_isOperand_189 (by decide) (fun c => ?_) (fun c => ?_)
    · replace hF := ite_t hF c
      refine rz_iconst dX11_isOperand_196 rfl (by decide) ?_
      exact rz_iret dX11_isOperand_197 (Or.inl rfl) hF
    · replace hF := ite_f hF c
      refine rz_iconst dX11_isOperand_192 rfl (by decide) ?_
      refine rz_goto (tgt := 197) dX11_isOperand_193 (by decide) ?_
      exact rz_iret dX11_isOperand_197 (Or.inr rfl) hF
  · replace hF := ite_f hF c
    refine rz_aload_n dX11_isOperand_142 rfl (show _ = some (some (vo x0)) from rfl) ?_
    refine rz_iload_n dX11_isOperand_143 rfl (show _ = some (some (vi s0)) from rfl) ?_
    refine rz_iload_n dX11_isOperand_144 rfl (show _ = some (some (vi s0)) from rfl) ?_
    refine rz_bipush (v := 7) dX11_isOperand_145 (by decide) (by decide) ?_
    refine rz_icmp_ne (tgt := 167) dX11_isOperand_147 (by decide) (fun c => ?_) (fun c => ?_)
    · replace hF := ite_f hF c
      refine rz_iload_n dX11_isOperand_167 rfl (show _ = some (some (vi s0)) from rfl) ?_
      refine rz_bipush (v := 8) dX11_isOperand_168 (by decide) (by decide) ?_
      refine rz_icmp_ne (tgt := 184) dX11_isOperand_170 (by decide) (fun c => ?_) (fun c => ?_)
      · replace hF := ite_f hF c
        refine rz_iconst dX11_isOperand_184 rfl (by decide) ?_
        replace hF := rcv_e hF
        obtain ⟨fs, hg, hF⟩ := hF
        refine rz_callV (mc' := 0) (ms' := 0) (mc := 0) (ms := 0) (st := []) dX11_isOperand_185 cV_X11_188 rfl hg ⟨_, _, rfl⟩ rfl (Nat.le_of_ble_eq_true rfl) hF (fun v h1 hG => ?_)
        clear hF
        revert hG
        intro hF
        replace hF := atV_e hF
        obtain ⟨rfl, hF⟩ := hF
        refine rz_iload_n dX11_isOperand_188 rfl (show _ = some (some (vi s0)) from rfl) ?_
        refine rz_if_le (tgt := 196) dX11_isOperand_189 (by decide) (fun c => ?_) (fun c => ?_)
        · replace hF := ite_t hF c
          refine rz_iconst dX11_isOperand_196 rfl (by decide) ?_
          exact rz_iret dX11_isOperand_197 (Or.inl rfl) hF
        · replace hF := ite_f hF c
          refine rz_iconst dX11_isOperand_192 rfl (by decide) ?_
          refine rz_goto (tgt := 197) dX11_isOperand_193 (by decide) ?_
          exact rz_iret dX11_isOperand_197 (Or.inr rfl) hF
      · replace hF := ite_t hF c
        refine rz_aload_n dX11_isOperand_173 rfl (show _ = some (some (vo x0)) from rfl) ?_
        replace hF := rdI_e hF
        obtain ⟨fs, f2, hg, hv, hF⟩ := hF
        refine rz_getf dX11_isOperand_174 fl_X11_160 hg hv ?_
        refine rz_sipush (v := 27952) dX11_isOperand_177 (by decide) (by decide) ?_
        refine rz_isub dX11_isOperand_180 ?_
        refine rz_goto (tgt := 185) dX11_isOperand_181 (by decide) ?_
        replace hF := rcv_e hF
        obtain ⟨fs, hg, hF⟩ := hF
        refine rz_callV (mc' := 0) (ms' := 0) (mc := 0) (ms := 0) (st := []) dX11_isOperand_185 cV_X11_188 rfl hg ⟨_, _, rfl⟩ rfl (Nat.le_of_ble_eq_true rfl) hF (fun v h3 hG => ?_)
        clear hF
        revert hG
        intro hF
        replace hF := atV_e hF
        obtain ⟨rfl, hF⟩ := hF
        refine rz_iload_n dX11_isOperand_188 rfl (show _ = some (some (vi s0)) from rfl) ?_
        refine rz_if_le (tgt := 196) dX11_isOperand_189 (by decide) (fun c => ?_) (fun c => ?_)
        · replace hF := ite_t hF c
          refine rz_iconst dX11_isOperand_196 rfl (by decide) ?_
          exact rz_iret dX11_isOperand_197 (Or.inl rfl) hF
        · replace hF := ite_f hF c
          refine rz_iconst dX11_isOperand_192 rfl (by decide) ?_
          refine rz_goto (tgt := 197) dX11_isOperand_193 (by decide) ?_
          exact rz_iret dX11_isOperand_197 (Or.inr rfl) hF
    · replace hF := ite_t hF c
      refine rz_aload_n dX11_isOperand_150 rfl (show _ = some (some (vo x0)) from rfl) ?_
      replace hF := rdI_e hF
      obtain ⟨fs, f4, hg, hv, hF⟩ := hF
      refine rz_getf dX11_isOperand_151 fl_X11_160 hg hv ?_
      refine rz_bipush (v := 80) dX11_isOperand_154 (by decide) (by decide) ?_
      refine rz_icmp_ne (tgt := 163) dX11_isOperand_156 (by decide) (fun c => ?_) (fun c => ?_)
      · replace hF := ite_f hF c
        refine rz_iconst dX11_isOperand_163 rfl (by decide) ?_
        refine rz_goto (tgt := 185) dX11_isOperand_164 (by decide) ?_
        replace hF := rcv_e hF
        obtain ⟨fs, hg, hF⟩ := hF
        refine rz_callV (mc' := 0) (ms' := 0) (mc := 0) (ms := 0) (st := []) dX11_isOperand_185 cV_X11_188 rfl hg ⟨_, _, rfl⟩ rfl (Nat.le_of_ble_eq_true rfl) hF (fun v h5 hG => ?_)
        clear hF
        revert hG
        intro hF
        replace hF := atV_e hF
        obtain ⟨rfl, hF⟩ := hF
        refine rz_iload_n dX11_isOperand_188 rfl (show _ = some (some (vi s0)) from rfl) ?_
        refine rz_if_le (tgt := 196) dX11_isOperand_189 (by decide) (fun c => ?_) (fun c => ?_)
        · replace hF := ite_t hF c
          refine rz_iconst dX11_isOperand_196 rfl (by decide) ?_
          exact rz_iret dX11_isOperand_197 (Or.inl rfl) hF
        · replace hF := ite_f hF c
          refine rz_iconst dX11_isOperand_192 rfl (by decide) ?_
          refine rz_goto (tgt := 197) dX11_isOperand_193 (by decide) ?_
          exact rz_iret dX11_isOperand_197 (Or.inr rfl) hF
      · replace hF := ite_t hF c
        refine rz_iconst dX11_isOperand_159 rfl (by decide) ?_
        refine rz_goto (tgt := 185) dX11_isOperand_160 (by decide) ?_
        replace hF := rcv_e hF
        obtain ⟨fs, hg, hF⟩ := hF
        refine rz_callV (mc' := 0) (ms' := 0) (mc := 0) (ms := 0) (st := []) dX11_isOperand_185 cV_X11_188 rfl hg ⟨_, _, rfl⟩ rfl (Nat.le_of_ble_eq_true rfl) hF (fun v h6 hG => ?_)
        clear hF
        revert hG
        intro hF
        replace hF := atV_e hF
        obtain ⟨rfl, hF⟩ := hF
        refine rz_iload_n dX11_isOperand_188 rfl (show _ = some (some (vi s0)) from rfl) ?_
        refine rz_if_le (tgt := 196) dX11_isOperand_189 (by decide) (fun c => ?_) (fun c => ?_)
        · replace hF := ite_t hF c
          refine rz_iconst dX11_isOperand_196 rfl (by decide) ?_
          exact rz_iret dX11_isOperand_197 (Or.inl rfl) hF
        · replace hF := ite_f hF c
          refine rz_iconst dX11_isOperand_192 rfl (by decide) ?_
          refine rz_goto (tgt := 197) dX11_isOperand_193 (by decide) ?_
          exact rz_iret dX11_isOperand_197 (Or.inr rfl) hF
theorem vX11_isOperand_30 {G : az_G} {d : Nat} {x0 : Nat} {x1 : Int} {h : az_H} {Q : Option az_V → az_H → Prop} (hF : rdI h x0 11 5 (fun f1 => (if f1 = 104 then pX11_isOperand_137 G d x0 6 h Q else rdI h x0 11 5 (fun f2 => (if f2 = 80 then pX11_isOperand_137 G d x0 7 h Q else rdI h x0 11 5 (fun f3 => (if f3 = 81 then pX11_isOperand_137 G d x0 7 h Q else (if x1 = 0 then rdI h x0 11 5 (fun f4 => (if f4 = 110 then pX11_isOperand_137 G d x0 3 h Q else rdI h x0 11 5 (fun f5 => (if f5 = 118 then pX11_isOperand_137 G d x0 4 h Q else rdI h x0 11 5 (fun f6 => (if f6 = 119 then pX11_isOperand_137 G d x0 5 h Q else pX11_isOperand_137 G d x0 0 h Q)))))) else rdI h x0 11 5 (fun f7 => cz G mX11_in d 0 0 [vl f7, vl 27952, vl 27955] h (fun v h8 => atI v (fun r9 => (if r9 = 0 then pX11_isOperand_137 G d x0 0 h8 Q else pX11_isOperand_137 G d x0 8 h8 Q)))))))))))) : pX11_isOperand_30 G d x0 x1 h Q := by
  unfold pX11_isOperand_30
  refine rz_aload_n dX11_isOperand_30 rfl (show _ = some (some (vo x0)) from rfl) ?_
  replace hF := rdI_e hF
  obtain ⟨fs, f1, hg, hv, hF⟩ := hF
  refine rz_getf dX11_isOperand_31 fl_X11_160 hg hv ?_
  refine rz_bipush (v := 104) dX11_isOperand_34 (by decide) (by decide) ?_
  refine rz_icmp_ne (tgt := 44) dX11_isOperand_36 (by decide) (fun c => ?_) (fun c => ?_)
  · replace hF := ite_f hF c
    refine rz_aload_n dX11_isOperand_44 rfl (show _ = some (some (vo x0)) from rfl) ?_
    replace hF := rdI_e hF
    obtain ⟨fs, f2, hg, hv, hF⟩ := hF
    refine rz_getf dX11_isOperand_45 fl_X11_160 hg hv ?_
    refine rz_bipush (v := 80) dX11_isOperand_48 (by decide) (by decide) ?_
    refine rz_icmp_eq (tgt := 62) dX11_isOperand_50 (by decide) (fun c => ?_) (fun c => ?_)
    · replace hF := ite_t hF c
      refine rz_bipush (v := 7) dX11_isOperand_62 (by decide) (by decide) ?_
      refine rz_goto (tgt := 137) dX11_isOperand_64 (by decide) ?_
      refine ez_kp [true, false, false, false] rfl ?_
      exact hF
    · replace hF := ite_f hF c
      refine rz_aload_n dX11_isOperand_53 rfl (show _ = some (some (vo x0)) from rfl) ?_
      replace hF := rdI_e hF
      obtain ⟨fs, f3, hg, hv, hF⟩ := hF
      refine rz_getf dX11_isOperand_54 fl_X11_160 hg hv ?_
      refine rz_bipush (v := 81) dX11_isOperand_57 (by decide) (by decide) ?_
      refine rz_icmp_ne (tgt := 67) dX11_isOperand_59 (by decide) (fun c => ?_) (fun c => ?_)
      · replace hF := ite_f hF c
        refine rz_iload_n dX11_isOperand_67 rfl (show _ = some (some (vi x1)) from rfl) ?_
        refine rz_if_eq (tgt := 97) dX11_isOperand_68 (by decide) (fun c => ?_) (fun c => ?_)
        · replace hF := ite_t hF c
          refine rz_aload_n dX11_isOperand_97 rfl (show _ = some (some (vo x0)) from rfl) ?_
          replace hF := rdI_e hF
          obtain ⟨fs, f4, hg, hv, hF⟩ := hF
          refine rz_getf dX11_isOperand_98 fl_X11_160 hg hv ?_
          refine rz_bipush (v := 110) dX11_isOperand_101 (by decide) (by decide) ?_
          refine rz_icmp_ne (tgt := 110) dX11_isOperand_103 (by decide) (fun c => ?_) (fun c => ?_)
          · replace hF := ite_f hF c
            refine rz_aload_n dX11_isOperand_110 rfl (show _ = some (some (vo x0)) from rfl) ?_
            replace hF := rdI_e hF
            obtain ⟨fs, f5, hg, hv, hF⟩ := hF
            refine rz_getf dX11_isOperand_111 fl_X11_160 hg hv ?_
            refine rz_bipush (v := 118) dX11_isOperand_114 (by decide) (by decide) ?_
            refine rz_icmp_ne (tgt := 123) dX11_isOperand_116 (by decide) (fun c => ?_) (fun c => ?_)
            · replace hF := ite_f hF c
              refine rz_aload_n dX11_isOperand_123 rfl (show _ = some (some (vo x0)) from rfl) ?_
              replace hF := rdI_e hF
              obtain ⟨fs, f6, hg, hv, hF⟩ := hF
              refine rz_getf dX11_isOperand_124 fl_X11_160 hg hv ?_
              refine rz_bipush (v := 119) dX11_isOperand_127 (by decide) (by decide) ?_
              refine rz_icmp_ne (tgt := 136) dX11_isOperand_129 (by decide) (fun c => ?_) (fun c => ?_)
              · replace hF := ite_f hF c
                refine rz_iconst dX11_isOperand_136 rfl (by decide) ?_
                refine ez_kp [true, false, false, false] rfl ?_
                exact hF
              · replace hF := ite_t hF c
                refine rz_iconst dX11_isOperand_132 rfl (by decide) ?_
                refine rz_goto (tgt := 137) dX11_isOperand_133 (by decide) ?_
                refine ez_kp [true, false, false, false] rfl ?_
                exact hF
            · replace hF := ite_t hF c
              refine rz_iconst dX11_isOperand_119 rfl (by decide) ?_
              refine rz_goto (tgt := 137) dX11_isOperand_120 (by decide) ?_
              refine ez_kp [true, false, false, false] rfl ?_
              exact hF
          · replace hF := ite_t hF c
            refine rz_iconst dX11_isOperand_106 rfl (by decide) ?_
            refine rz_goto (tgt := 137) dX11_isOperand_107 (by decide) ?_
            refine ez_kp [true, false, false, false] rfl ?_
            exact hF
        · replace hF := ite_f hF c
          refine rz_aload_n dX11_isOperand_71 rfl (show _ = some (some (vo x0)) from rfl) ?_
          replace hF := rdI_e hF
          obtain ⟨fs, f7, hg, hv, hF⟩ := hF
          refine rz_getf dX11_isOperand_72 fl_X11_160 hg hv ?_
          refine rz_i2l dX11_isOperand_75 ?_
          refine rz_ldc2 (v := 27952) dX11_isOperand_76 k_1306 (by decide) ?_
          refine rz_ldc2 (v := 27955) dX11_isOperand_79 k_1307 (by decide) ?_
          refine rz_callS (mc' := 0) (ms' := 0) (mc := 0) (ms := 0) (st := []) dX11_isOperand_82 cS_X11_117 rfl rfl (Nat.le_of_ble_eq_true rfl) hF (fun v h8 hG => ?_)
          clear hF
          revert hG
          intro hF
          replace hF := atI_e hF
          obtain ⟨r9, rfl, hF⟩ := hF
          refine rz_if_eq (tgt := 93) dX11_isOperand_85 (by decide) (fun c => ?_) (fun c => ?_)
          · replace hF := ite_t hF c
            refine rz_iconst dX11_isOperand_93 rfl (by decide) ?_
            refine rz_goto (tgt := 137) dX11_isOperand_94 (by decide) ?_
            refine ez_kp [true, false, false, false] rfl ?_
            exact hF
          · replace hF := ite_f hF c
            refine rz_bipush (v := 8) dX11_isOperand_88 (by decide) (by decide) ?_
            refine rz_goto (tgt := 137) dX11_isOperand_90 (by decide) ?_
            refine ez_kp [true, false, false, false] rfl ?_
            exact hF
      · replace hF := ite_t hF c
        refine rz_bipush (v := 7) dX11_isOperand_62 (by decide) (by decide) ?_
        refine rz_goto (tgt := 137) dX11_isOperand_64 (by decide) ?_
        refine ez_kp [true, false, false, false] rfl ?_
        exact hF
  · replace hF := ite_t hF c
    refine rz_bipush (v := 6) dX11_isOperand_39 (by decide) (by decide) ?_
    refine rz_goto (tgt := 137) dX11_isOperand_41 (by decide) ?_
    refine ez_kp [true, false, false, false] rfl ?_
    exact hF
theorem vX11_isOperand {G : az_G} {d : Nat} {x0 : Nat} {x1 : Int} {h : az_H} {Q : Option az_V → az_H → Prop} (hF : rdI h x0 11 5 (fun f1 => cz G mX11_cellOf d 0 0 [vi f1] h (fun v h2 => atI v (fun r3 => (if r3 < 0 then pX11_isOperand_30 G d x0 x1 h2 Q else (if r3 < 6 then rcv h2 x0 11 (cz G mX11_step d 0 0 [vo x0, vi 2, vi r3] h2 (fun v h4 => atV v (Q (some (vi 1)) h4))) else (if x1 = 0 then rcv h2 x0 11 (cz G mX11_step d 0 0 [vo x0, vi 2, vi r3] h2 (fun v h5 => atV v (Q (some (vi 1)) h5))) else pX11_isOperand_30 G d x0 x1 h2 Q))))))) : cz G mX11_isOperand (d + 1) 0 0 [vo x0, vi x1] h Q := by
  refine cz_of (ls := [some (vo x0), some (vi x1), none, none]) (by decide +kernel) (Nat.le_of_ble_eq_true rfl) rfl ?_
  refine rz_aload_n dX11_isOperand_0 rfl (show _ = some (some (vo x0)) from rfl) ?_
  replace hF := rdI_e hF
  obtain ⟨fs, f1, hg, hv, hF⟩ := hF
  refine rz_getf dX11_isOperand_1 fl_X11_160 hg hv ?_
  refine rz_callS (mc' := 0) (ms' := 0) (mc := 0) (ms := 0) (st := []) dX11_isOperand_4 cS_X11_192 rfl rfl (Nat.le_of_ble_eq_true rfl) hF (fun v h2 hG => ?_)
  clear hF
  revert hG
  intro hF
  replace hF := atI_e hF
  obtain ⟨r3, rfl, hF⟩ := hF
  refine rz_istore_n (ls' := [some (vo x0), some (vi x1), some (vi r3), none]) dX11_isOperand_7 rfl (Nat.le_of_ble_eq_true rfl) rfl ?_
  refine rz_iload_n dX11_isOperand_8 rfl (show _ = some (some (vi r3)) from rfl) ?_
  refine rz_if_lt (tgt := 30) dX11_isOperand_9 (by decide) (fun c => ?_) (fun c => ?_)
  · replace hF := ite_t hF c
    refine ez_kp [true, true, false, false] rfl ?_
    exact hF
  · replace hF := ite_f hF c
    refine rz_iload_n dX11_isOperand_12 rfl (show _ = some (some (vi r3)) from rfl) ?_
    refine rz_bipush (v := 6) dX11_isOperand_13 (by decide) (by decide) ?_
    refine rz_icmp_lt (tgt := 22) dX11_isOperand_15 (by decide) (fun c => ?_) (fun c => ?_)
    · replace hF := ite_t hF c
      refine rz_aload_n dX11_isOperand_22 rfl (show _ = some (some (vo x0)) from rfl) ?_
      refine rz_iconst dX11_isOperand_23 rfl (by decide) ?_
      refine rz_iload_n dX11_isOperand_24 rfl (show _ = some (some (vi r3)) from rfl) ?_
      replace hF := rcv_e hF
      obtain ⟨fs, hg, hF⟩ := hF
      refine rz_callV (mc' := 0) (ms' := 0) (mc := 0) (ms := 0) (st := []) dX11_isOperand_25 cV_X11_188 rfl hg ⟨_, _, rfl⟩ rfl (Nat.le_of_ble_eq_true rfl) hF (fun v h4 hG => ?_)
      clear hF
      revert hG
      intro hF
      replace hF := atV_e hF
      obtain ⟨rfl, hF⟩ := hF
      refine rz_iconst dX11_isOperand_28 rfl (by decide) ?_
      exact rz_iret dX11_isOperand_29 (Or.inr rfl) hF
    · replace hF := ite_f hF c
      refine rz_iload_n dX11_isOperand_18 rfl (show _ = some (some (vi x1)) from rfl) ?_
      refine rz_if_ne (tgt := 30) dX11_isOperand_19 (by decide) (fun c => ?_) (fun c => ?_)
      · replace hF := ite_f hF c
        refine ez_kp [true, true, false, false] rfl ?_
        exact hF
      · replace hF := ite_t hF c
        refine rz_aload_n dX11_isOperand_22 rfl (show _ = some (some (vo x0)) from rfl) ?_
        refine rz_iconst dX11_isOperand_23 rfl (by decide) ?_
        refine rz_iload_n dX11_isOperand_24 rfl (show _ = some (some (vi r3)) from rfl) ?_
        replace hF := rcv_e hF
        obtain ⟨fs, hg, hF⟩ := hF
        refine rz_callV (mc' := 0) (ms' := 0) (mc := 0) (ms := 0) (st := []) dX11_isOperand_25 cV_X11_188 rfl hg ⟨_, _, rfl⟩ rfl (Nat.le_of_ble_eq_true rfl) hF (fun v h5 hG => ?_)
        clear hF
        revert hG
        intro hF
        replace hF := atV_e hF
        obtain ⟨rfl, hF⟩ := hF
        refine rz_iconst dX11_isOperand_28 rfl (by decide) ?_
        exact rz_iret dX11_isOperand_29 (Or.inr rfl) hF
def pX11_expression_28 (G : az_G) (d : Nat) (x0 : Nat) (x1 : Int) (x2 : Int) (x3 : Int) (x4 : Int) (h : az_H) (Q : Option az_V → az_H → Prop) : Prop := ez G mX11_expression (d + 1) 0 0 28 [some (vo x0), some (vi x1), some (vi x2), some (vi x3), some (vi x4), none] [] h Q
def pX11_expression_70 (G : az_G) (d : Nat) (x0 : Nat) (x1 : Int) (x2 : Int) (x3 : Int) (x4 : Int) (s0 : Int) (s1 : Option Nat) (h : az_H) (Q : Option az_V → az_H → Prop) : Prop := ez G mX11_expression (d + 1) 0 0 70 [some (vo x0), some (vi x1), some (vi x2), some (vi x3), some (vi x4), none] [vi s0, vr s1] h Q
def pX11_expression_188 (G : az_G) (d : Nat) (x0 : Nat) (x1 : Int) (x4 : Int) (h : az_H) (Q : Option az_V → az_H → Prop) : Prop := ez G mX11_expression (d + 1) 0 0 188 [some (vo x0), some (vi x1), none, none, some (vi x4), none] [] h Q
def pX11_expression_292 (G : az_G) (d : Nat) (x0 : Nat) (x1 : Int) (x2 : Int) (x4 : Int) (h : az_H) (Q : Option az_V → az_H → Prop) : Prop := ez G mX11_expression (d + 1) 0 0 292 [some (vo x0), some (vi x1), some (vi x2), none, some (vi x4), none] [] h Q
def pX11_expression_320 (G : az_G) (d : Nat) (x0 : Nat) (x1 : Int) (x2 : Int) (x3 : Int) (x4 : Int) (h : az_H) (Q : Option az_V → az_H → Prop) : Prop := ez G mX11_expression (d + 1) 0 0 320 [some (vo x0), some (vi x1), some (vi x2), some (vi x3), some (vi x4), none] [] h Q
def pX11_expression_368 (G : az_G) (d : Nat) (x0 : Nat) (x1 : Int) (x2 : Int) (x3 : Int) (h : az_H) (Q : Option az_V → az_H → Prop) : Prop := ez G mX11_expression (d + 1) 0 0 368 [some (vo x0), some (vi x1), some (vi x2), some (vi x3), none, none] [] h Q
def pX11_expression_392 (G : az_G) (d : Nat) (x0 : Nat) (x1 : Int) (x2 : Int) (x3 : Int) (x4 : Int) (h : az_H) (Q : Option az_V → az_H → Prop) : Prop := ez G mX11_expression (d + 1) 0 0 392 [some (vo x0), some (vi x1), some (vi x2), some (vi x3), some (vi x4), none] [] h Q
theorem vX11_expression_392 {G : az_G} {d : Nat} {x0 : Nat} {x1 : Int} {x2 : Int} {x3 : Int} {x4 : Int} {h : az_H} {Q : Option az_V → az_H → Prop} (hF : (if x4 = 0 then pX11_expression_28 G d x0 x1 x2 x3 0 h Q else rdI h x0 11 14 (fun f1 => (if f1 = 0 then rcv h x0 11 (cz G mX11_next d 0 0 [vo x0] h (fun v h2 => atV v (pX11_expression_28 G d x0 x1 x2 x3 1 h2 Q))) else pX11_expression_28 G d x0 x1 x2 x3 0 h Q)))) : pX11_expression_392 G d x0 x1 x2 x3 x4 h Q := by
  unfold pX11_expression_392
  refine rz_iload dX11_expression_392 (show _ = some (some (vi x4)) from rfl) ?_
  refine rz_if_eq (tgt := 408) dX11_expression_394 (by decide) (fun c => ?_) (fun c => ?_)
  · replace hF := ite_t hF c
    refine rz_iconst dX11_expression_408 rfl (by decide) ?_
    refine rz_istore (ls' := [some (vo x0), some (vi x1), some (vi x2), some (vi x3), some (vi 0), none]) dX11_expression_409 (Nat.le_of_ble_eq_true rfl) rfl ?_
    refine rz_iload dX11_expression_411 (show _ = some (some (vi 0)) from rfl) ?_
    refine rz_if_eq (tgt := 28) dX11_expression_413 (by decide) (fun c => ?_) (fun c => absurd c (by decide))
    exact hF
  · replace hF := ite_f hF c
    refine rz_aload_n dX11_expression_397 rfl (show _ = some (some (vo x0)) from rfl) ?_
    replace hF := rdI_e hF
    obtain ⟨fs, f1, hg, hv, hF⟩ := hF
    refine rz_getf dX11_expression_398 fl_X11_166 hg hv ?_
    refine rz_if_ne (tgt := 408) dX11_expression_401 (by decide) (fun c => ?_) (fun c => ?_)
    · replace hF := ite_f hF c
      refine rz_iconst dX11_expression_408 rfl (by decide) ?_
      refine rz_istore (ls' := [some (vo x0), some (vi x1), some (vi x2), some (vi x3), some (vi 0), none]) dX11_expression_409 (Nat.le_of_ble_eq_true rfl) rfl ?_
      refine rz_iload dX11_expression_411 (show _ = some (some (vi 0)) from rfl) ?_
      refine rz_if_eq (tgt := 28) dX11_expression_413 (by decide) (fun c => ?_) (fun c => absurd c (by decide))
      exact hF
    · replace hF := ite_t hF c
      refine rz_iconst dX11_expression_404 rfl (by decide) ?_
      refine rz_goto (tgt := 409) dX11_expression_405 (by decide) ?_
      refine rz_istore (ls' := [some (vo x0), some (vi x1), some (vi x2), some (vi x3), some (vi 1), none]) dX11_expression_409 (Nat.le_of_ble_eq_true rfl) rfl ?_
      refine rz_iload dX11_expression_411 (show _ = some (some (vi 1)) from rfl) ?_
      refine rz_if_eq (tgt := 28) dX11_expression_413 (by decide) (fun c => absurd c (by decide)) (fun c => ?_)
      refine rz_aload_n dX11_expression_416 rfl (show _ = some (some (vo x0)) from rfl) ?_
      replace hF := rcv_e hF
      obtain ⟨fs, hg, hF⟩ := hF
      refine rz_callV (mc' := 0) (ms' := 0) (mc := 0) (ms := 0) (st := []) dX11_expression_417 cV_X11_170 rfl hg ⟨_, _, rfl⟩ rfl (Nat.le_of_ble_eq_true rfl) hF (fun v h2 hG => ?_)
      clear hF
      revert hG
      intro hF
      replace hF := atV_e hF
      obtain ⟨rfl, hF⟩ := hF
      refine rz_goto (tgt := 28) dX11_expression_420 (by decide) ?_
      exact hF
theorem vX11_expression_368 {G : az_G} {d : Nat} {x0 : Nat} {x1 : Int} {x2 : Int} {x3 : Int} {h : az_H} {Q : Option az_V → az_H → Prop} (hF : rcv h x0 11 (cz G mX11_reduce d 0 0 [vo x0, vi 1] h (fun v h1 => atV v (rdI h1 x0 11 17 (fun f2 => (if f2 ≤ 0 then wrF h1 x0 11 14 (.boolean) (vi 0) (fun h3 => pX11_expression_392 G d x0 x1 x2 x3 0 h3 Q) else wrF h1 x0 11 14 (.boolean) (vi 1) (fun h4 => pX11_expression_392 G d x0 x1 x2 x3 0 h4 Q))))))) : pX11_expression_368 G d x0 x1 x2 x3 h Q := by
  unfold pX11_expression_368
  refine rz_aload_n dX11_expression_368 rfl (show _ = some (some (vo x0)) from rfl) ?_
  refine rz_iconst dX11_expression_369 rfl (by decide) ?_
  replace hF := rcv_e hF
  obtain ⟨fs, hg, hF⟩ := hF
  refine rz_callV (mc' := 0) (ms' := 0) (mc := 0) (ms := 0) (st := []) dX11_expression_370 cV_X11_209 rfl hg ⟨_, _, rfl⟩ rfl (Nat.le_of_ble_eq_true rfl) hF (fun v h1 hG => ?_)
  clear hF
  revert hG
  intro hF
  replace hF := atV_e hF
  obtain ⟨rfl, hF⟩ := hF
  refine rz_aload_n dX11_expression_373 rfl (show _ = some (some (vo x0)) from rfl) ?_
  refine rz_aload_n dX11_expression_374 rfl (show _ = some (some (vo x0)) from rfl) ?_
  replace hF := rdI_e hF
  obtain ⟨fs, f2, hg, hv, hF⟩ := hF
  refine rz_getf dX11_expression_375 fl_X11_199 hg hv ?_
  refine rz_if_le (tgt := 385) dX11_expression_378 (by decide) (fun c => ?_) (fun c => ?_)
  · replace hF := ite_t hF c
    refine rz_iconst dX11_expression_385 rfl (by decide) ?_
    replace hF := wrF_e hF
    obtain ⟨fs, hg, hv, hF⟩ := hF
    refine rz_putf dX11_expression_386 fl_X11_166 (Or.inl rfl) hg hv ?_
    refine rz_iconst dX11_expression_389 rfl (by decide) ?_
    refine rz_istore (ls' := [some (vo x0), some (vi x1), some (vi x2), some (vi x3), some (vi 0), none]) dX11_expression_390 (Nat.le_of_ble_eq_true rfl) rfl ?_
    exact hF
  · replace hF := ite_f hF c
    refine rz_iconst dX11_expression_381 rfl (by decide) ?_
    refine rz_goto (tgt := 386) dX11_expression_382 (by decide) ?_
    replace hF := wrF_e hF
    obtain ⟨fs, hg, hv, hF⟩ := hF
    refine rz_putf dX11_expression_386 fl_X11_166 (Or.inl rfl) hg hv ?_
    refine rz_iconst dX11_expression_389 rfl (by decide) ?_
    refine rz_istore (ls' := [some (vo x0), some (vi x1), some (vi x2), some (vi x3), some (vi 0), none]) dX11_expression_390 (Nat.le_of_ble_eq_true rfl) rfl ?_
    exact hF
theorem vX11_expression_320 {G : az_G} {d : Nat} {x0 : Nat} {x1 : Int} {x2 : Int} {x3 : Int} {x4 : Int} {h : az_H} {Q : Option az_V → az_H → Prop} (hF : rdI h x0 11 2 (fun f1 => (if f1 = 41 then rdI h x0 11 17 (fun f2 => (if f2 ≤ 0 then pX11_expression_368 G d x0 x1 x2 x3 h Q else rcv h x0 11 (cz G mX11_reduce d 0 0 [vo x0, vi 1] h (fun v h3 => atV v (rdI h3 x0 11 15 (fun f4 => wrF h3 x0 11 15 (.int) (vi (w32 (f4 - 1))) (fun h5 => rdI h5 x0 11 17 (fun f6 => wrF h5 x0 11 17 (.int) (vi (w32 (f6 - 1))) (fun h7 => rcv h7 x0 11 (cz G mX11_complete d 0 0 [vo x0] h7 (fun v h8 => atV v (pX11_expression_392 G d x0 x1 x2 x3 x4 h8 Q)))))))))))) else pX11_expression_368 G d x0 x1 x2 x3 h Q))) : pX11_expression_320 G d x0 x1 x2 x3 x4 h Q := by
  unfold pX11_expression_320
  refine rz_aload_n dX11_expression_320 rfl (show _ = some (some (vo x0)) from rfl) ?_
  replace hF := rdI_e hF
  obtain ⟨fs, f1, hg, hv, hF⟩ := hF
  refine rz_getf dX11_expression_321 fl_X11_151 hg hv ?_
  refine rz_bipush (v := 41) dX11_expression_324 (by decide) (by decide) ?_
  refine rz_icmp_ne (tgt := 368) dX11_expression_326 (by decide) (fun c => ?_) (fun c => ?_)
  · replace hF := ite_f hF c
    refine ez_kp [true, true, true, true, false, false] rfl ?_
    exact hF
  · replace hF := ite_t hF c
    refine rz_aload_n dX11_expression_329 rfl (show _ = some (some (vo x0)) from rfl) ?_
    replace hF := rdI_e hF
    obtain ⟨fs, f2, hg, hv, hF⟩ := hF
    refine rz_getf dX11_expression_330 fl_X11_199 hg hv ?_
    refine rz_if_le (tgt := 368) dX11_expression_333 (by decide) (fun c => ?_) (fun c => ?_)
    · replace hF := ite_t hF c
      refine ez_kp [true, true, true, true, false, false] rfl ?_
      exact hF
    · replace hF := ite_f hF c
      refine rz_aload_n dX11_expression_336 rfl (show _ = some (some (vo x0)) from rfl) ?_
      refine rz_iconst dX11_expression_337 rfl (by decide) ?_
      replace hF := rcv_e hF
      obtain ⟨fs, hg, hF⟩ := hF
      refine rz_callV (mc' := 0) (ms' := 0) (mc := 0) (ms := 0) (st := []) dX11_expression_338 cV_X11_209 rfl hg ⟨_, _, rfl⟩ rfl (Nat.le_of_ble_eq_true rfl) hF (fun v h3 hG => ?_)
      clear hF
      revert hG
      intro hF
      replace hF := atV_e hF
      obtain ⟨rfl, hF⟩ := hF
      refine rz_aload_n dX11_expression_341 rfl (show _ = some (some (vo x0)) from rfl) ?_
      refine rz_dup dX11_expression_342 (by rintro ⟨_, q⟩; cases q) ?_
      replace hF := rdI_e hF
      obtain ⟨fs, f4, hg, hv, hF⟩ := hF
      refine rz_getf dX11_expression_343 fl_X11_175 hg hv ?_
      refine rz_iconst dX11_expression_346 rfl (by decide) ?_
      refine rz_isub dX11_expression_347 ?_
      replace hF := wrF_e hF
      obtain ⟨fs, hg, hv, hF⟩ := hF
      refine rz_putf dX11_expression_348 fl_X11_175 (Or.inl rfl) hg hv ?_
      refine rz_aload_n dX11_expression_351 rfl (show _ = some (some (vo x0)) from rfl) ?_
      refine rz_dup dX11_expression_352 (by rintro ⟨_, q⟩; cases q) ?_
      replace hF := rdI_e hF
      obtain ⟨fs, f6, hg, hv, hF⟩ := hF
      refine rz_getf dX11_expression_353 fl_X11_199 hg hv ?_
      refine rz_iconst dX11_expression_356 rfl (by decide) ?_
      refine rz_isub dX11_expression_357 ?_
      replace hF := wrF_e hF
      obtain ⟨fs, hg, hv, hF⟩ := hF
      refine rz_putf dX11_expression_358 fl_X11_199 (Or.inl rfl) hg hv ?_
      refine rz_aload_n dX11_expression_361 rfl (show _ = some (some (vo x0)) from rfl) ?_
      replace hF := rcv_e hF
      obtain ⟨fs, hg, hF⟩ := hF
      refine rz_callV (mc' := 0) (ms' := 0) (mc := 0) (ms := 0) (st := []) dX11_expression_362 cV_X11_206 rfl hg ⟨_, _, rfl⟩ rfl (Nat.le_of_ble_eq_true rfl) hF (fun v h8 hG => ?_)
      clear hF
      revert hG
      intro hF
      replace hF := atV_e hF
      obtain ⟨rfl, hF⟩ := hF
      refine rz_goto (tgt := 392) dX11_expression_365 (by decide) ?_
      exact hF
theorem vX11_expression_292 {G : az_G} {d : Nat} {x0 : Nat} {x1 : Int} {x2 : Int} {x4 : Int} {h : az_H} {Q : Option az_V → az_H → Prop} (hF : rdO h x0 11 16 (fun o1 => rdI h x0 11 15 (fun f2 => rdI h x0 11 2 (fun f3 => stI h o1 .int f2 f3 (fun h4 => rdI h4 x0 11 15 (fun f5 => wrF h4 x0 11 15 (.int) (vi (w32 (f5 + 1))) (fun h6 => pX11_expression_392 G d x0 x1 x2 1 x4 h6 Q))))))) : pX11_expression_292 G d x0 x1 x2 x4 h Q := by
  unfold pX11_expression_292
  refine rz_aload_n dX11_expression_292 rfl (show _ = some (some (vo x0)) from rfl) ?_
  replace hF := rdO_e hF
  obtain ⟨fs, o1, hg, hv, hF⟩ := hF
  refine rz_getf dX11_expression_293 fl_X11_32 hg hv ?_
  refine rz_aload_n dX11_expression_296 rfl (show _ = some (some (vo x0)) from rfl) ?_
  replace hF := rdI_e hF
  obtain ⟨fs, f2, hg, hv, hF⟩ := hF
  refine rz_getf dX11_expression_297 fl_X11_175 hg hv ?_
  refine rz_aload_n dX11_expression_300 rfl (show _ = some (some (vo x0)) from rfl) ?_
  replace hF := rdI_e hF
  obtain ⟨fs, f3, hg, hv, hF⟩ := hF
  refine rz_getf dX11_expression_301 fl_X11_151 hg hv ?_
  replace hF := stI_e hF
  obtain ⟨xs, hg, h0, h1, hF⟩ := hF
  refine rz_iast dX11_expression_304 hg h0 h1 ?_
  refine rz_aload_n dX11_expression_305 rfl (show _ = some (some (vo x0)) from rfl) ?_
  refine rz_dup dX11_expression_306 (by rintro ⟨_, q⟩; cases q) ?_
  replace hF := rdI_e hF
  obtain ⟨fs, f5, hg, hv, hF⟩ := hF
  refine rz_getf dX11_expression_307 fl_X11_175 hg hv ?_
  refine rz_iconst dX11_expression_310 rfl (by decide) ?_
  refine rz_iadd dX11_expression_311 ?_
  replace hF := wrF_e hF
  obtain ⟨fs, hg, hv, hF⟩ := hF
  refine rz_putf dX11_expression_312 fl_X11_175 (Or.inl rfl) hg hv ?_
  refine rz_iconst dX11_expression_315 rfl (by decide) ?_
  refine rz_istore_n (ls' := [some (vo x0), some (vi x1), some (vi x2), some (vi 1), some (vi x4), none]) dX11_expression_316 rfl (Nat.le_of_ble_eq_true rfl) rfl ?_
  refine rz_goto (tgt := 392) dX11_expression_317 (by decide) ?_
  exact hF
theorem vX11_expression_188 {G : az_G} {d : Nat} {x0 : Nat} {x1 : Int} {x4 : Int} {h : az_H} {Q : Option az_V → az_H → Prop} (hF : rdI h x0 11 2 (fun f1 => (if f1 = 2 then rdI h x0 11 6 (fun f8 => rcv h x0 11 (cz G mX11_step d 0 0 [vo x0, vi 1, vi f8] h (fun v h9 => atV v (rcv h9 x0 11 (cz G mX11_complete d 0 0 [vo x0] h9 (fun v h10 => atV v (pX11_expression_392 G d x0 x1 0 0 x4 h10 Q))))))) else rcv h x0 11 (cz G mX11_isOperand d 0 0 [vo x0, vi x1] h (fun v h2 => atI v (fun r3 => (if r3 = 0 then wrF h2 x0 11 14 (.boolean) (vi 1) (fun h6 => rcv h6 x0 11 (cz G mX11_complete d 0 0 [vo x0] h6 (fun v h7 => atV v (pX11_expression_392 G d x0 x1 0 0 x4 h7 Q)))) else wrF h2 x0 11 14 (.boolean) (vi 0) (fun h4 => rcv h4 x0 11 (cz G mX11_complete d 0 0 [vo x0] h4 (fun v h5 => atV v (pX11_expression_392 G d x0 x1 0 0 x4 h5 Q))))))))))) : pX11_expression_188 G d x0 x1 x4 h Q := by
  unfold pX11_expression_188
  refine rz_iconst dX11_expression_188 rfl (by decide) ?_
  refine rz_istore_n (ls' := [some (vo x0), some (vi x1), some (vi 0), none, some (vi x4), none]) dX11_expression_189 rfl (Nat.le_of_ble_eq_true rfl) rfl ?_
  refine rz_aload_n dX11_expression_190 rfl (show _ = some (some (vo x0)) from rfl) ?_
  replace hF := rdI_e hF
  obtain ⟨fs, f1, hg, hv, hF⟩ := hF
  refine rz_getf dX11_expression_191 fl_X11_151 hg hv ?_
  refine rz_iconst dX11_expression_194 rfl (by decide) ?_
  refine rz_icmp_ne (tgt := 210) dX11_expression_195 (by decide) (fun c => ?_) (fun c => ?_)
  · replace hF := ite_f hF c
    refine rz_aload_n dX11_expression_210 rfl (show _ = some (some (vo x0)) from rfl) ?_
    refine rz_aload_n dX11_expression_211 rfl (show _ = some (some (vo x0)) from rfl) ?_
    refine rz_iload_n dX11_expression_212 rfl (show _ = some (some (vi x1)) from rfl) ?_
    replace hF := rcv_e hF
    obtain ⟨fs, hg, hF⟩ := hF
    refine rz_callV (mc' := 0) (ms' := 0) (mc := 0) (ms := 0) (st := [vo x0]) dX11_expression_213 cV_X11_202 rfl hg ⟨_, _, rfl⟩ rfl (Nat.le_of_ble_eq_true rfl) hF (fun v h2 hG => ?_)
    clear hF
    revert hG
    intro hF
    replace hF := atI_e hF
    obtain ⟨r3, rfl, hF⟩ := hF
    refine rz_if_ne (tgt := 223) dX11_expression_216 (by decide) (fun c => ?_) (fun c => ?_)
    · replace hF := ite_f hF c
      refine rz_iconst dX11_expression_223 rfl (by decide) ?_
      replace hF := wrF_e hF
      obtain ⟨fs, hg, hv, hF⟩ := hF
      refine rz_putf dX11_expression_224 fl_X11_166 (Or.inl rfl) hg hv ?_
      refine rz_aload_n dX11_expression_227 rfl (show _ = some (some (vo x0)) from rfl) ?_
      replace hF := rcv_e hF
      obtain ⟨fs, hg, hF⟩ := hF
      refine rz_callV (mc' := 0) (ms' := 0) (mc := 0) (ms := 0) (st := []) dX11_expression_228 cV_X11_206 rfl hg ⟨_, _, rfl⟩ rfl (Nat.le_of_ble_eq_true rfl) hF (fun v h5 hG => ?_)
      clear hF
      revert hG
      intro hF
      replace hF := atV_e hF
      obtain ⟨rfl, hF⟩ := hF
      refine rz_iconst dX11_expression_231 rfl (by decide) ?_
      refine rz_istore_n (ls' := [some (vo x0), some (vi x1), some (vi 0), some (vi 0), some (vi x4), none]) dX11_expression_232 rfl (Nat.le_of_ble_eq_true rfl) rfl ?_
      refine rz_goto (tgt := 392) dX11_expression_233 (by decide) ?_
      exact hF
    · replace hF := ite_t hF c
      refine rz_iconst dX11_expression_219 rfl (by decide) ?_
      refine rz_goto (tgt := 224) dX11_expression_220 (by decide) ?_
      replace hF := wrF_e hF
      obtain ⟨fs, hg, hv, hF⟩ := hF
      refine rz_putf dX11_expression_224 fl_X11_166 (Or.inl rfl) hg hv ?_
      refine rz_aload_n dX11_expression_227 rfl (show _ = some (some (vo x0)) from rfl) ?_
      replace hF := rcv_e hF
      obtain ⟨fs, hg, hF⟩ := hF
      refine rz_callV (mc' := 0) (ms' := 0) (mc := 0) (ms := 0) (st := []) dX11_expression_228 cV_X11_206 rfl hg ⟨_, _, rfl⟩ rfl (Nat.le_of_ble_eq_true rfl) hF (fun v h7 hG => ?_)
      clear hF
      revert hG
      intro hF
      replace hF := atV_e hF
      obtain ⟨rfl, hF⟩ := hF
      refine rz_iconst dX11_expression_231 rfl (by decide) ?_
      refine rz_istore_n (ls' := [some (vo x0), some (vi x1), some (vi 0), some (vi 0), some (vi x4), none]) dX11_expression_232 rfl (Nat.le_of_ble_eq_true rfl) rfl ?_
      refine rz_goto (tgt := 392) dX11_expression_233 (by decide) ?_
      exact hF
  · replace hF := ite_t hF c
    refine rz_aload_n dX11_expression_198 rfl (show _ = some (some (vo x0)) from rfl) ?_
    refine rz_iconst dX11_expression_199 rfl (by decide) ?_
    refine rz_aload_n dX11_expression_200 rfl (show _ = some (some (vo x0)) from rfl) ?_
    replace hF := rdI_e hF
    obtain ⟨fs, f8, hg, hv, hF⟩ := hF
    refine rz_getf dX11_expression_201 fl_X11_163 hg hv ?_
    replace hF := rcv_e hF
    obtain ⟨fs, hg, hF⟩ := hF
    refine rz_callV (mc' := 0) (ms' := 0) (mc := 0) (ms := 0) (st := []) dX11_expression_204 cV_X11_188 rfl hg ⟨_, _, rfl⟩ rfl (Nat.le_of_ble_eq_true rfl) hF (fun v h9 hG => ?_)
    clear hF
    revert hG
    intro hF
    replace hF := atV_e hF
    obtain ⟨rfl, hF⟩ := hF
    refine rz_goto (tgt := 227) dX11_expression_207 (by decide) ?_
    refine rz_aload_n dX11_expression_227 rfl (show _ = some (some (vo x0)) from rfl) ?_
    replace hF := rcv_e hF
    obtain ⟨fs, hg, hF⟩ := hF
    refine rz_callV (mc' := 0) (ms' := 0) (mc := 0) (ms := 0) (st := []) dX11_expression_228 cV_X11_206 rfl hg ⟨_, _, rfl⟩ rfl (Nat.le_of_ble_eq_true rfl) hF (fun v h10 hG => ?_)
    clear hF
    revert hG
    intro hF
    replace hF := atV_e hF
    obtain ⟨rfl, hF⟩ := hF
    refine rz_iconst dX11_expression_231 rfl (by decide) ?_
    refine rz_istore_n (ls' := [some (vo x0), some (vi x1), some (vi 0), some (vi 0), some (vi x4), none]) dX11_expression_232 rfl (Nat.le_of_ble_eq_true rfl) rfl ?_
    refine rz_goto (tgt := 392) dX11_expression_233 (by decide) ?_
    exact hF
theorem vX11_expression_70 {G : az_G} {d : Nat} {x0 : Nat} {x1 : Int} {x2 : Int} {x3 : Int} {x4 : Int} {s0 : Int} {s1 : Option Nat} {h : az_H} {Q : Option az_V → az_H → Prop} (hF : nnR s1 (fun a1 => wrF h a1 11 14 (.boolean) (vi s0) (fun h2 => rdO h2 x0 11 16 (fun o3 => rdI h2 x0 11 15 (fun f4 => rdI h2 x0 11 2 (fun f5 => (if f5 = 45 then stI h2 o3 .int f4 1 (fun h9 => rdI h9 x0 11 15 (fun f10 => wrF h9 x0 11 15 (.int) (vi (w32 (f10 + 1))) (fun h11 => pX11_expression_392 G d x0 x1 x2 x3 x4 h11 Q))) else stI h2 o3 .int f4 2 (fun h6 => rdI h6 x0 11 15 (fun f7 => wrF h6 x0 11 15 (.int) (vi (w32 (f7 + 1))) (fun h8 => pX11_expression_392 G d x0 x1 x2 x3 x4 h8 Q)))))))))) : pX11_expression_70 G d x0 x1 x2 x3 x4 s0 s1 h Q := by
  unfold pX11_expression_70
  replace hF := nnR_e hF
  obtain ⟨a1, ea1, hF⟩ := hF
  subst ea1
  replace hF := wrF_e hF
  obtain ⟨fs, hg, hv, hF⟩ := hF
  refine rz_putf dX11_expression_70 fl_X11_166 (Or.inl rfl) hg hv ?_
  refine rz_aload_n dX11_expression_73 rfl (show _ = some (some (vo x0)) from rfl) ?_
  replace hF := rdO_e hF
  obtain ⟨fs, o3, hg, hv, hF⟩ := hF
  refine rz_getf dX11_expression_74 fl_X11_32 hg hv ?_
  refine rz_aload_n dX11_expression_77 rfl (show _ = some (some (vo x0)) from rfl) ?_
  replace hF := rdI_e hF
  obtain ⟨fs, f4, hg, hv, hF⟩ := hF
  refine rz_getf dX11_expression_78 fl_X11_175 hg hv ?_
  refine rz_aload_n dX11_expression_81 rfl (show _ = some (some (vo x0)) from rfl) ?_
  replace hF := rdI_e hF
  obtain ⟨fs, f5, hg, hv, hF⟩ := hF
  refine rz_getf dX11_expression_82 fl_X11_151 hg hv ?_
  refine rz_bipush (v := 45) dX11_expression_85 (by decide) (by decide) ?_
  refine rz_icmp_ne (tgt := 94) dX11_expression_87 (by decide) (fun c => ?_) (fun c => ?_)
  · replace hF := ite_f hF c
    refine rz_iconst dX11_expression_94 rfl (by decide) ?_
    replace hF := stI_e hF
    obtain ⟨xs, hg, h0, h1, hF⟩ := hF
    refine rz_iast dX11_expression_95 hg h0 h1 ?_
    refine rz_aload_n dX11_expression_96 rfl (show _ = some (some (vo x0)) from rfl) ?_
    refine rz_dup dX11_expression_97 (by rintro ⟨_, q⟩; cases q) ?_
    replace hF := rdI_e hF
    obtain ⟨fs, f7, hg, hv, hF⟩ := hF
    refine rz_getf dX11_expression_98 fl_X11_175 hg hv ?_
    refine rz_iconst dX11_expression_101 rfl (by decide) ?_
    refine rz_iadd dX11_expression_102 ?_
    replace hF := wrF_e hF
    obtain ⟨fs, hg, hv, hF⟩ := hF
    refine rz_putf dX11_expression_103 fl_X11_175 (Or.inl rfl) hg hv ?_
    refine rz_goto (tgt := 392) dX11_expression_106 (by decide) ?_
    exact hF
  · replace hF := ite_t hF c
    refine rz_iconst dX11_expression_90 rfl (by decide) ?_
    refine rz_goto (tgt := 95) dX11_expression_91 (by decide) ?_
    replace hF := stI_e hF
    obtain ⟨xs, hg, h0, h1, hF⟩ := hF
    refine rz_iast dX11_expression_95 hg h0 h1 ?_
    refine rz_aload_n dX11_expression_96 rfl (show _ = some (some (vo x0)) from rfl) ?_
    refine rz_dup dX11_expression_97 (by rintro ⟨_, q⟩; cases q) ?_
    replace hF := rdI_e hF
    obtain ⟨fs, f10, hg, hv, hF⟩ := hF
    refine rz_getf dX11_expression_98 fl_X11_175 hg hv ?_
    refine rz_iconst dX11_expression_101 rfl (by decide) ?_
    refine rz_iadd dX11_expression_102 ?_
    replace hF := wrF_e hF
    obtain ⟨fs, hg, hv, hF⟩ := hF
    refine rz_putf dX11_expression_103 fl_X11_175 (Or.inl rfl) hg hv ?_
    refine rz_goto (tgt := 392) dX11_expression_106 (by decide) ?_
    exact hF
theorem vX11_expression_28 {G : az_G} {d : Nat} {x0 : Nat} {x1 : Int} {x2 : Int} {x3 : Int} {x4 : Int} {h : az_H} {Q : Option az_V → az_H → Prop} (hF : (if x4 = 0 then Q none h else (if x3 = 0 then rdI h x0 11 2 (fun f1 => cz G mX11_strength d 0 0 [vi f1] h (fun v h2 => atI v (fun r3 => (if r3 ≤ 1 then rcv h2 x0 11 (cz G mX11_reduce d 0 0 [vo x0, vi 2] h2 (fun v h4 => atV v ((if 1 < r3 then pX11_expression_292 G d x0 x1 x2 x4 h4 Q else (if r3 = 1 then rcv h4 x0 11 (cz G mX11_top d 0 0 [vo x0] h4 (fun v h5 => atI v (fun r6 => cz G mX11_strength d 0 0 [vi r6] h5 (fun v h7 => atI v (fun r8 => (if r8 = 1 then pX11_expression_320 G d x0 x1 x2 x3 x4 h7 Q else pX11_expression_292 G d x0 x1 x2 x4 h7 Q)))))) else pX11_expression_320 G d x0 x1 x2 x3 x4 h4 Q))))) else rcv h2 x0 11 (cz G mX11_reduce d 0 0 [vo x0, vi r3] h2 (fun v h9 => atV v ((if 1 < r3 then pX11_expression_292 G d x0 x1 x2 x4 h9 Q else (if r3 = 1 then rcv h9 x0 11 (cz G mX11_top d 0 0 [vo x0] h9 (fun v h10 => atI v (fun r11 => cz G mX11_strength d 0 0 [vi r11] h10 (fun v h12 => atI v (fun r13 => (if r13 = 1 then pX11_expression_320 G d x0 x1 x2 x3 x4 h12 Q else pX11_expression_292 G d x0 x1 x2 x4 h12 Q)))))) else pX11_expression_320 G d x0 x1 x2 x3 x4 h9 Q))))))))) else rdI h x0 11 2 (fun f14 => (if f14 = 33 then (if w32 (x2 + 1) ≤ 8 then pX11_expression_70 G d x0 x1 (w32 (x2 + 1)) x3 x4 0 (some x0) h Q else pX11_expression_70 G d x0 x1 (w32 (x2 + 1)) x3 x4 1 (some x0) h Q) else rdI h x0 11 2 (fun f15 => (if f15 = 45 then (if w32 (x2 + 1) ≤ 8 then pX11_expression_70 G d x0 x1 (w32 (x2 + 1)) x3 x4 0 (some x0) h Q else pX11_expression_70 G d x0 x1 (w32 (x2 + 1)) x3 x4 1 (some x0) h Q) else rdI h x0 11 2 (fun f16 => (if f16 = 40 then rdI h x0 11 17 (fun f20 => wrF h x0 11 17 (.int) (vi (w32 (f20 + 1))) (fun h21 => rdI h21 x0 11 17 (fun f22 => (if f22 ≤ 8 then wrF h21 x0 11 14 (.boolean) (vi 0) (fun h23 => rdO h23 x0 11 16 (fun o24 => rdI h23 x0 11 15 (fun f25 => stI h23 o24 .int f25 40 (fun h26 => rdI h26 x0 11 15 (fun f27 => wrF h26 x0 11 15 (.int) (vi (w32 (f27 + 1))) (fun h28 => pX11_expression_392 G d x0 x1 0 x3 x4 h28 Q)))))) else wrF h21 x0 11 14 (.boolean) (vi 1) (fun h29 => rdO h29 x0 11 16 (fun o30 => rdI h29 x0 11 15 (fun f31 => stI h29 o30 .int f31 40 (fun h32 => rdI h32 x0 11 15 (fun f33 => wrF h32 x0 11 15 (.int) (vi (w32 (f33 + 1))) (fun h34 => pX11_expression_392 G d x0 x1 0 x3 x4 h34 Q)))))))))) else rdI h x0 11 2 (fun f17 => (if f17 = 2 then pX11_expression_188 G d x0 x1 x4 h Q else rdI h x0 11 2 (fun f18 => (if f18 = 1 then pX11_expression_188 G d x0 x1 x4 h Q else wrF h x0 11 14 (.boolean) (vi 1) (fun h19 => pX11_expression_392 G d x0 x1 x2 x3 x4 h19 Q)))))))))))))) : pX11_expression_28 G d x0 x1 x2 x3 x4 h Q := by
  unfold pX11_expression_28
  refine rz_iload dX11_expression_28 (show _ = some (some (vi x4)) from rfl) ?_
  refine rz_if_eq (tgt := 423) dX11_expression_30 (by decide) (fun c => ?_) (fun c => ?_)
  · replace hF := ite_t hF c
    exact rz_vret dX11_expression_423 trivial hF
  · replace hF := ite_f hF c
    refine rz_iload_n dX11_expression_33 rfl (show _ = some (some (vi x3)) from rfl) ?_
    refine rz_if_eq (tgt := 244) dX11_expression_34 (by decide) (fun c => ?_) (fun c => ?_)
    · replace hF := ite_t hF c
      refine rz_aload_n dX11_expression_244 rfl (show _ = some (some (vo x0)) from rfl) ?_
      replace hF := rdI_e hF
      obtain ⟨fs, f1, hg, hv, hF⟩ := hF
      refine rz_getf dX11_expression_245 fl_X11_151 hg hv ?_
      refine rz_callS (mc' := 0) (ms' := 0) (mc := 0) (ms := 0) (st := []) dX11_expression_248 cS_X11_182 rfl rfl (Nat.le_of_ble_eq_true rfl) hF (fun v h2 hG => ?_)
      clear hF
      revert hG
      intro hF
      replace hF := atI_e hF
      obtain ⟨r3, rfl, hF⟩ := hF
      refine rz_istore (ls' := [some (vo x0), some (vi x1), some (vi x2), some (vi x3), some (vi x4), some (vi r3)]) dX11_expression_251 (Nat.le_of_ble_eq_true rfl) rfl ?_
      refine rz_aload_n dX11_expression_253 rfl (show _ = some (some (vo x0)) from rfl) ?_
      refine rz_iload dX11_expression_254 (show _ = some (some (vi r3)) from rfl) ?_
      refine rz_iconst dX11_expression_256 rfl (by decide) ?_
      refine rz_icmp_le (tgt := 265) dX11_expression_257 (by decide) (fun c => ?_) (fun c => ?_)
      · replace hF := ite_t hF c
        refine rz_iconst dX11_expression_265 rfl (by decide) ?_
        replace hF := rcv_e hF
        obtain ⟨fs, hg, hF⟩ := hF
        refine rz_callV (mc' := 0) (ms' := 0) (mc := 0) (ms := 0) (st := []) dX11_expression_266 cV_X11_209 rfl hg ⟨_, _, rfl⟩ rfl (Nat.le_of_ble_eq_true rfl) hF (fun v h4 hG => ?_)
        clear hF
        revert hG
        intro hF
        replace hF := atV_e hF
        obtain ⟨rfl, hF⟩ := hF
        refine rz_iload dX11_expression_269 (show _ = some (some (vi r3)) from rfl) ?_
        refine rz_iconst dX11_expression_271 rfl (by decide) ?_
        refine rz_icmp_gt (tgt := 292) dX11_expression_272 (by decide) (fun c => ?_) (fun c => ?_)
        · replace hF := ite_t hF c
          refine ez_kp [true, true, true, false, true, false] rfl ?_
          exact hF
        · replace hF := ite_f hF c
          refine rz_iload dX11_expression_275 (show _ = some (some (vi r3)) from rfl) ?_
          refine rz_iconst dX11_expression_277 rfl (by decide) ?_
          refine rz_icmp_ne (tgt := 320) dX11_expression_278 (by decide) (fun c => ?_) (fun c => ?_)
          · replace hF := ite_f hF c
            refine ez_kp [true, true, true, true, true, false] rfl ?_
            exact hF
          · replace hF := ite_t hF c
            refine rz_aload_n dX11_expression_281 rfl (show _ = some (some (vo x0)) from rfl) ?_
            replace hF := rcv_e hF
            obtain ⟨fs, hg, hF⟩ := hF
            refine rz_callV (mc' := 0) (ms' := 0) (mc := 0) (ms := 0) (st := []) dX11_expression_282 cV_X11_178 rfl hg ⟨_, _, rfl⟩ rfl (Nat.le_of_ble_eq_true rfl) hF (fun v h5 hG => ?_)
            clear hF
            revert hG
            intro hF
            replace hF := atI_e hF
            obtain ⟨r6, rfl, hF⟩ := hF
            refine rz_callS (mc' := 0) (ms' := 0) (mc := 0) (ms := 0) (st := []) dX11_expression_285 cS_X11_182 rfl rfl (Nat.le_of_ble_eq_true rfl) hF (fun v h7 hG => ?_)
            clear hF
            revert hG
            intro hF
            replace hF := atI_e hF
            obtain ⟨r8, rfl, hF⟩ := hF
            refine rz_iconst dX11_expression_288 rfl (by decide) ?_
            refine rz_icmp_eq (tgt := 320) dX11_expression_289 (by decide) (fun c => ?_) (fun c => ?_)
            · replace hF := ite_t hF c
              refine ez_kp [true, true, true, true, true, false] rfl ?_
              exact hF
            · replace hF := ite_f hF c
              refine ez_kp [true, true, true, false, true, false] rfl ?_
              exact hF
      · replace hF := ite_f hF c
        refine rz_iload dX11_expression_260 (show _ = some (some (vi r3)) from rfl) ?_
        refine rz_goto (tgt := 266) dX11_expression_262 (by decide) ?_
        replace hF := rcv_e hF
        obtain ⟨fs, hg, hF⟩ := hF
        refine rz_callV (mc' := 0) (ms' := 0) (mc := 0) (ms := 0) (st := []) dX11_expression_266 cV_X11_209 rfl hg ⟨_, _, rfl⟩ rfl (Nat.le_of_ble_eq_true rfl) hF (fun v h9 hG => ?_)
        clear hF
        revert hG
        intro hF
        replace hF := atV_e hF
        obtain ⟨rfl, hF⟩ := hF
        refine rz_iload dX11_expression_269 (show _ = some (some (vi r3)) from rfl) ?_
        refine rz_iconst dX11_expression_271 rfl (by decide) ?_
        refine rz_icmp_gt (tgt := 292) dX11_expression_272 (by decide) (fun c => ?_) (fun c => ?_)
        · replace hF := ite_t hF c
          refine ez_kp [true, true, true, false, true, false] rfl ?_
          exact hF
        · replace hF := ite_f hF c
          refine rz_iload dX11_expression_275 (show _ = some (some (vi r3)) from rfl) ?_
          refine rz_iconst dX11_expression_277 rfl (by decide) ?_
          refine rz_icmp_ne (tgt := 320) dX11_expression_278 (by decide) (fun c => ?_) (fun c => ?_)
          · replace hF := ite_f hF c
            refine ez_kp [true, true, true, true, true, false] rfl ?_
            exact hF
          · replace hF := ite_t hF c
            refine rz_aload_n dX11_expression_281 rfl (show _ = some (some (vo x0)) from rfl) ?_
            replace hF := rcv_e hF
            obtain ⟨fs, hg, hF⟩ := hF
            refine rz_callV (mc' := 0) (ms' := 0) (mc := 0) (ms := 0) (st := []) dX11_expression_282 cV_X11_178 rfl hg ⟨_, _, rfl⟩ rfl (Nat.le_of_ble_eq_true rfl) hF (fun v h10 hG => ?_)
            clear hF
            revert hG
            intro hF
            replace hF := atI_e hF
            obtain ⟨r11, rfl, hF⟩ := hF
            refine rz_callS (mc' := 0) (ms' := 0) (mc := 0) (ms := 0) (st := []) dX11_expression_285 cS_X11_182 rfl rfl (Nat.le_of_ble_eq_true rfl) hF (fun v h12 hG => ?_)
            clear hF
            revert hG
            intro hF
            replace hF := atI_e hF
            obtain ⟨r13, rfl, hF⟩ := hF
            refine rz_iconst dX11_expression_288 rfl (by decide) ?_
            refine rz_icmp_eq (tgt := 320) dX11_expression_289 (by decide) (fun c => ?_) (fun c => ?_)
            · replace hF := ite_t hF c
              refine ez_kp [true, true, true, true, true, false] rfl ?_
              exact hF
            · replace hF := ite_f hF c
              refine ez_kp [true, true, true, false, true, false] rfl ?_
              exact hF
    · replace hF := ite_f hF c
      refine rz_aload_n dX11_expression_37 rfl (show _ = some (some (vo x0)) from rfl) ?_
      replace hF := rdI_e hF
      obtain ⟨fs, f14, hg, hv, hF⟩ := hF
      refine rz_getf dX11_expression_38 fl_X11_151 hg hv ?_
      refine rz_bipush (v := 33) dX11_expression_41 (by decide) (by decide) ?_
      refine rz_icmp_eq (tgt := 55) dX11_expression_43 (by decide) (fun c => ?_) (fun c => ?_)
      · replace hF := ite_t hF c
        refine rz_iinc (ls' := [some (vo x0), some (vi x1), some (vi (w32 (x2 + 1))), some (vi x3), some (vi x4), none]) dX11_expression_55 rfl (Nat.le_of_ble_eq_true rfl) rfl ?_
        refine rz_aload_n dX11_expression_58 rfl (show _ = some (some (vo x0)) from rfl) ?_
        refine rz_iload_n dX11_expression_59 rfl (show _ = some (some (vi (w32 (x2 + 1)))) from rfl) ?_
        refine rz_bipush (v := 8) dX11_expression_60 (by decide) (by decide) ?_
        refine rz_icmp_le (tgt := 69) dX11_expression_62 (by decide) (fun c => ?_) (fun c => ?_)
        · replace hF := ite_t hF c
          refine rz_iconst dX11_expression_69 rfl (by decide) ?_
          exact hF
        · replace hF := ite_f hF c
          refine rz_iconst dX11_expression_65 rfl (by decide) ?_
          refine rz_goto (tgt := 70) dX11_expression_66 (by decide) ?_
          exact hF
      · replace hF := ite_f hF c
        refine rz_aload_n dX11_expression_46 rfl (show _ = some (some (vo x0)) from rfl) ?_
        replace hF := rdI_e hF
        obtain ⟨fs, f15, hg, hv, hF⟩ := hF
        refine rz_getf dX11_expression_47 fl_X11_151 hg hv ?_
        refine rz_bipush (v := 45) dX11_expression_50 (by decide) (by decide) ?_
        refine rz_icmp_ne (tgt := 109) dX11_expression_52 (by decide) (fun c => ?_) (fun c => ?_)
        · replace hF := ite_f hF c
          refine rz_aload_n dX11_expression_109 rfl (show _ = some (some (vo x0)) from rfl) ?_
          replace hF := rdI_e hF
          obtain ⟨fs, f16, hg, hv, hF⟩ := hF
          refine rz_getf dX11_expression_110 fl_X11_151 hg hv ?_
          refine rz_bipush (v := 40) dX11_expression_113 (by decide) (by decide) ?_
          refine rz_icmp_ne (tgt := 172) dX11_expression_115 (by decide) (fun c => ?_) (fun c => ?_)
          · replace hF := ite_f hF c
            refine rz_aload_n dX11_expression_172 rfl (show _ = some (some (vo x0)) from rfl) ?_
            replace hF := rdI_e hF
            obtain ⟨fs, f17, hg, hv, hF⟩ := hF
            refine rz_getf dX11_expression_173 fl_X11_151 hg hv ?_
            refine rz_iconst dX11_expression_176 rfl (by decide) ?_
            refine rz_icmp_eq (tgt := 188) dX11_expression_177 (by decide) (fun c => ?_) (fun c => ?_)
            · replace hF := ite_t hF c
              refine ez_kp [true, true, false, false, true, false] rfl ?_
              exact hF
            · replace hF := ite_f hF c
              refine rz_aload_n dX11_expression_180 rfl (show _ = some (some (vo x0)) from rfl) ?_
              replace hF := rdI_e hF
              obtain ⟨fs, f18, hg, hv, hF⟩ := hF
              refine rz_getf dX11_expression_181 fl_X11_151 hg hv ?_
              refine rz_iconst dX11_expression_184 rfl (by decide) ?_
              refine rz_icmp_ne (tgt := 236) dX11_expression_185 (by decide) (fun c => ?_) (fun c => ?_)
              · replace hF := ite_f hF c
                refine rz_aload_n dX11_expression_236 rfl (show _ = some (some (vo x0)) from rfl) ?_
                refine rz_iconst dX11_expression_237 rfl (by decide) ?_
                replace hF := wrF_e hF
                obtain ⟨fs, hg, hv, hF⟩ := hF
                refine rz_putf dX11_expression_238 fl_X11_166 (Or.inl rfl) hg hv ?_
                refine rz_goto (tgt := 392) dX11_expression_241 (by decide) ?_
                exact hF
              · replace hF := ite_t hF c
                refine ez_kp [true, true, false, false, true, false] rfl ?_
                exact hF
          · replace hF := ite_t hF c
            refine rz_iconst dX11_expression_118 rfl (by decide) ?_
            refine rz_istore_n (ls' := [some (vo x0), some (vi x1), some (vi 0), some (vi x3), some (vi x4), none]) dX11_expression_119 rfl (Nat.le_of_ble_eq_true rfl) rfl ?_
            refine rz_aload_n dX11_expression_120 rfl (show _ = some (some (vo x0)) from rfl) ?_
            refine rz_dup dX11_expression_121 (by rintro ⟨_, q⟩; cases q) ?_
            replace hF := rdI_e hF
            obtain ⟨fs, f20, hg, hv, hF⟩ := hF
            refine rz_getf dX11_expression_122 fl_X11_199 hg hv ?_
            refine rz_iconst dX11_expression_125 rfl (by decide) ?_
            refine rz_iadd dX11_expression_126 ?_
            replace hF := wrF_e hF
            obtain ⟨fs, hg, hv, hF⟩ := hF
            refine rz_putf dX11_expression_127 fl_X11_199 (Or.inl rfl) hg hv ?_
            refine rz_aload_n dX11_expression_130 rfl (show _ = some (some (vo x0)) from rfl) ?_
            refine rz_aload_n dX11_expression_131 rfl (show _ = some (some (vo x0)) from rfl) ?_
            replace hF := rdI_e hF
            obtain ⟨fs, f22, hg, hv, hF⟩ := hF
            refine rz_getf dX11_expression_132 fl_X11_199 hg hv ?_
            refine rz_bipush (v := 8) dX11_expression_135 (by decide) (by decide) ?_
            refine rz_icmp_le (tgt := 144) dX11_expression_137 (by decide) (fun c => ?_) (fun c => ?_)
            · replace hF := ite_t hF c
              refine rz_iconst dX11_expression_144 rfl (by decide) ?_
              replace hF := wrF_e hF
              obtain ⟨fs, hg, hv, hF⟩ := hF
              refine rz_putf dX11_expression_145 fl_X11_166 (Or.inl rfl) hg hv ?_
              refine rz_aload_n dX11_expression_148 rfl (show _ = some (some (vo x0)) from rfl) ?_
              replace hF := rdO_e hF
              obtain ⟨fs, o24, hg, hv, hF⟩ := hF
              refine rz_getf dX11_expression_149 fl_X11_32 hg hv ?_
              refine rz_aload_n dX11_expression_152 rfl (show _ = some (some (vo x0)) from rfl) ?_
              replace hF := rdI_e hF
              obtain ⟨fs, f25, hg, hv, hF⟩ := hF
              refine rz_getf dX11_expression_153 fl_X11_175 hg hv ?_
              refine rz_bipush (v := 40) dX11_expression_156 (by decide) (by decide) ?_
              replace hF := stI_e hF
              obtain ⟨xs, hg, h0, h1, hF⟩ := hF
              refine rz_iast dX11_expression_158 hg h0 h1 ?_
              refine rz_aload_n dX11_expression_159 rfl (show _ = some (some (vo x0)) from rfl) ?_
              refine rz_dup dX11_expression_160 (by rintro ⟨_, q⟩; cases q) ?_
              replace hF := rdI_e hF
              obtain ⟨fs, f27, hg, hv, hF⟩ := hF
              refine rz_getf dX11_expression_161 fl_X11_175 hg hv ?_
              refine rz_iconst dX11_expression_164 rfl (by decide) ?_
              refine rz_iadd dX11_expression_165 ?_
              replace hF := wrF_e hF
              obtain ⟨fs, hg, hv, hF⟩ := hF
              refine rz_putf dX11_expression_166 fl_X11_175 (Or.inl rfl) hg hv ?_
              refine rz_goto (tgt := 392) dX11_expression_169 (by decide) ?_
              exact hF
            · replace hF := ite_f hF c
              refine rz_iconst dX11_expression_140 rfl (by decide) ?_
              refine rz_goto (tgt := 145) dX11_expression_141 (by decide) ?_
              replace hF := wrF_e hF
              obtain ⟨fs, hg, hv, hF⟩ := hF
              refine rz_putf dX11_expression_145 fl_X11_166 (Or.inl rfl) hg hv ?_
              refine rz_aload_n dX11_expression_148 rfl (show _ = some (some (vo x0)) from rfl) ?_
              replace hF := rdO_e hF
              obtain ⟨fs, o30, hg, hv, hF⟩ := hF
              refine rz_getf dX11_expression_149 fl_X11_32 hg hv ?_
              refine rz_aload_n dX11_expression_152 rfl (show _ = some (some (vo x0)) from rfl) ?_
              replace hF := rdI_e hF
              obtain ⟨fs, f31, hg, hv, hF⟩ := hF
              refine rz_getf dX11_expression_153 fl_X11_175 hg hv ?_
              refine rz_bipush (v := 40) dX11_expression_156 (by decide) (by decide) ?_
              replace hF := stI_e hF
              obtain ⟨xs, hg, h0, h1, hF⟩ := hF
              refine rz_iast dX11_expression_158 hg h0 h1 ?_
              refine rz_aload_n dX11_expression_159 rfl (show _ = some (some (vo x0)) from rfl) ?_
              refine rz_dup dX11_expression_160 (by rintro ⟨_, q⟩; cases q) ?_
              replace hF := rdI_e hF
              obtain ⟨fs, f33, hg, hv, hF⟩ := hF
              refine rz_getf dX11_expression_161 fl_X11_175 hg hv ?_
              refine rz_iconst dX11_expression_164 rfl (by decide) ?_
              refine rz_iadd dX11_expression_165 ?_
              replace hF := wrF_e hF
              obtain ⟨fs, hg, hv, hF⟩ := hF
              refine rz_putf dX11_expression_166 fl_X11_175 (Or.inl rfl) hg hv ?_
              refine rz_goto (tgt := 392) dX11_expression_169 (by decide) ?_
              exact hF
        · replace hF := ite_t hF c
          refine rz_iinc (ls' := [some (vo x0), some (vi x1), some (vi (w32 (x2 + 1))), some (vi x3), some (vi x4), none]) dX11_expression_55 rfl (Nat.le_of_ble_eq_true rfl) rfl ?_
          refine rz_aload_n dX11_expression_58 rfl (show _ = some (some (vo x0)) from rfl) ?_
          refine rz_iload_n dX11_expression_59 rfl (show _ = some (some (vi (w32 (x2 + 1)))) from rfl) ?_
          refine rz_bipush (v := 8) dX11_expression_60 (by decide) (by decide) ?_
          refine rz_icmp_le (tgt := 69) dX11_expression_62 (by decide) (fun c => ?_) (fun c => ?_)
          · replace hF := ite_t hF c
            refine rz_iconst dX11_expression_69 rfl (by decide) ?_
            exact hF
          · replace hF := ite_f hF c
            refine rz_iconst dX11_expression_65 rfl (by decide) ?_
            refine rz_goto (tgt := 70) dX11_expression_66 (by decide) ?_
            exact hF
theorem vX11_expression {G : az_G} {d : Nat} {x0 : Nat} {x1 : Int} {h : az_H} {Q : Option az_V → az_H → Prop} (hF : wrF h x0 11 15 (.int) (vi 0) (fun h1 => wrF h1 x0 11 17 (.int) (vi 0) (fun h2 => rdI h2 x0 11 14 (fun f3 => (if f3 = 0 then pX11_expression_28 G d x0 x1 0 1 1 h2 Q else pX11_expression_28 G d x0 x1 0 1 0 h2 Q))))) : cz G mX11_expression (d + 1) 0 0 [vo x0, vi x1] h Q := by
  refine cz_of (ls := [some (vo x0), some (vi x1), none, none, none, none]) (by decide +kernel) (Nat.le_of_ble_eq_true rfl) rfl ?_
  refine rz_aload_n dX11_expression_0 rfl (show _ = some (some (vo x0)) from rfl) ?_
  refine rz_iconst dX11_expression_1 rfl (by decide) ?_
  replace hF := wrF_e hF
  obtain ⟨fs, hg, hv, hF⟩ := hF
  refine rz_putf dX11_expression_2 fl_X11_175 (Or.inl rfl) hg hv ?_
  refine rz_aload_n dX11_expression_5 rfl (show _ = some (some (vo x0)) from rfl) ?_
  refine rz_iconst dX11_expression_6 rfl (by decide) ?_
  replace hF := wrF_e hF
  obtain ⟨fs, hg, hv, hF⟩ := hF
  refine rz_putf dX11_expression_7 fl_X11_199 (Or.inl rfl) hg hv ?_
  refine rz_iconst dX11_expression_10 rfl (by decide) ?_
  refine rz_istore_n (ls' := [some (vo x0), some (vi x1), some (vi 0), none, none, none]) dX11_expression_11 rfl (Nat.le_of_ble_eq_true rfl) rfl ?_
  refine rz_iconst dX11_expression_12 rfl (by decide) ?_
  refine rz_istore_n (ls' := [some (vo x0), some (vi x1), some (vi 0), some (vi 1), none, none]) dX11_expression_13 rfl (Nat.le_of_ble_eq_true rfl) rfl ?_
  refine rz_aload_n dX11_expression_14 rfl (show _ = some (some (vo x0)) from rfl) ?_
  replace hF := rdI_e hF
  obtain ⟨fs, f3, hg, hv, hF⟩ := hF
  refine rz_getf dX11_expression_15 fl_X11_166 hg hv ?_
  refine rz_if_ne (tgt := 25) dX11_expression_18 (by decide) (fun c => ?_) (fun c => ?_)
  · replace hF := ite_f hF c
    refine rz_iconst dX11_expression_25 rfl (by decide) ?_
    refine rz_istore (ls' := [some (vo x0), some (vi x1), some (vi 0), some (vi 1), some (vi 0), none]) dX11_expression_26 (Nat.le_of_ble_eq_true rfl) rfl ?_
    exact hF
  · replace hF := ite_t hF c
    refine rz_iconst dX11_expression_21 rfl (by decide) ?_
    refine rz_goto (tgt := 26) dX11_expression_22 (by decide) ?_
    refine rz_istore (ls' := [some (vo x0), some (vi x1), some (vi 0), some (vi 1), some (vi 1), none]) dX11_expression_26 (Nat.le_of_ble_eq_true rfl) rfl ?_
    exact hF
def pX11_statement_33 (G : az_G) (d : Nat) (x0 : Nat) (s0 : Int) (s1 : Option Nat) (h : az_H) (Q : Option az_V → az_H → Prop) : Prop := ez G mX11_statement (d + 1) 0 0 33 [some (vo x0), none, none] [vi s0, vr s1] h Q
def pX11_statement_89 (G : az_G) (d : Nat) (x0 : Nat) (x1 : Int) (s0 : Int) (s1 : Option Nat) (h : az_H) (Q : Option az_V → az_H → Prop) : Prop := ez G mX11_statement (d + 1) 0 0 89 [some (vo x0), some (vi x1), none] [vi s0, vr s1] h Q
def pX11_statement_146 (G : az_G) (d : Nat) (x0 : Nat) (s0 : Int) (s1 : Option Nat) (h : az_H) (Q : Option az_V → az_H → Prop) : Prop := ez G mX11_statement (d + 1) 0 0 146 [some (vo x0), none, none] [vi s0, vr s1] h Q
def pX11_statement_230 (G : az_G) (d : Nat) (x0 : Nat) (x2 : Int) (s0 : Int) (s1 : Option Nat) (h : az_H) (Q : Option az_V → az_H → Prop) : Prop := ez G mX11_statement (d + 1) 0 0 230 [some (vo x0), none, some (vi x2)] [vi s0, vr s1] h Q
theorem vX11_statement_230 {G : az_G} {d : Nat} {x0 : Nat} {x2 : Int} {s0 : Int} {s1 : Option Nat} {h : az_H} {Q : Option az_V → az_H → Prop} (hF : nnR s1 (fun a1 => wrF h a1 11 14 (.boolean) (vi s0) (fun h2 => rdI h2 x0 11 14 (fun f3 => (if f3 = 0 then rcv h2 x0 11 (cz G mX11_next d 0 0 [vo x0] h2 (fun v h4 => atV v (rcv h4 x0 11 (cz G mX11_need d 0 0 [vo x0, vi 61] h4 (fun v h5 => atV v (rcv h5 x0 11 (cz G mX11_expression d 0 0 [vo x0, vi 0] h5 (fun v h6 => atV v (rcv h6 x0 11 (cz G mX11_step d 0 0 [vo x0, vi 21, vi x2] h6 (fun v h7 => atV v (rcv h7 x0 11 (cz G mX11_need d 0 0 [vo x0, vi 59] h7 (fun v h8 => atV v (Q none h8))))))))))))))) else Q none h2))))) : pX11_statement_230 G d x0 x2 s0 s1 h Q := by
  unfold pX11_statement_230
  replace hF := nnR_e hF
  obtain ⟨a1, ea1, hF⟩ := hF
  subst ea1
  replace hF := wrF_e hF
  obtain ⟨fs, hg, hv, hF⟩ := hF
  refine rz_putf dX11_statement_230 fl_X11_166 (Or.inl rfl) hg hv ?_
  refine rz_aload_n dX11_statement_233 rfl (show _ = some (some (vo x0)) from rfl) ?_
  replace hF := rdI_e hF
  obtain ⟨fs, f3, hg, hv, hF⟩ := hF
  refine rz_getf dX11_statement_234 fl_X11_166 hg hv ?_
  refine rz_if_ne (tgt := 268) dX11_statement_237 (by decide) (fun c => ?_) (fun c => ?_)
  · replace hF := ite_f hF c
    exact rz_vret dX11_statement_268 trivial hF
  · replace hF := ite_t hF c
    refine rz_aload_n dX11_statement_240 rfl (show _ = some (some (vo x0)) from rfl) ?_
    replace hF := rcv_e hF
    obtain ⟨fs, hg, hF⟩ := hF
    refine rz_callV (mc' := 0) (ms' := 0) (mc := 0) (ms := 0) (st := []) dX11_statement_241 cV_X11_170 rfl hg ⟨_, _, rfl⟩ rfl (Nat.le_of_ble_eq_true rfl) hF (fun v h4 hG => ?_)
    clear hF
    revert hG
    intro hF
    replace hF := atV_e hF
    obtain ⟨rfl, hF⟩ := hF
    refine rz_aload_n dX11_statement_244 rfl (show _ = some (some (vo x0)) from rfl) ?_
    refine rz_bipush (v := 61) dX11_statement_245 (by decide) (by decide) ?_
    replace hF := rcv_e hF
    obtain ⟨fs, hg, hF⟩ := hF
    refine rz_callV (mc' := 0) (ms' := 0) (mc := 0) (ms := 0) (st := []) dX11_statement_247 cV_X11_225 rfl hg ⟨_, _, rfl⟩ rfl (Nat.le_of_ble_eq_true rfl) hF (fun v h5 hG => ?_)
    clear hF
    revert hG
    intro hF
    replace hF := atV_e hF
    obtain ⟨rfl, hF⟩ := hF
    refine rz_aload_n dX11_statement_250 rfl (show _ = some (some (vo x0)) from rfl) ?_
    refine rz_iconst dX11_statement_251 rfl (by decide) ?_
    replace hF := rcv_e hF
    obtain ⟨fs, hg, hF⟩ := hF
    refine rz_callV (mc' := 0) (ms' := 0) (mc := 0) (ms := 0) (st := []) dX11_statement_252 cV_X11_218 rfl hg ⟨_, _, rfl⟩ rfl (Nat.le_of_ble_eq_true rfl) hF (fun v h6 hG => ?_)
    clear hF
    revert hG
    intro hF
    replace hF := atV_e hF
    obtain ⟨rfl, hF⟩ := hF
    refine rz_aload_n dX11_statement_255 rfl (show _ = some (some (vo x0)) from rfl) ?_
    refine rz_bipush (v := 21) dX11_statement_256 (by decide) (by decide) ?_
    refine rz_iload_n dX11_statement_258 rfl (show _ = some (some (vi x2)) from rfl) ?_
    replace hF := rcv_e hF
    obtain ⟨fs, hg, hF⟩ := hF
    refine rz_callV (mc' := 0) (ms' := 0) (mc := 0) (ms := 0) (st := []) dX11_statement_259 cV_X11_188 rfl hg ⟨_, _, rfl⟩ rfl (Nat.le_of_ble_eq_true rfl) hF (fun v h7 hG => ?_)
    clear hF
    revert hG
    intro hF
    replace hF := atV_e hF
    obtain ⟨rfl, hF⟩ := hF
    refine rz_aload_n dX11_statement_262 rfl (show _ = some (some (vo x0)) from rfl) ?_
    refine rz_bipush (v := 59) dX11_statement_263 (by decide) (by decide) ?_
    replace hF := rcv_e hF
    obtain ⟨fs, hg, hF⟩ := hF
    refine rz_callV (mc' := 0) (ms' := 0) (mc := 0) (ms := 0) (st := []) dX11_statement_265 cV_X11_225 rfl hg ⟨_, _, rfl⟩ rfl (Nat.le_of_ble_eq_true rfl) hF (fun v h8 hG => ?_)
    clear hF
    revert hG
    intro hF
    replace hF := atV_e hF
    obtain ⟨rfl, hF⟩ := hF
    exact rz_vret dX11_statement_268 trivial hF
theorem vX11_statement_146 {G : az_G} {d : Nat} {x0 : Nat} {s0 : Int} {s1 : Option Nat} {h : az_H} {Q : Option az_V → az_H → Prop} (hF : nnR s1 (fun a1 => wrF h a1 11 14 (.boolean) (vi s0) (fun h2 => rdI h2 x0 11 14 (fun f3 => (if f3 = 0 then rcv h2 x0 11 (cz G mX11_next d 0 0 [vo x0] h2 (fun v h4 => atV v (rcv h4 x0 11 (cz G mX11_expression d 0 0 [vo x0, vi 0] h4 (fun v h5 => atV v (rdO h5 x0 11 20 (fun o6 => rdI h5 x0 11 19 (fun f7 => rdO h5 x0 11 10 (fun o8 => ldI h5 o8 (.int) 14 (fun e9 => stI h5 o6 .int f7 e9 (fun h10 => rdI h10 x0 11 19 (fun f11 => wrF h10 x0 11 19 (.int) (vi (w32 (f11 + 1))) (fun h12 => rdI h12 x0 11 21 (fun f13 => rcv h12 x0 11 (cz G mX11_step d 0 0 [vo x0, vi 23, vi f13] h12 (fun v h14 => atV v (rdI h14 x0 11 21 (fun f15 => wrF h14 x0 11 21 (.int) (vi (w32 (f15 + 1))) (fun h16 => rcv h16 x0 11 (cz G mX11_need d 0 0 [vo x0, vi 123] h16 (fun v h17 => atV v (Q none h17)))))))))))))))))))))) else Q none h2))))) : pX11_statement_146 G d x0 s0 s1 h Q := by
  unfold pX11_statement_146
  replace hF := nnR_e hF
  obtain ⟨a1, ea1, hF⟩ := hF
  subst ea1
  replace hF := wrF_e hF
  obtain ⟨fs, hg, hv, hF⟩ := hF
  refine rz_putf dX11_statement_146 fl_X11_166 (Or.inl rfl) hg hv ?_
  refine rz_aload_n dX11_statement_149 rfl (show _ = some (some (vo x0)) from rfl) ?_
  replace hF := rdI_e hF
  obtain ⟨fs, f3, hg, hv, hF⟩ := hF
  refine rz_getf dX11_statement_150 fl_X11_166 hg hv ?_
  refine rz_if_ne (tgt := 268) dX11_statement_153 (by decide) (fun c => ?_) (fun c => ?_)
  · replace hF := ite_f hF c
    exact rz_vret dX11_statement_268 trivial hF
  · replace hF := ite_t hF c
    refine rz_aload_n dX11_statement_156 rfl (show _ = some (some (vo x0)) from rfl) ?_
    replace hF := rcv_e hF
    obtain ⟨fs, hg, hF⟩ := hF
    refine rz_callV (mc' := 0) (ms' := 0) (mc := 0) (ms := 0) (st := []) dX11_statement_157 cV_X11_170 rfl hg ⟨_, _, rfl⟩ rfl (Nat.le_of_ble_eq_true rfl) hF (fun v h4 hG => ?_)
    clear hF
    revert hG
    intro hF
    replace hF := atV_e hF
    obtain ⟨rfl, hF⟩ := hF
    refine rz_aload_n dX11_statement_160 rfl (show _ = some (some (vo x0)) from rfl) ?_
    refine rz_iconst dX11_statement_161 rfl (by decide) ?_
    replace hF := rcv_e hF
    obtain ⟨fs, hg, hF⟩ := hF
    refine rz_callV (mc' := 0) (ms' := 0) (mc := 0) (ms := 0) (st := []) dX11_statement_162 cV_X11_218 rfl hg ⟨_, _, rfl⟩ rfl (Nat.le_of_ble_eq_true rfl) hF (fun v h5 hG => ?_)
    clear hF
    revert hG
    intro hF
    replace hF := atV_e hF
    obtain ⟨rfl, hF⟩ := hF
    refine rz_aload_n dX11_statement_165 rfl (show _ = some (some (vo x0)) from rfl) ?_
    replace hF := rdO_e hF
    obtain ⟨fs, o6, hg, hv, hF⟩ := hF
    refine rz_getf dX11_statement_166 fl_X11_35 hg hv ?_
    refine rz_aload_n dX11_statement_169 rfl (show _ = some (some (vo x0)) from rfl) ?_
    replace hF := rdI_e hF
    obtain ⟨fs, f7, hg, hv, hF⟩ := hF
    refine rz_getf dX11_statement_170 fl_X11_228 hg hv ?_
    refine rz_aload_n dX11_statement_173 rfl (show _ = some (some (vo x0)) from rfl) ?_
    replace hF := rdO_e hF
    obtain ⟨fs, o8, hg, hv, hF⟩ := hF
    refine rz_getf dX11_statement_174 fl_X11_22 hg hv ?_
    refine rz_bipush (v := 14) dX11_statement_177 (by decide) (by decide) ?_
    replace hF := ldI_e hF
    obtain ⟨xs, hg, h0, h1, hF⟩ := hF
    refine rz_iald dX11_statement_179 hg h0 h1 ?_
    generalize xs.getD _ 0 = e9 at hF ⊢
    replace hF := stI_e hF
    obtain ⟨xs, hg, h0, h1, hF⟩ := hF
    refine rz_iast dX11_statement_180 hg h0 h1 ?_
    refine rz_aload_n dX11_statement_181 rfl (show _ = some (some (vo x0)) from rfl) ?_
    refine rz_dup dX11_statement_182 (by rintro ⟨_, q⟩; cases q) ?_
    replace hF := rdI_e hF
    obtain ⟨fs, f11, hg, hv, hF⟩ := hF
    refine rz_getf dX11_statement_183 fl_X11_228 hg hv ?_
    refine rz_iconst dX11_statement_186 rfl (by decide) ?_
    refine rz_iadd dX11_statement_187 ?_
    replace hF := wrF_e hF
    obtain ⟨fs, hg, hv, hF⟩ := hF
    refine rz_putf dX11_statement_188 fl_X11_228 (Or.inl rfl) hg hv ?_
    refine rz_aload_n dX11_statement_191 rfl (show _ = some (some (vo x0)) from rfl) ?_
    refine rz_bipush (v := 23) dX11_statement_192 (by decide) (by decide) ?_
    refine rz_aload_n dX11_statement_194 rfl (show _ = some (some (vo x0)) from rfl) ?_
    replace hF := rdI_e hF
    obtain ⟨fs, f13, hg, hv, hF⟩ := hF
    refine rz_getf dX11_statement_195 fl_X11_222 hg hv ?_
    replace hF := rcv_e hF
    obtain ⟨fs, hg, hF⟩ := hF
    refine rz_callV (mc' := 0) (ms' := 0) (mc := 0) (ms := 0) (st := []) dX11_statement_198 cV_X11_188 rfl hg ⟨_, _, rfl⟩ rfl (Nat.le_of_ble_eq_true rfl) hF (fun v h14 hG => ?_)
    clear hF
    revert hG
    intro hF
    replace hF := atV_e hF
    obtain ⟨rfl, hF⟩ := hF
    refine rz_aload_n dX11_statement_201 rfl (show _ = some (some (vo x0)) from rfl) ?_
    refine rz_dup dX11_statement_202 (by rintro ⟨_, q⟩; cases q) ?_
    replace hF := rdI_e hF
    obtain ⟨fs, f15, hg, hv, hF⟩ := hF
    refine rz_getf dX11_statement_203 fl_X11_222 hg hv ?_
    refine rz_iconst dX11_statement_206 rfl (by decide) ?_
    refine rz_iadd dX11_statement_207 ?_
    replace hF := wrF_e hF
    obtain ⟨fs, hg, hv, hF⟩ := hF
    refine rz_putf dX11_statement_208 fl_X11_222 (Or.inl rfl) hg hv ?_
    refine rz_aload_n dX11_statement_211 rfl (show _ = some (some (vo x0)) from rfl) ?_
    refine rz_bipush (v := 123) dX11_statement_212 (by decide) (by decide) ?_
    replace hF := rcv_e hF
    obtain ⟨fs, hg, hF⟩ := hF
    refine rz_callV (mc' := 0) (ms' := 0) (mc := 0) (ms := 0) (st := []) dX11_statement_214 cV_X11_225 rfl hg ⟨_, _, rfl⟩ rfl (Nat.le_of_ble_eq_true rfl) hF (fun v h17 hG => ?_)
    clear hF
    revert hG
    intro hF
    replace hF := atV_e hF
    obtain ⟨rfl, hF⟩ := hF
    refine rz_goto (tgt := 268) dX11_statement_217 (by decide) ?_
    exact rz_vret dX11_statement_268 trivial hF
theorem vX11_statement_89 {G : az_G} {d : Nat} {x0 : Nat} {x1 : Int} {s0 : Int} {s1 : Option Nat} {h : az_H} {Q : Option az_V → az_H → Prop} (hF : rdI h x0 11 21 (fun f1 => nnR s1 (fun a3 => rcv h a3 11 (cz G mX11_step d 0 0 [vo a3, vi s0, vi f1] h (fun v h2 => atV v (rdI h2 x0 11 21 (fun f4 => (if x1 = 1852138852 then wrF h2 x0 11 21 (.int) (vi (w32 (f4 + 1))) (fun h7 => rcv h7 x0 11 (cz G mX11_need d 0 0 [vo x0, vi 59] h7 (fun v h8 => atV v (Q none h8)))) else wrF h2 x0 11 21 (.int) (vi (w32 (f4 + 0))) (fun h5 => rcv h5 x0 11 (cz G mX11_need d 0 0 [vo x0, vi 59] h5 (fun v h6 => atV v (Q none h6)))))))))))) : pX11_statement_89 G d x0 x1 s0 s1 h Q := by
  unfold pX11_statement_89
  refine rz_aload_n dX11_statement_89 rfl (show _ = some (some (vo x0)) from rfl) ?_
  replace hF := rdI_e hF
  obtain ⟨fs, f1, hg, hv, hF⟩ := hF
  refine rz_getf dX11_statement_90 fl_X11_222 hg hv ?_
  replace hF := nnR_e hF
  obtain ⟨a3, ea3, hF⟩ := hF
  subst ea3
  replace hF := rcv_e hF
  obtain ⟨fs, hg, hF⟩ := hF
  refine rz_callV (mc' := 0) (ms' := 0) (mc := 0) (ms := 0) (st := []) dX11_statement_93 cV_X11_188 rfl hg ⟨_, _, rfl⟩ rfl (Nat.le_of_ble_eq_true rfl) hF (fun v h2 hG => ?_)
  clear hF
  revert hG
  intro hF
  replace hF := atV_e hF
  obtain ⟨rfl, hF⟩ := hF
  refine rz_aload_n dX11_statement_96 rfl (show _ = some (some (vo x0)) from rfl) ?_
  refine rz_dup dX11_statement_97 (by rintro ⟨_, q⟩; cases q) ?_
  replace hF := rdI_e hF
  obtain ⟨fs, f4, hg, hv, hF⟩ := hF
  refine rz_getf dX11_statement_98 fl_X11_222 hg hv ?_
  refine rz_iload_n dX11_statement_101 rfl (show _ = some (some (vi x1)) from rfl) ?_
  refine rz_ldc (v := 1852138852) dX11_statement_102 k_1292 (by decide) ?_
  refine rz_icmp_ne (tgt := 111) dX11_statement_104 (by decide) (fun c => ?_) (fun c => ?_)
  · replace hF := ite_f hF c
    refine rz_iconst dX11_statement_111 rfl (by decide) ?_
    refine rz_iadd dX11_statement_112 ?_
    replace hF := wrF_e hF
    obtain ⟨fs, hg, hv, hF⟩ := hF
    refine rz_putf dX11_statement_113 fl_X11_222 (Or.inl rfl) hg hv ?_
    refine rz_aload_n dX11_statement_116 rfl (show _ = some (some (vo x0)) from rfl) ?_
    refine rz_bipush (v := 59) dX11_statement_117 (by decide) (by decide) ?_
    replace hF := rcv_e hF
    obtain ⟨fs, hg, hF⟩ := hF
    refine rz_callV (mc' := 0) (ms' := 0) (mc := 0) (ms := 0) (st := []) dX11_statement_119 cV_X11_225 rfl hg ⟨_, _, rfl⟩ rfl (Nat.le_of_ble_eq_true rfl) hF (fun v h6 hG => ?_)
    clear hF
    revert hG
    intro hF
    replace hF := atV_e hF
    obtain ⟨rfl, hF⟩ := hF
    refine rz_goto (tgt := 268) dX11_statement_122 (by decide) ?_
    exact rz_vret dX11_statement_268 trivial hF
  · replace hF := ite_t hF c
    refine rz_iconst dX11_statement_107 rfl (by decide) ?_
    refine rz_goto (tgt := 112) dX11_statement_108 (by decide) ?_
    refine rz_iadd dX11_statement_112 ?_
    replace hF := wrF_e hF
    obtain ⟨fs, hg, hv, hF⟩ := hF
    refine rz_putf dX11_statement_113 fl_X11_222 (Or.inl rfl) hg hv ?_
    refine rz_aload_n dX11_statement_116 rfl (show _ = some (some (vo x0)) from rfl) ?_
    refine rz_bipush (v := 59) dX11_statement_117 (by decide) (by decide) ?_
    replace hF := rcv_e hF
    obtain ⟨fs, hg, hF⟩ := hF
    refine rz_callV (mc' := 0) (ms' := 0) (mc := 0) (ms := 0) (st := []) dX11_statement_119 cV_X11_225 rfl hg ⟨_, _, rfl⟩ rfl (Nat.le_of_ble_eq_true rfl) hF (fun v h8 hG => ?_)
    clear hF
    revert hG
    intro hF
    replace hF := atV_e hF
    obtain ⟨rfl, hF⟩ := hF
    refine rz_goto (tgt := 268) dX11_statement_122 (by decide) ?_
    exact rz_vret dX11_statement_268 trivial hF
theorem vX11_statement_33 {G : az_G} {d : Nat} {x0 : Nat} {s0 : Int} {s1 : Option Nat} {h : az_H} {Q : Option az_V → az_H → Prop} (hF : nnR s1 (fun a1 => wrF h a1 11 14 (.boolean) (vi s0) (fun h2 => rdI h2 x0 11 5 (fun f3 => cz G mX11_cellOf d 0 0 [vi f3] h2 (fun v h4 => atI v (fun r5 => rdI h4 x0 11 14 (fun f6 => (if f6 = 0 then (if f3 = 1852138852 then rcv h4 x0 11 (cz G mX11_next d 0 0 [vo x0] h4 (fun v h7 => atV v (rcv h7 x0 11 (cz G mX11_expression d 0 0 [vo x0, vi 0] h7 (fun v h8 => atV v ((if f3 = 1852138852 then pX11_statement_89 G d x0 f3 20 (some x0) h8 Q else pX11_statement_89 G d x0 f3 22 (some x0) h8 Q))))))) else (if f3 = 7364985 then rcv h4 x0 11 (cz G mX11_next d 0 0 [vo x0] h4 (fun v h10 => atV v (rcv h10 x0 11 (cz G mX11_expression d 0 0 [vo x0, vi 0] h10 (fun v h11 => atV v ((if f3 = 1852138852 then pX11_statement_89 G d x0 f3 20 (some x0) h11 Q else pX11_statement_89 G d x0 f3 22 (some x0) h11 Q))))))) else (if f3 = 26982 then rdI h4 x0 11 19 (fun f9 => (if f9 = 4 then pX11_statement_146 G d x0 1 (some x0) h4 Q else pX11_statement_146 G d x0 0 (some x0) h4 Q)) else (if 0 ≤ r5 then pX11_statement_230 G d x0 r5 0 (some x0) h4 Q else pX11_statement_230 G d x0 r5 1 (some x0) h4 Q)))) else Q none h4)))))))) : pX11_statement_33 G d x0 s0 s1 h Q := by
  unfold pX11_statement_33
  replace hF := nnR_e hF
  obtain ⟨a1, ea1, hF⟩ := hF
  subst ea1
  replace hF := wrF_e hF
  obtain ⟨fs, hg, hv, hF⟩ := hF
  refine rz_putf dX11_statement_33 fl_X11_166 (Or.inl rfl) hg hv ?_
  refine rz_aload_n dX11_statement_36 rfl (show _ = some (some (vo x0)) from rfl) ?_
  replace hF := rdI_e hF
  obtain ⟨fs, f3, hg, hv, hF⟩ := hF
  refine rz_getf dX11_statement_37 fl_X11_160 hg hv ?_
  refine rz_istore_n (ls' := [some (vo x0), some (vi f3), none]) dX11_statement_40 rfl (Nat.le_of_ble_eq_true rfl) rfl ?_
  refine rz_iload_n dX11_statement_41 rfl (show _ = some (some (vi f3)) from rfl) ?_
  refine rz_callS (mc' := 0) (ms' := 0) (mc := 0) (ms := 0) (st := []) dX11_statement_42 cS_X11_192 rfl rfl (Nat.le_of_ble_eq_true rfl) hF (fun v h4 hG => ?_)
  clear hF
  revert hG
  intro hF
  replace hF := atI_e hF
  obtain ⟨r5, rfl, hF⟩ := hF
  refine rz_istore_n (ls' := [some (vo x0), some (vi f3), some (vi r5)]) dX11_statement_45 rfl (Nat.le_of_ble_eq_true rfl) rfl ?_
  refine rz_aload_n dX11_statement_46 rfl (show _ = some (some (vo x0)) from rfl) ?_
  replace hF := rdI_e hF
  obtain ⟨fs, f6, hg, hv, hF⟩ := hF
  refine rz_getf dX11_statement_47 fl_X11_166 hg hv ?_
  refine rz_if_eq (tgt := 54) dX11_statement_50 (by decide) (fun c => ?_) (fun c => ?_)
  · replace hF := ite_t hF c
    refine rz_iload_n dX11_statement_54 rfl (show _ = some (some (vi f3)) from rfl) ?_
    refine rz_ldc (v := 1852138852) dX11_statement_55 k_1292 (by decide) ?_
    refine rz_icmp_eq (tgt := 66) dX11_statement_57 (by decide) (fun c => ?_) (fun c => ?_)
    · replace hF := ite_t hF c
      refine rz_aload_n dX11_statement_66 rfl (show _ = some (some (vo x0)) from rfl) ?_
      replace hF := rcv_e hF
      obtain ⟨fs, hg, hF⟩ := hF
      refine rz_callV (mc' := 0) (ms' := 0) (mc := 0) (ms := 0) (st := []) dX11_statement_67 cV_X11_170 rfl hg ⟨_, _, rfl⟩ rfl (Nat.le_of_ble_eq_true rfl) hF (fun v h7 hG => ?_)
      clear hF
      revert hG
      intro hF
      replace hF := atV_e hF
      obtain ⟨rfl, hF⟩ := hF
      refine rz_aload_n dX11_statement_70 rfl (show _ = some (some (vo x0)) from rfl) ?_
      refine rz_iconst dX11_statement_71 rfl (by decide) ?_
      replace hF := rcv_e hF
      obtain ⟨fs, hg, hF⟩ := hF
      refine rz_callV (mc' := 0) (ms' := 0) (mc := 0) (ms := 0) (st := []) dX11_statement_72 cV_X11_218 rfl hg ⟨_, _, rfl⟩ rfl (Nat.le_of_ble_eq_true rfl) hF (fun v h8 hG => ?_)
      clear hF
      revert hG
      intro hF
      replace hF := atV_e hF
      obtain ⟨rfl, hF⟩ := hF
      refine rz_aload_n dX11_statement_75 rfl (show _ = some (some (vo x0)) from rfl) ?_
      refine rz_iload_n dX11_statement_76 rfl (show _ = some (some (vi f3)) from rfl) ?_
      refine rz_ldc (v := 1852138852) dX11_statement_77 k_1292 (by decide) ?_
      refine rz_icmp_ne (tgt := 87) dX11_statement_79 (by decide) (fun c => ?_) (fun c => ?_)
      · replace hF := ite_f hF c
        refine rz_bipush (v := 22) dX11_statement_87 (by decide) (by decide) ?_
        refine ez_kp [true, true, false] rfl ?_
        exact hF
      · replace hF := ite_t hF c
        refine rz_bipush (v := 20) dX11_statement_82 (by decide) (by decide) ?_
        refine rz_goto (tgt := 89) dX11_statement_84 (by decide) ?_
        refine ez_kp [true, true, false] rfl ?_
        exact hF
    · replace hF := ite_f hF c
      refine rz_iload_n dX11_statement_60 rfl (show _ = some (some (vi f3)) from rfl) ?_
      refine rz_ldc (v := 7364985) dX11_statement_61 k_1293 (by decide) ?_
      refine rz_icmp_ne (tgt := 125) dX11_statement_63 (by decide) (fun c => ?_) (fun c => ?_)
      · replace hF := ite_f hF c
        refine rz_iload_n dX11_statement_125 rfl (show _ = some (some (vi f3)) from rfl) ?_
        refine rz_sipush (v := 26982) dX11_statement_126 (by decide) (by decide) ?_
        refine rz_icmp_ne (tgt := 220) dX11_statement_129 (by decide) (fun c => ?_) (fun c => ?_)
        · replace hF := ite_f hF c
          refine rz_aload_n dX11_statement_220 rfl (show _ = some (some (vo x0)) from rfl) ?_
          refine rz_iload_n dX11_statement_221 rfl (show _ = some (some (vi r5)) from rfl) ?_
          refine rz_if_ge (tgt := 229) dX11_statement_222 (by decide) (fun c => ?_) (fun c => ?_)
          · replace hF := ite_t hF c
            refine rz_iconst dX11_statement_229 rfl (by decide) ?_
            refine ez_kp [true, false, true] rfl ?_
            exact hF
          · replace hF := ite_f hF c
            refine rz_iconst dX11_statement_225 rfl (by decide) ?_
            refine rz_goto (tgt := 230) dX11_statement_226 (by decide) ?_
            refine ez_kp [true, false, true] rfl ?_
            exact hF
        · replace hF := ite_t hF c
          refine rz_aload_n dX11_statement_132 rfl (show _ = some (some (vo x0)) from rfl) ?_
          refine rz_aload_n dX11_statement_133 rfl (show _ = some (some (vo x0)) from rfl) ?_
          replace hF := rdI_e hF
          obtain ⟨fs, f9, hg, hv, hF⟩ := hF
          refine rz_getf dX11_statement_134 fl_X11_228 hg hv ?_
          refine rz_iconst dX11_statement_137 rfl (by decide) ?_
          refine rz_icmp_ne (tgt := 145) dX11_statement_138 (by decide) (fun c => ?_) (fun c => ?_)
          · replace hF := ite_f hF c
            refine rz_iconst dX11_statement_145 rfl (by decide) ?_
            refine ez_kp [true, false, false] rfl ?_
            exact hF
          · replace hF := ite_t hF c
            refine rz_iconst dX11_statement_141 rfl (by decide) ?_
            refine rz_goto (tgt := 146) dX11_statement_142 (by decide) ?_
            refine ez_kp [true, false, false] rfl ?_
            exact hF
      · replace hF := ite_t hF c
        refine rz_aload_n dX11_statement_66 rfl (show _ = some (some (vo x0)) from rfl) ?_
        replace hF := rcv_e hF
        obtain ⟨fs, hg, hF⟩ := hF
        refine rz_callV (mc' := 0) (ms' := 0) (mc := 0) (ms := 0) (st := []) dX11_statement_67 cV_X11_170 rfl hg ⟨_, _, rfl⟩ rfl (Nat.le_of_ble_eq_true rfl) hF (fun v h10 hG => ?_)
        clear hF
        revert hG
        intro hF
        replace hF := atV_e hF
        obtain ⟨rfl, hF⟩ := hF
        refine rz_aload_n dX11_statement_70 rfl (show _ = some (some (vo x0)) from rfl) ?_
        refine rz_iconst dX11_statement_71 rfl (by decide) ?_
        replace hF := rcv_e hF
        obtain ⟨fs, hg, hF⟩ := hF
        refine rz_callV (mc' := 0) (ms' := 0) (mc := 0) (ms := 0) (st := []) dX11_statement_72 cV_X11_218 rfl hg ⟨_, _, rfl⟩ rfl (Nat.le_of_ble_eq_true rfl) hF (fun v h11 hG => ?_)
        clear hF
        revert hG
        intro hF
        replace hF := atV_e hF
        obtain ⟨rfl, hF⟩ := hF
        refine rz_aload_n dX11_statement_75 rfl (show _ = some (some (vo x0)) from rfl) ?_
        refine rz_iload_n dX11_statement_76 rfl (show _ = some (some (vi f3)) from rfl) ?_
        refine rz_ldc (v := 1852138852) dX11_statement_77 k_1292 (by decide) ?_
        refine rz_icmp_ne (tgt := 87) dX11_statement_79 (by decide) (fun c => ?_) (fun c => ?_)
        · replace hF := ite_f hF c
          refine rz_bipush (v := 22) dX11_statement_87 (by decide) (by decide) ?_
          refine ez_kp [true, true, false] rfl ?_
          exact hF
        · replace hF := ite_t hF c
          refine rz_bipush (v := 20) dX11_statement_82 (by decide) (by decide) ?_
          refine rz_goto (tgt := 89) dX11_statement_84 (by decide) ?_
          refine ez_kp [true, true, false] rfl ?_
          exact hF
  · replace hF := ite_f hF c
    exact rz_vret dX11_statement_53 trivial hF
theorem vX11_statement {G : az_G} {d : Nat} {x0 : Nat} {h : az_H} {Q : Option az_V → az_H → Prop} (hF : rdI h x0 11 18 (fun f1 => wrF h x0 11 18 (.int) (vi (w32 (f1 + 1))) (fun h2 => rdI h2 x0 11 18 (fun f3 => (if 12 < f3 then pX11_statement_33 G d x0 1 (some x0) h2 Q else rdI h2 x0 11 2 (fun f4 => (if f4 = 1 then pX11_statement_33 G d x0 0 (some x0) h2 Q else pX11_statement_33 G d x0 1 (some x0) h2 Q))))))) : cz G mX11_statement (d + 1) 0 0 [vo x0] h Q := by
  refine cz_of (ls := [some (vo x0), none, none]) (by decide +kernel) (Nat.le_of_ble_eq_true rfl) rfl ?_
  refine rz_aload_n dX11_statement_0 rfl (show _ = some (some (vo x0)) from rfl) ?_
  refine rz_dup dX11_statement_1 (by rintro ⟨_, q⟩; cases q) ?_
  replace hF := rdI_e hF
  obtain ⟨fs, f1, hg, hv, hF⟩ := hF
  refine rz_getf dX11_statement_2 fl_X11_213 hg hv ?_
  refine rz_iconst dX11_statement_5 rfl (by decide) ?_
  refine rz_iadd dX11_statement_6 ?_
  replace hF := wrF_e hF
  obtain ⟨fs, hg, hv, hF⟩ := hF
  refine rz_putf dX11_statement_7 fl_X11_213 (Or.inl rfl) hg hv ?_
  refine rz_aload_n dX11_statement_10 rfl (show _ = some (some (vo x0)) from rfl) ?_
  refine rz_aload_n dX11_statement_11 rfl (show _ = some (some (vo x0)) from rfl) ?_
  replace hF := rdI_e hF
  obtain ⟨fs, f3, hg, hv, hF⟩ := hF
  refine rz_getf dX11_statement_12 fl_X11_213 hg hv ?_
  refine rz_bipush (v := 12) dX11_statement_15 (by decide) (by decide) ?_
  refine rz_icmp_gt (tgt := 28) dX11_statement_17 (by decide) (fun c => ?_) (fun c => ?_)
  · replace hF := ite_t hF c
    refine rz_iconst dX11_statement_28 rfl (by decide) ?_
    refine rz_goto (tgt := 33) dX11_statement_29 (by decide) ?_
    exact hF
  · replace hF := ite_f hF c
    refine rz_aload_n dX11_statement_20 rfl (show _ = some (some (vo x0)) from rfl) ?_
    replace hF := rdI_e hF
    obtain ⟨fs, f4, hg, hv, hF⟩ := hF
    refine rz_getf dX11_statement_21 fl_X11_151 hg hv ?_
    refine rz_iconst dX11_statement_24 rfl (by decide) ?_
    refine rz_icmp_eq (tgt := 32) dX11_statement_25 (by decide) (fun c => ?_) (fun c => ?_)
    · replace hF := ite_t hF c
      refine rz_iconst dX11_statement_32 rfl (by decide) ?_
      exact hF
    · replace hF := ite_f hF c
      refine rz_iconst dX11_statement_28 rfl (by decide) ?_
      refine rz_goto (tgt := 33) dX11_statement_29 (by decide) ?_
      exact hF
theorem vX11_begin {G : az_G} {d : Nat} {x0 : Nat} {h : az_H} {Q : Option az_V → az_H → Prop} (hF : wrF h x0 11 4 (.int) (vi 0) (fun h1 => rdO h1 x0 11 10 (fun o2 => stI h1 o2 .int 14 0 (fun h3 => wrF h3 x0 11 14 (.boolean) (vi 0) (fun h4 => rcv h4 x0 11 (cz G mX11_next d 0 0 [vo x0] h4 (fun v h5 => atV v (Q none h5)))))))) : cz G mX11_begin (d + 1) 0 0 [vo x0] h Q := by
  refine cz_of (ls := [some (vo x0)]) (by decide +kernel) (Nat.le_of_ble_eq_true rfl) rfl ?_
  refine rz_aload_n dX11_begin_0 rfl (show _ = some (some (vo x0)) from rfl) ?_
  refine rz_iconst dX11_begin_1 rfl (by decide) ?_
  replace hF := wrF_e hF
  obtain ⟨fs, hg, hv, hF⟩ := hF
  refine rz_putf dX11_begin_2 fl_X11_141 (Or.inl rfl) hg hv ?_
  refine rz_aload_n dX11_begin_5 rfl (show _ = some (some (vo x0)) from rfl) ?_
  replace hF := rdO_e hF
  obtain ⟨fs, o2, hg, hv, hF⟩ := hF
  refine rz_getf dX11_begin_6 fl_X11_22 hg hv ?_
  refine rz_bipush (v := 14) dX11_begin_9 (by decide) (by decide) ?_
  refine rz_iconst dX11_begin_11 rfl (by decide) ?_
  replace hF := stI_e hF
  obtain ⟨xs, hg, h0, h1, hF⟩ := hF
  refine rz_iast dX11_begin_12 hg h0 h1 ?_
  refine rz_aload_n dX11_begin_13 rfl (show _ = some (some (vo x0)) from rfl) ?_
  refine rz_iconst dX11_begin_14 rfl (by decide) ?_
  replace hF := wrF_e hF
  obtain ⟨fs, hg, hv, hF⟩ := hF
  refine rz_putf dX11_begin_15 fl_X11_166 (Or.inl rfl) hg hv ?_
  refine rz_aload_n dX11_begin_18 rfl (show _ = some (some (vo x0)) from rfl) ?_
  replace hF := rcv_e hF
  obtain ⟨fs, hg, hF⟩ := hF
  refine rz_callV (mc' := 0) (ms' := 0) (mc := 0) (ms := 0) (st := []) dX11_begin_19 cV_X11_170 rfl hg ⟨_, _, rfl⟩ rfl (Nat.le_of_ble_eq_true rfl) hF (fun v h5 hG => ?_)
  clear hF
  revert hG
  intro hF
  replace hF := atV_e hF
  obtain ⟨rfl, hF⟩ := hF
  exact rz_vret dX11_begin_22 trivial hF
theorem vX11_end {G : az_G} {d : Nat} {x0 : Nat} {h : az_H} {Q : Option az_V → az_H → Prop} (hF : rdI h x0 11 14 (fun f1 => (if f1 = 0 then wrF h x0 11 1 (.int) (vi 0) (fun h2 => Q (some (vi 0)) h2) else rdI h x0 11 3 (fun f3 => wrF h x0 11 1 (.int) (vi 0) (fun h4 => Q (some (vi (w32 (((-10)) - f3)))) h4))))) : cz G mX11_end d 0 0 [vo x0] h Q := by
  refine cz_of (ls := [some (vo x0), none]) (by decide +kernel) (Nat.le_of_ble_eq_true rfl) rfl ?_
  refine rz_aload_n dX11_end_0 rfl (show _ = some (some (vo x0)) from rfl) ?_
  replace hF := rdI_e hF
  obtain ⟨fs, f1, hg, hv, hF⟩ := hF
  refine rz_getf dX11_end_1 fl_X11_166 hg hv ?_
  refine rz_if_eq (tgt := 17) dX11_end_4 (by decide) (fun c => ?_) (fun c => ?_)
  · replace hF := ite_t hF c
    refine rz_iconst dX11_end_17 rfl (by decide) ?_
    refine rz_istore_n (ls' := [some (vo x0), some (vi 0)]) dX11_end_18 rfl (Nat.le_of_ble_eq_true rfl) rfl ?_
    refine rz_aload_n dX11_end_19 rfl (show _ = some (some (vo x0)) from rfl) ?_
    refine rz_iconst dX11_end_20 rfl (by decide) ?_
    replace hF := wrF_e hF
    obtain ⟨fs, hg, hv, hF⟩ := hF
    refine rz_putf dX11_end_21 fl_X11_125 (Or.inl rfl) hg hv ?_
    refine rz_iload_n dX11_end_24 rfl (show _ = some (some (vi 0)) from rfl) ?_
    exact rz_iret dX11_end_25 trivial hF
  · replace hF := ite_f hF c
    refine rz_bipush (v := (-10)) dX11_end_7 (by decide) (by decide) ?_
    refine rz_aload_n dX11_end_9 rfl (show _ = some (some (vo x0)) from rfl) ?_
    replace hF := rdI_e hF
    obtain ⟨fs, f3, hg, hv, hF⟩ := hF
    refine rz_getf dX11_end_10 fl_X11_148 hg hv ?_
    refine rz_isub dX11_end_13 ?_
    refine rz_goto (tgt := 18) dX11_end_14 (by decide) ?_
    refine rz_istore_n (ls' := [some (vo x0), some (vi (w32 (((-10)) - f3)))]) dX11_end_18 rfl (Nat.le_of_ble_eq_true rfl) rfl ?_
    refine rz_aload_n dX11_end_19 rfl (show _ = some (some (vo x0)) from rfl) ?_
    refine rz_iconst dX11_end_20 rfl (by decide) ?_
    replace hF := wrF_e hF
    obtain ⟨fs, hg, hv, hF⟩ := hF
    refine rz_putf dX11_end_21 fl_X11_125 (Or.inl rfl) hg hv ?_
    refine rz_iload_n dX11_end_24 rfl (show _ = some (some (vi (w32 (((-10)) - f3)))) from rfl) ?_
    exact rz_iret dX11_end_25 trivial hF
def pX11_keep_2 (G : az_G) (d : Nat) (x0 : Nat) (x1 : Int) (x2 : Int) (h : az_H) (Q : Option az_V → az_H → Prop) : Prop := ez G mX11_keep d 0 0 2 [some (vo x0), some (vi x1), some (vi x2)] [] h Q
theorem vX11_keep_2 {G : az_G} {d : Nat} {x0 : Nat} {x1 : Int} {x2 : Int} {h : az_H} {Q : Option az_V → az_H → Prop} (hF : rdO h x0 11 10 (fun o1 => ldI h o1 (.int) 14 (fun e2 => (if e2 ≤ x2 then rdO h x0 11 10 (fun o3 => rdO h x0 11 10 (fun o4 => ldI h o4 (.int) 14 (fun e5 => stI h o3 .int x1 e5 (fun h6 => Q none h6)))) else rdO h x0 11 7 (fun o7 => rdO h x0 11 7 (fun o8 => ldI h o8 (.int) (w32 (4200 + x2)) (fun e9 => stI h o7 .int (w32 ((w32 (300 * x1)) + x2)) e9 (fun h10 => rdO h10 x0 11 8 (fun o11 => rdO h10 x0 11 8 (fun o12 => ldI h10 o12 (.int) (w32 (4200 + x2)) (fun e13 => stI h10 o11 .int (w32 ((w32 (300 * x1)) + x2)) e13 (fun h14 => rdO h14 x0 11 9 (fun o15 => rdO h14 x0 11 9 (fun o16 => ldI h14 o16 (.int) (w32 (4200 + x2)) (fun e17 => stI h14 o15 .int (w32 ((w32 (300 * x1)) + x2)) e17 (fun h18 => pX11_keep_2 G d x0 x1 (w32 (x2 + 1)) h18 Q)))))))))))))))) : pX11_keep_2 G d x0 x1 x2 h Q := by
  unfold pX11_keep_2
  refine rz_iload_n dX11_keep_2 rfl (show _ = some (some (vi x2)) from rfl) ?_
  refine rz_aload_n dX11_keep_3 rfl (show _ = some (some (vo x0)) from rfl) ?_
  replace hF := rdO_e hF
  obtain ⟨fs, o1, hg, hv, hF⟩ := hF
  refine rz_getf dX11_keep_4 fl_X11_22 hg hv ?_
  refine rz_bipush (v := 14) dX11_keep_7 (by decide) (by decide) ?_
  replace hF := ldI_e hF
  obtain ⟨xs, hg, h0, h1, hF⟩ := hF
  refine rz_iald dX11_keep_9 hg h0 h1 ?_
  generalize xs.getD _ 0 = e2 at hF ⊢
  refine rz_icmp_ge (tgt := 85) dX11_keep_10 (by decide) (fun c => ?_) (fun c => ?_)
  · replace hF := ite_t hF c
    refine rz_aload_n dX11_keep_85 rfl (show _ = some (some (vo x0)) from rfl) ?_
    replace hF := rdO_e hF
    obtain ⟨fs, o3, hg, hv, hF⟩ := hF
    refine rz_getf dX11_keep_86 fl_X11_22 hg hv ?_
    refine rz_iload_n dX11_keep_89 rfl (show _ = some (some (vi x1)) from rfl) ?_
    refine rz_aload_n dX11_keep_90 rfl (show _ = some (some (vo x0)) from rfl) ?_
    replace hF := rdO_e hF
    obtain ⟨fs, o4, hg, hv, hF⟩ := hF
    refine rz_getf dX11_keep_91 fl_X11_22 hg hv ?_
    refine rz_bipush (v := 14) dX11_keep_94 (by decide) (by decide) ?_
    replace hF := ldI_e hF
    obtain ⟨xs, hg, h0, h1, hF⟩ := hF
    refine rz_iald dX11_keep_96 hg h0 h1 ?_
    generalize xs.getD _ 0 = e5 at hF ⊢
    replace hF := stI_e hF
    obtain ⟨xs, hg, h0, h1, hF⟩ := hF
    refine rz_iast dX11_keep_97 hg h0 h1 ?_
    exact rz_vret dX11_keep_98 trivial hF
  · replace hF := ite_f hF c
    refine rz_aload_n dX11_keep_13 rfl (show _ = some (some (vo x0)) from rfl) ?_
    replace hF := rdO_e hF
    obtain ⟨fs, o7, hg, hv, hF⟩ := hF
    refine rz_getf dX11_keep_14 fl_X11_13 hg hv ?_
    refine rz_sipush (v := 300) dX11_keep_17 (by decide) (by decide) ?_
    refine rz_iload_n dX11_keep_20 rfl (show _ = some (some (vi x1)) from rfl) ?_
    refine rz_imul dX11_keep_21 ?_
    refine rz_iload_n dX11_keep_22 rfl (show _ = some (some (vi x2)) from rfl) ?_
    refine rz_iadd dX11_keep_23 ?_
    refine rz_aload_n dX11_keep_24 rfl (show _ = some (some (vo x0)) from rfl) ?_
    replace hF := rdO_e hF
    obtain ⟨fs, o8, hg, hv, hF⟩ := hF
    refine rz_getf dX11_keep_25 fl_X11_13 hg hv ?_
    refine rz_sipush (v := 4200) dX11_keep_28 (by decide) (by decide) ?_
    refine rz_iload_n dX11_keep_31 rfl (show _ = some (some (vi x2)) from rfl) ?_
    refine rz_iadd dX11_keep_32 ?_
    replace hF := ldI_e hF
    obtain ⟨xs, hg, h0, h1, hF⟩ := hF
    refine rz_iald dX11_keep_33 hg h0 h1 ?_
    generalize xs.getD _ 0 = e9 at hF ⊢
    replace hF := stI_e hF
    obtain ⟨xs, hg, h0, h1, hF⟩ := hF
    refine rz_iast dX11_keep_34 hg h0 h1 ?_
    refine rz_aload_n dX11_keep_35 rfl (show _ = some (some (vo x0)) from rfl) ?_
    replace hF := rdO_e hF
    obtain ⟨fs, o11, hg, hv, hF⟩ := hF
    refine rz_getf dX11_keep_36 fl_X11_16 hg hv ?_
    refine rz_sipush (v := 300) dX11_keep_39 (by decide) (by decide) ?_
    refine rz_iload_n dX11_keep_42 rfl (show _ = some (some (vi x1)) from rfl) ?_
    refine rz_imul dX11_keep_43 ?_
    refine rz_iload_n dX11_keep_44 rfl (show _ = some (some (vi x2)) from rfl) ?_
    refine rz_iadd dX11_keep_45 ?_
    refine rz_aload_n dX11_keep_46 rfl (show _ = some (some (vo x0)) from rfl) ?_
    replace hF := rdO_e hF
    obtain ⟨fs, o12, hg, hv, hF⟩ := hF
    refine rz_getf dX11_keep_47 fl_X11_16 hg hv ?_
    refine rz_sipush (v := 4200) dX11_keep_50 (by decide) (by decide) ?_
    refine rz_iload_n dX11_keep_53 rfl (show _ = some (some (vi x2)) from rfl) ?_
    refine rz_iadd dX11_keep_54 ?_
    replace hF := ldI_e hF
    obtain ⟨xs, hg, h0, h1, hF⟩ := hF
    refine rz_iald dX11_keep_55 hg h0 h1 ?_
    generalize xs.getD _ 0 = e13 at hF ⊢
    replace hF := stI_e hF
    obtain ⟨xs, hg, h0, h1, hF⟩ := hF
    refine rz_iast dX11_keep_56 hg h0 h1 ?_
    refine rz_aload_n dX11_keep_57 rfl (show _ = some (some (vo x0)) from rfl) ?_
    replace hF := rdO_e hF
    obtain ⟨fs, o15, hg, hv, hF⟩ := hF
    refine rz_getf dX11_keep_58 fl_X11_19 hg hv ?_
    refine rz_sipush (v := 300) dX11_keep_61 (by decide) (by decide) ?_
    refine rz_iload_n dX11_keep_64 rfl (show _ = some (some (vi x1)) from rfl) ?_
    refine rz_imul dX11_keep_65 ?_
    refine rz_iload_n dX11_keep_66 rfl (show _ = some (some (vi x2)) from rfl) ?_
    refine rz_iadd dX11_keep_67 ?_
    refine rz_aload_n dX11_keep_68 rfl (show _ = some (some (vo x0)) from rfl) ?_
    replace hF := rdO_e hF
    obtain ⟨fs, o16, hg, hv, hF⟩ := hF
    refine rz_getf dX11_keep_69 fl_X11_19 hg hv ?_
    refine rz_sipush (v := 4200) dX11_keep_72 (by decide) (by decide) ?_
    refine rz_iload_n dX11_keep_75 rfl (show _ = some (some (vi x2)) from rfl) ?_
    refine rz_iadd dX11_keep_76 ?_
    replace hF := ldI_e hF
    obtain ⟨xs, hg, h0, h1, hF⟩ := hF
    refine rz_iald dX11_keep_77 hg h0 h1 ?_
    generalize xs.getD _ 0 = e17 at hF ⊢
    replace hF := stI_e hF
    obtain ⟨xs, hg, h0, h1, hF⟩ := hF
    refine rz_iast dX11_keep_78 hg h0 h1 ?_
    refine rz_iinc (ls' := [some (vo x0), some (vi x1), some (vi (w32 (x2 + 1)))]) dX11_keep_79 rfl (Nat.le_of_ble_eq_true rfl) rfl ?_
    refine rz_goto (tgt := 2) dX11_keep_82 (by decide) ?_
    exact hF
theorem vX11_keep {G : az_G} {d : Nat} {x0 : Nat} {x1 : Int} {h : az_H} {Q : Option az_V → az_H → Prop} (hF : pX11_keep_2 G d x0 x1 0 h Q) : cz G mX11_keep d 0 0 [vo x0, vi x1] h Q := by
  refine cz_of (ls := [some (vo x0), some (vi x1), none]) (by decide +kernel) (Nat.le_of_ble_eq_true rfl) rfl ?_
  refine rz_iconst dX11_keep_0 rfl (by decide) ?_
  refine rz_istore_n (ls' := [some (vo x0), some (vi x1), some (vi 0)]) dX11_keep_1 rfl (Nat.le_of_ble_eq_true rfl) rfl ?_
  exact hF
def pX11_method_33 (G : az_G) (d : Nat) (x0 : Nat) (x1 : Int) (h : az_H) (Q : Option az_V → az_H → Prop) : Prop := ez G mX11_method (d + 1) 0 0 33 [some (vo x0), some (vi x1), none, none] [] h Q
def pX11_method_54 (G : az_G) (d : Nat) (x0 : Nat) (x1 : Int) (h : az_H) (Q : Option az_V → az_H → Prop) : Prop := ez G mX11_method (d + 1) 0 0 54 [some (vo x0), some (vi x1), none, none] [] h Q
def pX11_method_119 (G : az_G) (d : Nat) (x0 : Nat) (x1 : Int) (h : az_H) (Q : Option az_V → az_H → Prop) : Prop := ez G mX11_method (d + 1) 0 0 119 [some (vo x0), some (vi x1), none, none] [] h Q
def pX11_method_159 (G : az_G) (d : Nat) (x0 : Nat) (x1 : Int) (x3 : Int) (h : az_H) (Q : Option az_V → az_H → Prop) : Prop := ez G mX11_method (d + 1) 0 0 159 [some (vo x0), some (vi x1), none, some (vi x3)] [] h Q
theorem vX11_method_159 {G : az_G} {d : Nat} {x0 : Nat} {x1 : Int} {x3 : Int} {h : az_H} {Q : Option az_V → az_H → Prop} (hF : (if w32 ((w32 (24 * x1)) + 24) ≤ x3 then rdI h x0 11 18 (fun f1 => Q (some (vi f1)) h) else rdO h x0 11 28 (fun o2 => stI h o2 .boolean x3 0 (fun h3 => pX11_method_159 G d x0 x1 (w32 (x3 + 1)) h3 Q)))) : pX11_method_159 G d x0 x1 x3 h Q := by
  unfold pX11_method_159
  refine rz_iload_n dX11_method_159 rfl (show _ = some (some (vi x3)) from rfl) ?_
  refine rz_bipush (v := 24) dX11_method_160 (by decide) (by decide) ?_
  refine rz_iload_n dX11_method_162 rfl (show _ = some (some (vi x1)) from rfl) ?_
  refine rz_imul dX11_method_163 ?_
  refine rz_bipush (v := 24) dX11_method_164 (by decide) (by decide) ?_
  refine rz_iadd dX11_method_166 ?_
  refine rz_icmp_ge (tgt := 183) dX11_method_167 (by decide) (fun c => ?_) (fun c => ?_)
  · replace hF := ite_t hF c
    refine rz_aload_n dX11_method_183 rfl (show _ = some (some (vo x0)) from rfl) ?_
    replace hF := rdI_e hF
    obtain ⟨fs, f1, hg, hv, hF⟩ := hF
    refine rz_getf dX11_method_184 fl_X11_213 hg hv ?_
    exact rz_iret dX11_method_187 trivial hF
  · replace hF := ite_f hF c
    refine rz_aload_n dX11_method_170 rfl (show _ = some (some (vo x0)) from rfl) ?_
    replace hF := rdO_e hF
    obtain ⟨fs, o2, hg, hv, hF⟩ := hF
    refine rz_getf dX11_method_171 fl_X11_53 hg hv ?_
    refine rz_iload_n dX11_method_174 rfl (show _ = some (some (vi x3)) from rfl) ?_
    refine rz_iconst dX11_method_175 rfl (by decide) ?_
    replace hF := stI_e hF
    obtain ⟨xs, hg, h0, h1, hF⟩ := hF
    refine rz_zast dX11_method_176 hg h0 h1 (by decide) ?_
    refine rz_iinc (ls' := [some (vo x0), some (vi x1), none, some (vi (w32 (x3 + 1)))]) dX11_method_177 rfl (Nat.le_of_ble_eq_true rfl) rfl ?_
    refine rz_goto (tgt := 159) dX11_method_180 (by decide) ?_
    exact hF
theorem vX11_method_119 {G : az_G} {d : Nat} {x0 : Nat} {x1 : Int} {h : az_H} {Q : Option az_V → az_H → Prop} (hF : rcv h x0 11 (cz G mX11_end d 0 0 [vo x0] h (fun v h1 => atI v (fun r2 => (if 0 ≤ r2 then rcv h1 x0 11 (cz G mX11_keep d 0 0 [vo x0, vi x1] h1 (fun v h3 => atV v (rdO h3 x0 11 12 (fun o4 => stI h3 o4 .boolean x1 1 (fun h5 => rdO h5 x0 11 11 (fun o6 => rdI h5 x0 11 21 (fun f7 => stI h5 o6 .int x1 (w32 (2 * f7)) (fun h8 => pX11_method_159 G d x0 x1 (w32 (24 * x1)) h8 Q)))))))) else Q (some (vi r2)) h1))))) : pX11_method_119 G d x0 x1 h Q := by
  unfold pX11_method_119
  refine rz_aload_n dX11_method_119 rfl (show _ = some (some (vo x0)) from rfl) ?_
  replace hF := rcv_e hF
  obtain ⟨fs, hg, hF⟩ := hF
  refine rz_callV (mc' := 0) (ms' := 0) (mc := 0) (ms := 0) (st := []) dX11_method_120 cV_X11_239 rfl hg ⟨_, _, rfl⟩ rfl (Nat.le_of_ble_eq_true rfl) hF (fun v h1 hG => ?_)
  clear hF
  revert hG
  intro hF
  replace hF := atI_e hF
  obtain ⟨r2, rfl, hF⟩ := hF
  refine rz_istore_n (ls' := [some (vo x0), some (vi x1), some (vi r2), none]) dX11_method_123 rfl (Nat.le_of_ble_eq_true rfl) rfl ?_
  refine rz_iload_n dX11_method_124 rfl (show _ = some (some (vi r2)) from rfl) ?_
  refine rz_if_ge (tgt := 130) dX11_method_125 (by decide) (fun c => ?_) (fun c => ?_)
  · replace hF := ite_t hF c
    refine rz_aload_n dX11_method_130 rfl (show _ = some (some (vo x0)) from rfl) ?_
    refine rz_iload_n dX11_method_131 rfl (show _ = some (some (vi x1)) from rfl) ?_
    replace hF := rcv_e hF
    obtain ⟨fs, hg, hF⟩ := hF
    refine rz_callV (mc' := 0) (ms' := 0) (mc := 0) (ms := 0) (st := []) dX11_method_132 cV_X11_242 rfl hg ⟨_, _, rfl⟩ rfl (Nat.le_of_ble_eq_true rfl) hF (fun v h3 hG => ?_)
    clear hF
    revert hG
    intro hF
    replace hF := atV_e hF
    obtain ⟨rfl, hF⟩ := hF
    refine rz_aload_n dX11_method_135 rfl (show _ = some (some (vo x0)) from rfl) ?_
    replace hF := rdO_e hF
    obtain ⟨fs, o4, hg, hv, hF⟩ := hF
    refine rz_getf dX11_method_136 fl_X11_28 hg hv ?_
    refine rz_iload_n dX11_method_139 rfl (show _ = some (some (vi x1)) from rfl) ?_
    refine rz_iconst dX11_method_140 rfl (by decide) ?_
    replace hF := stI_e hF
    obtain ⟨xs, hg, h0, h1, hF⟩ := hF
    refine rz_zast dX11_method_141 hg h0 h1 (by decide) ?_
    refine rz_aload_n dX11_method_142 rfl (show _ = some (some (vo x0)) from rfl) ?_
    replace hF := rdO_e hF
    obtain ⟨fs, o6, hg, hv, hF⟩ := hF
    refine rz_getf dX11_method_143 fl_X11_25 hg hv ?_
    refine rz_iload_n dX11_method_146 rfl (show _ = some (some (vi x1)) from rfl) ?_
    refine rz_iconst dX11_method_147 rfl (by decide) ?_
    refine rz_aload_n dX11_method_148 rfl (show _ = some (some (vo x0)) from rfl) ?_
    replace hF := rdI_e hF
    obtain ⟨fs, f7, hg, hv, hF⟩ := hF
    refine rz_getf dX11_method_149 fl_X11_222 hg hv ?_
    refine rz_imul dX11_method_152 ?_
    replace hF := stI_e hF
    obtain ⟨xs, hg, h0, h1, hF⟩ := hF
    refine rz_iast dX11_method_153 hg h0 h1 ?_
    refine rz_bipush (v := 24) dX11_method_154 (by decide) (by decide) ?_
    refine rz_iload_n dX11_method_156 rfl (show _ = some (some (vi x1)) from rfl) ?_
    refine rz_imul dX11_method_157 ?_
    refine rz_istore_n (ls' := [some (vo x0), some (vi x1), some (vi r2), some (vi (w32 (24 * x1)))]) dX11_method_158 rfl (Nat.le_of_ble_eq_true rfl) rfl ?_
    refine ez_kp [true, true, false, true] rfl ?_
    exact hF
  · replace hF := ite_f hF c
    refine rz_iload_n dX11_method_128 rfl (show _ = some (some (vi r2)) from rfl) ?_
    exact rz_iret dX11_method_129 trivial hF
theorem vX11_method_54 {G : az_G} {d : Nat} {x0 : Nat} {x1 : Int} {h : az_H} {Q : Option az_V → az_H → Prop} (hF : rdI h x0 11 2 (fun f1 => (if f1 = 125 then rdI h x0 11 19 (fun f3 => (if f3 ≤ 0 then rcv h x0 11 (cz G mX11_statement d 0 0 [vo x0] h (fun v h4 => atV v (pX11_method_33 G d x0 x1 h4 Q))) else rdI h x0 11 19 (fun f5 => wrF h x0 11 19 (.int) (vi (w32 (f5 - 1))) (fun h6 => rdO h6 x0 11 9 (fun o7 => rdO h6 x0 11 20 (fun o8 => rdI h6 x0 11 19 (fun f9 => ldI h6 o8 (.int) f9 (fun e10 => rdO h6 x0 11 10 (fun o11 => ldI h6 o11 (.int) 14 (fun e12 => stI h6 o7 .int (w32 (4200 + e10)) e12 (fun h13 => rcv h13 x0 11 (cz G mX11_next d 0 0 [vo x0] h13 (fun v h14 => atV v (pX11_method_33 G d x0 x1 h14 Q)))))))))))))) else rcv h x0 11 (cz G mX11_statement d 0 0 [vo x0] h (fun v h2 => atV v (pX11_method_33 G d x0 x1 h2 Q)))))) : pX11_method_54 G d x0 x1 h Q := by
  unfold pX11_method_54
  refine rz_aload_n dX11_method_54 rfl (show _ = some (some (vo x0)) from rfl) ?_
  replace hF := rdI_e hF
  obtain ⟨fs, f1, hg, hv, hF⟩ := hF
  refine rz_getf dX11_method_55 fl_X11_151 hg hv ?_
  refine rz_bipush (v := 125) dX11_method_58 (by decide) (by decide) ?_
  refine rz_icmp_ne (tgt := 112) dX11_method_60 (by decide) (fun c => ?_) (fun c => ?_)
  · replace hF := ite_f hF c
    refine rz_aload_n dX11_method_112 rfl (show _ = some (some (vo x0)) from rfl) ?_
    replace hF := rcv_e hF
    obtain ⟨fs, hg, hF⟩ := hF
    refine rz_callV (mc' := 0) (ms' := 0) (mc := 0) (ms := 0) (st := []) dX11_method_113 cV_X11_236 rfl hg ⟨_, _, rfl⟩ rfl (Nat.le_of_ble_eq_true rfl) hF (fun v h2 hG => ?_)
    clear hF
    revert hG
    intro hF
    replace hF := atV_e hF
    obtain ⟨rfl, hF⟩ := hF
    refine rz_goto (tgt := 33) dX11_method_116 (by decide) ?_
    exact hF
  · replace hF := ite_t hF c
    refine rz_aload_n dX11_method_63 rfl (show _ = some (some (vo x0)) from rfl) ?_
    replace hF := rdI_e hF
    obtain ⟨fs, f3, hg, hv, hF⟩ := hF
    refine rz_getf dX11_method_64 fl_X11_228 hg hv ?_
    refine rz_if_le (tgt := 112) dX11_method_67 (by decide) (fun c => ?_) (fun c => ?_)
    · replace hF := ite_t hF c
      refine rz_aload_n dX11_method_112 rfl (show _ = some (some (vo x0)) from rfl) ?_
      replace hF := rcv_e hF
      obtain ⟨fs, hg, hF⟩ := hF
      refine rz_callV (mc' := 0) (ms' := 0) (mc := 0) (ms := 0) (st := []) dX11_method_113 cV_X11_236 rfl hg ⟨_, _, rfl⟩ rfl (Nat.le_of_ble_eq_true rfl) hF (fun v h4 hG => ?_)
      clear hF
      revert hG
      intro hF
      replace hF := atV_e hF
      obtain ⟨rfl, hF⟩ := hF
      refine rz_goto (tgt := 33) dX11_method_116 (by decide) ?_
      exact hF
    · replace hF := ite_f hF c
      refine rz_aload_n dX11_method_70 rfl (show _ = some (some (vo x0)) from rfl) ?_
      refine rz_dup dX11_method_71 (by rintro ⟨_, q⟩; cases q) ?_
      replace hF := rdI_e hF
      obtain ⟨fs, f5, hg, hv, hF⟩ := hF
      refine rz_getf dX11_method_72 fl_X11_228 hg hv ?_
      refine rz_iconst dX11_method_75 rfl (by decide) ?_
      refine rz_isub dX11_method_76 ?_
      replace hF := wrF_e hF
      obtain ⟨fs, hg, hv, hF⟩ := hF
      refine rz_putf dX11_method_77 fl_X11_228 (Or.inl rfl) hg hv ?_
      refine rz_aload_n dX11_method_80 rfl (show _ = some (some (vo x0)) from rfl) ?_
      replace hF := rdO_e hF
      obtain ⟨fs, o7, hg, hv, hF⟩ := hF
      refine rz_getf dX11_method_81 fl_X11_19 hg hv ?_
      refine rz_sipush (v := 4200) dX11_method_84 (by decide) (by decide) ?_
      refine rz_aload_n dX11_method_87 rfl (show _ = some (some (vo x0)) from rfl) ?_
      replace hF := rdO_e hF
      obtain ⟨fs, o8, hg, hv, hF⟩ := hF
      refine rz_getf dX11_method_88 fl_X11_35 hg hv ?_
      refine rz_aload_n dX11_method_91 rfl (show _ = some (some (vo x0)) from rfl) ?_
      replace hF := rdI_e hF
      obtain ⟨fs, f9, hg, hv, hF⟩ := hF
      refine rz_getf dX11_method_92 fl_X11_228 hg hv ?_
      replace hF := ldI_e hF
      obtain ⟨xs, hg, h0, h1, hF⟩ := hF
      refine rz_iald dX11_method_95 hg h0 h1 ?_
      generalize xs.getD _ 0 = e10 at hF ⊢
      refine rz_iadd dX11_method_96 ?_
      refine rz_aload_n dX11_method_97 rfl (show _ = some (some (vo x0)) from rfl) ?_
      replace hF := rdO_e hF
      obtain ⟨fs, o11, hg, hv, hF⟩ := hF
      refine rz_getf dX11_method_98 fl_X11_22 hg hv ?_
      refine rz_bipush (v := 14) dX11_method_101 (by decide) (by decide) ?_
      replace hF := ldI_e hF
      obtain ⟨xs, hg, h0, h1, hF⟩ := hF
      refine rz_iald dX11_method_103 hg h0 h1 ?_
      generalize xs.getD _ 0 = e12 at hF ⊢
      replace hF := stI_e hF
      obtain ⟨xs, hg, h0, h1, hF⟩ := hF
      refine rz_iast dX11_method_104 hg h0 h1 ?_
      refine rz_aload_n dX11_method_105 rfl (show _ = some (some (vo x0)) from rfl) ?_
      replace hF := rcv_e hF
      obtain ⟨fs, hg, hF⟩ := hF
      refine rz_callV (mc' := 0) (ms' := 0) (mc := 0) (ms := 0) (st := []) dX11_method_106 cV_X11_170 rfl hg ⟨_, _, rfl⟩ rfl (Nat.le_of_ble_eq_true rfl) hF (fun v h14 hG => ?_)
      clear hF
      revert hG
      intro hF
      replace hF := atV_e hF
      obtain ⟨rfl, hF⟩ := hF
      refine rz_goto (tgt := 33) dX11_method_109 (by decide) ?_
      exact hF
theorem vX11_method_33 {G : az_G} {d : Nat} {x0 : Nat} {x1 : Int} {h : az_H} {Q : Option az_V → az_H → Prop} (hF : rdI h x0 11 14 (fun f1 => (if f1 = 0 then rdI h x0 11 2 (fun f2 => (if f2 = 0 then rdI h x0 11 19 (fun f3 => (if f3 ≤ 0 then pX11_method_119 G d x0 x1 h Q else pX11_method_54 G d x0 x1 h Q)) else pX11_method_54 G d x0 x1 h Q)) else pX11_method_119 G d x0 x1 h Q))) : pX11_method_33 G d x0 x1 h Q := by
  unfold pX11_method_33
  refine rz_aload_n dX11_method_33 rfl (show _ = some (some (vo x0)) from rfl) ?_
  replace hF := rdI_e hF
  obtain ⟨fs, f1, hg, hv, hF⟩ := hF
  refine rz_getf dX11_method_34 fl_X11_166 hg hv ?_
  refine rz_if_ne (tgt := 119) dX11_method_37 (by decide) (fun c => ?_) (fun c => ?_)
  · replace hF := ite_f hF c
    exact hF
  · replace hF := ite_t hF c
    refine rz_aload_n dX11_method_40 rfl (show _ = some (some (vo x0)) from rfl) ?_
    replace hF := rdI_e hF
    obtain ⟨fs, f2, hg, hv, hF⟩ := hF
    refine rz_getf dX11_method_41 fl_X11_151 hg hv ?_
    refine rz_if_ne (tgt := 54) dX11_method_44 (by decide) (fun c => ?_) (fun c => ?_)
    · replace hF := ite_f hF c
      exact hF
    · replace hF := ite_t hF c
      refine rz_aload_n dX11_method_47 rfl (show _ = some (some (vo x0)) from rfl) ?_
      replace hF := rdI_e hF
      obtain ⟨fs, f3, hg, hv, hF⟩ := hF
      refine rz_getf dX11_method_48 fl_X11_228 hg hv ?_
      refine rz_if_le (tgt := 119) dX11_method_51 (by decide) (fun c => ?_) (fun c => ?_)
      · replace hF := ite_t hF c
        exact hF
      · replace hF := ite_f hF c
        exact hF
theorem vX11_method {G : az_G} {d : Nat} {x0 : Nat} {x1 : Int} {h : az_H} {Q : Option az_V → az_H → Prop} (hF : cz G mX11_in d 0 0 [vl x1, vl 0, vl 5] h (fun v h1 => atI v (fun r2 => (if r2 = 0 then Q (some (vi ((-1)))) h1 else rcv h1 x0 11 (cz G mX11_begin d 0 0 [vo x0] h1 (fun v h3 => atV v (wrF h3 x0 11 18 (.int) (vi 0) (fun h4 => wrF h4 x0 11 19 (.int) (vi 0) (fun h5 => wrF h5 x0 11 21 (.int) (vi 0) (fun h6 => pX11_method_33 G d x0 x1 h6 Q)))))))))) : cz G mX11_method (d + 1) 0 0 [vo x0, vi x1] h Q := by
  refine cz_of (ls := [some (vo x0), some (vi x1), none, none]) (by decide +kernel) (Nat.le_of_ble_eq_true rfl) rfl ?_
  refine rz_iload_n dX11_method_0 rfl (show _ = some (some (vi x1)) from rfl) ?_
  refine rz_i2l dX11_method_1 ?_
  refine rz_lconst (v := 0) dX11_method_2 (by decide) (by decide) ?_
  refine rz_ldc2 (v := 5) dX11_method_3 k_1259 (by decide) ?_
  refine rz_callS (mc' := 0) (ms' := 0) (mc := 0) (ms := 0) (st := []) dX11_method_6 cS_X11_117 rfl rfl (Nat.le_of_ble_eq_true rfl) hF (fun v h1 hG => ?_)
  clear hF
  revert hG
  intro hF
  replace hF := atI_e hF
  obtain ⟨r2, rfl, hF⟩ := hF
  refine rz_if_ne (tgt := 14) dX11_method_9 (by decide) (fun c => ?_) (fun c => ?_)
  · replace hF := ite_f hF c
    refine rz_aload_n dX11_method_14 rfl (show _ = some (some (vo x0)) from rfl) ?_
    replace hF := rcv_e hF
    obtain ⟨fs, hg, hF⟩ := hF
    refine rz_callV (mc' := 0) (ms' := 0) (mc := 0) (ms := 0) (st := []) dX11_method_15 cV_X11_233 rfl hg ⟨_, _, rfl⟩ rfl (Nat.le_of_ble_eq_true rfl) hF (fun v h3 hG => ?_)
    clear hF
    revert hG
    intro hF
    replace hF := atV_e hF
    obtain ⟨rfl, hF⟩ := hF
    refine rz_aload_n dX11_method_18 rfl (show _ = some (some (vo x0)) from rfl) ?_
    refine rz_iconst dX11_method_19 rfl (by decide) ?_
    replace hF := wrF_e hF
    obtain ⟨fs, hg, hv, hF⟩ := hF
    refine rz_putf dX11_method_20 fl_X11_213 (Or.inl rfl) hg hv ?_
    refine rz_aload_n dX11_method_23 rfl (show _ = some (some (vo x0)) from rfl) ?_
    refine rz_iconst dX11_method_24 rfl (by decide) ?_
    replace hF := wrF_e hF
    obtain ⟨fs, hg, hv, hF⟩ := hF
    refine rz_putf dX11_method_25 fl_X11_228 (Or.inl rfl) hg hv ?_
    refine rz_aload_n dX11_method_28 rfl (show _ = some (some (vo x0)) from rfl) ?_
    refine rz_iconst dX11_method_29 rfl (by decide) ?_
    replace hF := wrF_e hF
    obtain ⟨fs, hg, hv, hF⟩ := hF
    refine rz_putf dX11_method_30 fl_X11_222 (Or.inl rfl) hg hv ?_
    exact hF
  · replace hF := ite_t hF c
    refine rz_iconst dX11_method_12 rfl (by decide) ?_
    exact rz_iret dX11_method_13 trivial hF
def pX11_rule_29 (G : az_G) (d : Nat) (x0 : Nat) (s0 : Int) (s1 : Option Nat) (h : az_H) (Q : Option az_V → az_H → Prop) : Prop := ez G mX11_rule (d + 1) 0 0 29 [some (vo x0), none] [vi s0, vr s1] h Q
theorem vX11_rule_29 {G : az_G} {d : Nat} {x0 : Nat} {s0 : Int} {s1 : Option Nat} {h : az_H} {Q : Option az_V → az_H → Prop} (hF : nnR s1 (fun a1 => wrF h a1 11 14 (.boolean) (vi s0) (fun h2 => rcv h2 x0 11 (cz G mX11_end d 0 0 [vo x0] h2 (fun v h3 => atI v (fun r4 => (if 0 ≤ r4 then rdI h3 x0 11 13 (fun f5 => (if f5 = 8 then Q (some (vi ((-3)))) h3 else rdI h3 x0 11 13 (fun f6 => rcv h3 x0 11 (cz G mX11_keep d 0 0 [vo x0, vi (w32 (6 + f6))] h3 (fun v h7 => atV v (rdI h7 x0 11 13 (fun f8 => wrF h7 x0 11 13 (.int) (vi (w32 (f8 + 1))) (fun h9 => rdI h9 x0 11 13 (fun f10 => Q (some (vi (w32 (f10 - 1)))) h9))))))))) else Q (some (vi r4)) h3))))))) : pX11_rule_29 G d x0 s0 s1 h Q := by
  unfold pX11_rule_29
  replace hF := nnR_e hF
  obtain ⟨a1, ea1, hF⟩ := hF
  subst ea1
  replace hF := wrF_e hF
  obtain ⟨fs, hg, hv, hF⟩ := hF
  refine rz_putf dX11_rule_29 fl_X11_166 (Or.inl rfl) hg hv ?_
  refine rz_aload_n dX11_rule_32 rfl (show _ = some (some (vo x0)) from rfl) ?_
  replace hF := rcv_e hF
  obtain ⟨fs, hg, hF⟩ := hF
  refine rz_callV (mc' := 0) (ms' := 0) (mc := 0) (ms := 0) (st := []) dX11_rule_33 cV_X11_239 rfl hg ⟨_, _, rfl⟩ rfl (Nat.le_of_ble_eq_true rfl) hF (fun v h3 hG => ?_)
  clear hF
  revert hG
  intro hF
  replace hF := atI_e hF
  obtain ⟨r4, rfl, hF⟩ := hF
  refine rz_istore_n (ls' := [some (vo x0), some (vi r4)]) dX11_rule_36 rfl (Nat.le_of_ble_eq_true rfl) rfl ?_
  refine rz_iload_n dX11_rule_37 rfl (show _ = some (some (vi r4)) from rfl) ?_
  refine rz_if_ge (tgt := 43) dX11_rule_38 (by decide) (fun c => ?_) (fun c => ?_)
  · replace hF := ite_t hF c
    refine rz_aload_n dX11_rule_43 rfl (show _ = some (some (vo x0)) from rfl) ?_
    replace hF := rdI_e hF
    obtain ⟨fs, f5, hg, hv, hF⟩ := hF
    refine rz_getf dX11_rule_44 fl_X11_245 hg hv ?_
    refine rz_bipush (v := 8) dX11_rule_47 (by decide) (by decide) ?_
    refine rz_icmp_ne (tgt := 55) dX11_rule_49 (by decide) (fun c => ?_) (fun c => ?_)
    · replace hF := ite_f hF c
      refine rz_aload_n dX11_rule_55 rfl (show _ = some (some (vo x0)) from rfl) ?_
      refine rz_bipush (v := 6) dX11_rule_56 (by decide) (by decide) ?_
      refine rz_aload_n dX11_rule_58 rfl (show _ = some (some (vo x0)) from rfl) ?_
      replace hF := rdI_e hF
      obtain ⟨fs, f6, hg, hv, hF⟩ := hF
      refine rz_getf dX11_rule_59 fl_X11_245 hg hv ?_
      refine rz_iadd dX11_rule_62 ?_
      replace hF := rcv_e hF
      obtain ⟨fs, hg, hF⟩ := hF
      refine rz_callV (mc' := 0) (ms' := 0) (mc := 0) (ms := 0) (st := []) dX11_rule_63 cV_X11_242 rfl hg ⟨_, _, rfl⟩ rfl (Nat.le_of_ble_eq_true rfl) hF (fun v h7 hG => ?_)
      clear hF
      revert hG
      intro hF
      replace hF := atV_e hF
      obtain ⟨rfl, hF⟩ := hF
      refine rz_aload_n dX11_rule_66 rfl (show _ = some (some (vo x0)) from rfl) ?_
      refine rz_dup dX11_rule_67 (by rintro ⟨_, q⟩; cases q) ?_
      replace hF := rdI_e hF
      obtain ⟨fs, f8, hg, hv, hF⟩ := hF
      refine rz_getf dX11_rule_68 fl_X11_245 hg hv ?_
      refine rz_iconst dX11_rule_71 rfl (by decide) ?_
      refine rz_iadd dX11_rule_72 ?_
      replace hF := wrF_e hF
      obtain ⟨fs, hg, hv, hF⟩ := hF
      refine rz_putf dX11_rule_73 fl_X11_245 (Or.inl rfl) hg hv ?_
      refine rz_aload_n dX11_rule_76 rfl (show _ = some (some (vo x0)) from rfl) ?_
      replace hF := rdI_e hF
      obtain ⟨fs, f10, hg, hv, hF⟩ := hF
      refine rz_getf dX11_rule_77 fl_X11_245 hg hv ?_
      refine rz_iconst dX11_rule_80 rfl (by decide) ?_
      refine rz_isub dX11_rule_81 ?_
      exact rz_iret dX11_rule_82 trivial hF
    · replace hF := ite_t hF c
      refine rz_bipush (v := (-3)) dX11_rule_52 (by decide) (by decide) ?_
      exact rz_iret dX11_rule_54 trivial hF
  · replace hF := ite_f hF c
    refine rz_iload_n dX11_rule_41 rfl (show _ = some (some (vi r4)) from rfl) ?_
    exact rz_iret dX11_rule_42 trivial hF
theorem vX11_rule {G : az_G} {d : Nat} {x0 : Nat} {h : az_H} {Q : Option az_V → az_H → Prop} (hF : rcv h x0 11 (cz G mX11_begin d 0 0 [vo x0] h (fun v h1 => atV v (rcv h1 x0 11 (cz G mX11_expression d 0 0 [vo x0, vi 1] h1 (fun v h2 => atV v (rdI h2 x0 11 14 (fun f3 => (if f3 = 0 then rdI h2 x0 11 2 (fun f4 => (if f4 = 0 then pX11_rule_29 G d x0 0 (some x0) h2 Q else pX11_rule_29 G d x0 1 (some x0) h2 Q)) else pX11_rule_29 G d x0 1 (some x0) h2 Q))))))))) : cz G mX11_rule (d + 1) 0 0 [vo x0] h Q := by
  refine cz_of (ls := [some (vo x0), none]) (by decide +kernel) (Nat.le_of_ble_eq_true rfl) rfl ?_
  refine rz_aload_n dX11_rule_0 rfl (show _ = some (some (vo x0)) from rfl) ?_
  replace hF := rcv_e hF
  obtain ⟨fs, hg, hF⟩ := hF
  refine rz_callV (mc' := 0) (ms' := 0) (mc := 0) (ms := 0) (st := []) dX11_rule_1 cV_X11_233 rfl hg ⟨_, _, rfl⟩ rfl (Nat.le_of_ble_eq_true rfl) hF (fun v h1 hG => ?_)
  clear hF
  revert hG
  intro hF
  replace hF := atV_e hF
  obtain ⟨rfl, hF⟩ := hF
  refine rz_aload_n dX11_rule_4 rfl (show _ = some (some (vo x0)) from rfl) ?_
  refine rz_iconst dX11_rule_5 rfl (by decide) ?_
  replace hF := rcv_e hF
  obtain ⟨fs, hg, hF⟩ := hF
  refine rz_callV (mc' := 0) (ms' := 0) (mc := 0) (ms := 0) (st := []) dX11_rule_6 cV_X11_218 rfl hg ⟨_, _, rfl⟩ rfl (Nat.le_of_ble_eq_true rfl) hF (fun v h2 hG => ?_)
  clear hF
  revert hG
  intro hF
  replace hF := atV_e hF
  obtain ⟨rfl, hF⟩ := hF
  refine rz_aload_n dX11_rule_9 rfl (show _ = some (some (vo x0)) from rfl) ?_
  refine rz_aload_n dX11_rule_10 rfl (show _ = some (some (vo x0)) from rfl) ?_
  replace hF := rdI_e hF
  obtain ⟨fs, f3, hg, hv, hF⟩ := hF
  refine rz_getf dX11_rule_11 fl_X11_166 hg hv ?_
  refine rz_if_ne (tgt := 24) dX11_rule_14 (by decide) (fun c => ?_) (fun c => ?_)
  · replace hF := ite_f hF c
    refine rz_iconst dX11_rule_24 rfl (by decide) ?_
    refine rz_goto (tgt := 29) dX11_rule_25 (by decide) ?_
    exact hF
  · replace hF := ite_t hF c
    refine rz_aload_n dX11_rule_17 rfl (show _ = some (some (vo x0)) from rfl) ?_
    replace hF := rdI_e hF
    obtain ⟨fs, f4, hg, hv, hF⟩ := hF
    refine rz_getf dX11_rule_18 fl_X11_151 hg hv ?_
    refine rz_if_eq (tgt := 28) dX11_rule_21 (by decide) (fun c => ?_) (fun c => ?_)
    · replace hF := ite_t hF c
      refine rz_iconst dX11_rule_28 rfl (by decide) ?_
      exact hF
    · replace hF := ite_f hF c
      refine rz_iconst dX11_rule_24 rfl (by decide) ?_
      refine rz_goto (tgt := 29) dX11_rule_25 (by decide) ?_
      exact hF
def pX11_load_2 (G : az_G) (d : Nat) (x0 : Nat) (x1 : Option Nat) (x2 : Int) (x3 : Int) (h : az_H) (Q : Option az_V → az_H → Prop) : Prop := ez G mX11_load d 0 0 2 [some (vo x0), some (vr x1), some (vi x2), some (vi x3)] [] h Q
theorem vX11_load_2 {G : az_G} {d : Nat} {x0 : Nat} {x1 : Option Nat} {x2 : Int} {x3 : Int} {h : az_H} {Q : Option az_V → az_H → Prop} (hF : (if 19 ≤ x3 then Q none h else rdO h x0 11 22 (fun o1 => nnR x1 (fun a2 => ldI h a2 (.int) (w32 ((w32 (19 * x2)) + x3)) (fun e3 => stI h o1 .int x3 e3 (fun h4 => pX11_load_2 G d x0 (some a2) x2 (w32 (x3 + 1)) h4 Q)))))) : pX11_load_2 G d x0 x1 x2 x3 h Q := by
  unfold pX11_load_2
  refine rz_iload_n dX11_load_2 rfl (show _ = some (some (vi x3)) from rfl) ?_
  refine rz_bipush (v := 19) dX11_load_3 (by decide) (by decide) ?_
  refine rz_icmp_ge (tgt := 28) dX11_load_5 (by decide) (fun c => ?_) (fun c => ?_)
  · replace hF := ite_t hF c
    exact rz_vret dX11_load_28 trivial hF
  · replace hF := ite_f hF c
    refine rz_aload_n dX11_load_8 rfl (show _ = some (some (vo x0)) from rfl) ?_
    replace hF := rdO_e hF
    obtain ⟨fs, o1, hg, hv, hF⟩ := hF
    refine rz_getf dX11_load_9 fl_X11_38 hg hv ?_
    refine rz_iload_n dX11_load_12 rfl (show _ = some (some (vi x3)) from rfl) ?_
    refine rz_aload_n dX11_load_13 rfl (show _ = some (some (vr x1)) from rfl) ?_
    refine rz_bipush (v := 19) dX11_load_14 (by decide) (by decide) ?_
    refine rz_iload_n dX11_load_16 rfl (show _ = some (some (vi x2)) from rfl) ?_
    refine rz_imul dX11_load_17 ?_
    refine rz_iload_n dX11_load_18 rfl (show _ = some (some (vi x3)) from rfl) ?_
    refine rz_iadd dX11_load_19 ?_
    replace hF := nnR_e hF
    obtain ⟨a2, ea2, hF⟩ := hF
    subst ea2
    replace hF := ldI_e hF
    obtain ⟨xs, hg, h0, h1, hF⟩ := hF
    refine rz_iald dX11_load_20 hg h0 h1 ?_
    generalize xs.getD _ 0 = e3 at hF ⊢
    replace hF := stI_e hF
    obtain ⟨xs, hg, h0, h1, hF⟩ := hF
    refine rz_iast dX11_load_21 hg h0 h1 ?_
    refine rz_iinc (ls' := [some (vo x0), some (vo a2), some (vi x2), some (vi (w32 (x3 + 1)))]) dX11_load_22 rfl (Nat.le_of_ble_eq_true rfl) rfl ?_
    refine rz_goto (tgt := 2) dX11_load_25 (by decide) ?_
    exact hF
theorem vX11_load {G : az_G} {d : Nat} {x0 : Nat} {x1 : Option Nat} {x2 : Int} {h : az_H} {Q : Option az_V → az_H → Prop} (hF : pX11_load_2 G d x0 x1 x2 0 h Q) : cz G mX11_load d 0 0 [vo x0, vr x1, vi x2] h Q := by
  refine cz_of (ls := [some (vo x0), some (vr x1), some (vi x2), none]) (by decide +kernel) (Nat.le_of_ble_eq_true rfl) rfl ?_
  refine rz_iconst dX11_load_0 rfl (by decide) ?_
  refine rz_istore_n (ls' := [some (vo x0), some (vr x1), some (vi x2), some (vi 0)]) dX11_load_1 rfl (Nat.le_of_ble_eq_true rfl) rfl ?_
  exact hF
def pX11_save_2 (G : az_G) (d : Nat) (x0 : Nat) (x1 : Option Nat) (x2 : Int) (x3 : Int) (h : az_H) (Q : Option az_V → az_H → Prop) : Prop := ez G mX11_save d 0 0 2 [some (vo x0), some (vr x1), some (vi x2), some (vi x3)] [] h Q
theorem vX11_save_2 {G : az_G} {d : Nat} {x0 : Nat} {x1 : Option Nat} {x2 : Int} {x3 : Int} {h : az_H} {Q : Option az_V → az_H → Prop} (hF : (if 19 ≤ x3 then Q none h else rdO h x0 11 22 (fun o1 => ldI h o1 (.int) x3 (fun e2 => nnR x1 (fun a3 => stI h a3 .int (w32 ((w32 (19 * x2)) + x3)) e2 (fun h4 => pX11_save_2 G d x0 (some a3) x2 (w32 (x3 + 1)) h4 Q)))))) : pX11_save_2 G d x0 x1 x2 x3 h Q := by
  unfold pX11_save_2
  refine rz_iload_n dX11_save_2 rfl (show _ = some (some (vi x3)) from rfl) ?_
  refine rz_bipush (v := 19) dX11_save_3 (by decide) (by decide) ?_
  refine rz_icmp_ge (tgt := 28) dX11_save_5 (by decide) (fun c => ?_) (fun c => ?_)
  · replace hF := ite_t hF c
    exact rz_vret dX11_save_28 trivial hF
  · replace hF := ite_f hF c
    refine rz_aload_n dX11_save_8 rfl (show _ = some (some (vr x1)) from rfl) ?_
    refine rz_bipush (v := 19) dX11_save_9 (by decide) (by decide) ?_
    refine rz_iload_n dX11_save_11 rfl (show _ = some (some (vi x2)) from rfl) ?_
    refine rz_imul dX11_save_12 ?_
    refine rz_iload_n dX11_save_13 rfl (show _ = some (some (vi x3)) from rfl) ?_
    refine rz_iadd dX11_save_14 ?_
    refine rz_aload_n dX11_save_15 rfl (show _ = some (some (vo x0)) from rfl) ?_
    replace hF := rdO_e hF
    obtain ⟨fs, o1, hg, hv, hF⟩ := hF
    refine rz_getf dX11_save_16 fl_X11_38 hg hv ?_
    refine rz_iload_n dX11_save_19 rfl (show _ = some (some (vi x3)) from rfl) ?_
    replace hF := ldI_e hF
    obtain ⟨xs, hg, h0, h1, hF⟩ := hF
    refine rz_iald dX11_save_20 hg h0 h1 ?_
    generalize xs.getD _ 0 = e2 at hF ⊢
    replace hF := nnR_e hF
    obtain ⟨a3, ea3, hF⟩ := hF
    subst ea3
    replace hF := stI_e hF
    obtain ⟨xs, hg, h0, h1, hF⟩ := hF
    refine rz_iast dX11_save_21 hg h0 h1 ?_
    refine rz_iinc (ls' := [some (vo x0), some (vo a3), some (vi x2), some (vi (w32 (x3 + 1)))]) dX11_save_22 rfl (Nat.le_of_ble_eq_true rfl) rfl ?_
    refine rz_goto (tgt := 2) dX11_save_25 (by decide) ?_
    exact hF
theorem vX11_save {G : az_G} {d : Nat} {x0 : Nat} {x1 : Option Nat} {x2 : Int} {h : az_H} {Q : Option az_V → az_H → Prop} (hF : pX11_save_2 G d x0 x1 x2 0 h Q) : cz G mX11_save d 0 0 [vo x0, vr x1, vi x2] h Q := by
  refine cz_of (ls := [some (vo x0), some (vr x1), some (vi x2), none]) (by decide +kernel) (Nat.le_of_ble_eq_true rfl) rfl ?_
  refine rz_iconst dX11_save_0 rfl (by decide) ?_
  refine rz_istore_n (ls' := [some (vo x0), some (vr x1), some (vi x2), some (vi 0)]) dX11_save_1 rfl (Nat.le_of_ble_eq_true rfl) rfl ?_
  exact hF
def pX11_toStart_2 (G : az_G) (d : Nat) (x0 : Nat) (x1 : Int) (h : az_H) (Q : Option az_V → az_H → Prop) : Prop := ez G mX11_toStart (d + 1) 0 0 2 [some (vo x0), some (vi x1)] [] h Q
theorem vX11_toStart_2 {G : az_G} {d : Nat} {x0 : Nat} {x1 : Int} {h : az_H} {Q : Option az_V → az_H → Prop} (hF : (if 19 ≤ x1 then Q none h else rdO h x0 11 22 (fun o1 => cz G mX11_in d 0 0 [vl x1, vl 14, vl 17] h (fun v h2 => atI v (fun r3 => (if r3 = 0 then stI h2 o1 .int x1 0 (fun h4 => pX11_toStart_2 G d x0 (w32 (x1 + 1)) h4 Q) else rdO h2 x0 11 24 (fun o5 => ldI h2 o5 (.int) (w32 (x1 - 14)) (fun e6 => stI h2 o1 .int x1 e6 (fun h7 => pX11_toStart_2 G d x0 (w32 (x1 + 1)) h7 Q))))))))) : pX11_toStart_2 G d x0 x1 h Q := by
  unfold pX11_toStart_2
  refine rz_iload_n dX11_toStart_2 rfl (show _ = some (some (vi x1)) from rfl) ?_
  refine rz_bipush (v := 19) dX11_toStart_3 (by decide) (by decide) ?_
  refine rz_icmp_ge (tgt := 47) dX11_toStart_5 (by decide) (fun c => ?_) (fun c => ?_)
  · replace hF := ite_t hF c
    exact rz_vret dX11_toStart_47 trivial hF
  · replace hF := ite_f hF c
    refine rz_aload_n dX11_toStart_8 rfl (show _ = some (some (vo x0)) from rfl) ?_
    replace hF := rdO_e hF
    obtain ⟨fs, o1, hg, hv, hF⟩ := hF
    refine rz_getf dX11_toStart_9 fl_X11_38 hg hv ?_
    refine rz_iload_n dX11_toStart_12 rfl (show _ = some (some (vi x1)) from rfl) ?_
    refine rz_iload_n dX11_toStart_13 rfl (show _ = some (some (vi x1)) from rfl) ?_
    refine rz_i2l dX11_toStart_14 ?_
    refine rz_ldc2 (v := 14) dX11_toStart_15 k_1358 (by decide) ?_
    refine rz_ldc2 (v := 17) dX11_toStart_18 k_1359 (by decide) ?_
    refine rz_callS (mc' := 0) (ms' := 0) (mc := 0) (ms := 0) (st := [vi x1, vo o1]) dX11_toStart_21 cS_X11_117 rfl rfl (Nat.le_of_ble_eq_true rfl) hF (fun v h2 hG => ?_)
    clear hF
    revert hG
    intro hF
    replace hF := atI_e hF
    obtain ⟨r3, rfl, hF⟩ := hF
    refine rz_if_eq (tgt := 39) dX11_toStart_24 (by decide) (fun c => ?_) (fun c => ?_)
    · replace hF := ite_t hF c
      refine rz_iconst dX11_toStart_39 rfl (by decide) ?_
      replace hF := stI_e hF
      obtain ⟨xs, hg, h0, h1, hF⟩ := hF
      refine rz_iast dX11_toStart_40 hg h0 h1 ?_
      refine rz_iinc (ls' := [some (vo x0), some (vi (w32 (x1 + 1)))]) dX11_toStart_41 rfl (Nat.le_of_ble_eq_true rfl) rfl ?_
      refine rz_goto (tgt := 2) dX11_toStart_44 (by decide) ?_
      exact hF
    · replace hF := ite_f hF c
      refine rz_aload_n dX11_toStart_27 rfl (show _ = some (some (vo x0)) from rfl) ?_
      replace hF := rdO_e hF
      obtain ⟨fs, o5, hg, hv, hF⟩ := hF
      refine rz_getf dX11_toStart_28 fl_X11_44 hg hv ?_
      refine rz_iload_n dX11_toStart_31 rfl (show _ = some (some (vi x1)) from rfl) ?_
      refine rz_bipush (v := 14) dX11_toStart_32 (by decide) (by decide) ?_
      refine rz_isub dX11_toStart_34 ?_
      replace hF := ldI_e hF
      obtain ⟨xs, hg, h0, h1, hF⟩ := hF
      refine rz_iald dX11_toStart_35 hg h0 h1 ?_
      generalize xs.getD _ 0 = e6 at hF ⊢
      refine rz_goto (tgt := 40) dX11_toStart_36 (by decide) ?_
      replace hF := stI_e hF
      obtain ⟨xs, hg, h0, h1, hF⟩ := hF
      refine rz_iast dX11_toStart_40 hg h0 h1 ?_
      refine rz_iinc (ls' := [some (vo x0), some (vi (w32 (x1 + 1)))]) dX11_toStart_41 rfl (Nat.le_of_ble_eq_true rfl) rfl ?_
      refine rz_goto (tgt := 2) dX11_toStart_44 (by decide) ?_
      exact hF
theorem vX11_toStart {G : az_G} {d : Nat} {x0 : Nat} {h : az_H} {Q : Option az_V → az_H → Prop} (hF : pX11_toStart_2 G d x0 0 h Q) : cz G mX11_toStart (d + 1) 0 0 [vo x0] h Q := by
  refine cz_of (ls := [some (vo x0), none]) (by decide +kernel) (Nat.le_of_ble_eq_true rfl) rfl ?_
  refine rz_iconst dX11_toStart_0 rfl (by decide) ?_
  refine rz_istore_n (ls' := [some (vo x0), some (vi 0)]) dX11_toStart_1 rfl (Nat.le_of_ble_eq_true rfl) rfl ?_
  exact hF
def pX11_push_21 (G : az_G) (d : Nat) (x0 : Nat) (x1 : Int) (s0 : Option Nat) (h : az_H) (Q : Option az_V → az_H → Prop) : Prop := ez G mX11_push (d + 1) 0 0 21 [some (vo x0), some (vl x1), none] [vr s0] h Q
theorem vX11_push_21 {G : az_G} {d : Nat} {x0 : Nat} {x1 : Int} {s0 : Option Nat} {h : az_H} {Q : Option az_V → az_H → Prop} (hF : nnR s0 (fun a1 => wrF h a1 11 33 (.boolean) (vi 1) (fun h2 => rdO h2 x0 11 31 (fun o3 => rdI h2 x0 11 32 (fun f4 => stI h2 o3 .int f4 (w32 x1) (fun h5 => rdI h5 x0 11 32 (fun f6 => wrF h5 x0 11 32 (.int) (vi (w32 (f6 + 1))) (fun h7 => Q none h7)))))))) : pX11_push_21 G d x0 x1 s0 h Q := by
  unfold pX11_push_21
  refine rz_iconst dX11_push_21 rfl (by decide) ?_
  refine rz_goto (tgt := 26) dX11_push_22 (by decide) ?_
  replace hF := nnR_e hF
  obtain ⟨a1, ea1, hF⟩ := hF
  subst ea1
  replace hF := wrF_e hF
  obtain ⟨fs, hg, hv, hF⟩ := hF
  refine rz_putf dX11_push_26 fl_X11_252 (Or.inl rfl) hg hv ?_
  refine rz_aload_n dX11_push_29 rfl (show _ = some (some (vo x0)) from rfl) ?_
  replace hF := rdO_e hF
  obtain ⟨fs, o3, hg, hv, hF⟩ := hF
  refine rz_getf dX11_push_30 fl_X11_56 hg hv ?_
  refine rz_aload_n dX11_push_33 rfl (show _ = some (some (vo x0)) from rfl) ?_
  replace hF := rdI_e hF
  obtain ⟨fs, f4, hg, hv, hF⟩ := hF
  refine rz_getf dX11_push_34 fl_X11_259 hg hv ?_
  refine rz_lload_n dX11_push_37 rfl (show _ = some (some (vl x1)) from rfl) ?_
  refine rz_l2i dX11_push_38 ?_
  replace hF := stI_e hF
  obtain ⟨xs, hg, h0, h1, hF⟩ := hF
  refine rz_iast dX11_push_39 hg h0 h1 ?_
  refine rz_aload_n dX11_push_40 rfl (show _ = some (some (vo x0)) from rfl) ?_
  refine rz_dup dX11_push_41 (by rintro ⟨_, q⟩; cases q) ?_
  replace hF := rdI_e hF
  obtain ⟨fs, f6, hg, hv, hF⟩ := hF
  refine rz_getf dX11_push_42 fl_X11_259 hg hv ?_
  refine rz_iconst dX11_push_45 rfl (by decide) ?_
  refine rz_iadd dX11_push_46 ?_
  replace hF := wrF_e hF
  obtain ⟨fs, hg, hv, hF⟩ := hF
  refine rz_putf dX11_push_47 fl_X11_259 (Or.inl rfl) hg hv ?_
  exact rz_vret dX11_push_50 trivial hF
theorem vX11_push {G : az_G} {d : Nat} {x0 : Nat} {x1 : Int} {h : az_H} {Q : Option az_V → az_H → Prop} (hF : rdI h x0 11 33 (fun f1 => (if f1 = 0 then cz G mX11_in d 0 0 [vl x1, vl ((-1000000000)), vl 1000000000] h (fun v h2 => atI v (fun r3 => (if r3 = 0 then pX11_push_21 G d x0 x1 (some x0) h2 Q else wrF h2 x0 11 33 (.boolean) (vi 0) (fun h4 => rdO h4 x0 11 31 (fun o5 => rdI h4 x0 11 32 (fun f6 => stI h4 o5 .int f6 (w32 x1) (fun h7 => rdI h7 x0 11 32 (fun f8 => wrF h7 x0 11 32 (.int) (vi (w32 (f8 + 1))) (fun h9 => Q none h9))))))))) else pX11_push_21 G d x0 x1 (some x0) h Q))) : cz G mX11_push (d + 1) 0 0 [vo x0, vl x1] h Q := by
  refine cz_of (ls := [some (vo x0), some (vl x1), none]) (by decide +kernel) (Nat.le_of_ble_eq_true rfl) rfl ?_
  refine rz_aload_n dX11_push_0 rfl (show _ = some (some (vo x0)) from rfl) ?_
  refine rz_aload_n dX11_push_1 rfl (show _ = some (some (vo x0)) from rfl) ?_
  replace hF := rdI_e hF
  obtain ⟨fs, f1, hg, hv, hF⟩ := hF
  refine rz_getf dX11_push_2 fl_X11_252 hg hv ?_
  refine rz_if_ne (tgt := 21) dX11_push_5 (by decide) (fun c => ?_) (fun c => ?_)
  · replace hF := ite_f hF c
    exact hF
  · replace hF := ite_t hF c
    refine rz_lload_n dX11_push_8 rfl (show _ = some (some (vl x1)) from rfl) ?_
    refine rz_ldc2 (v := (-1000000000)) dX11_push_9 k_1391 (by decide) ?_
    refine rz_ldc2 (v := 1000000000) dX11_push_12 k_1392 (by decide) ?_
    refine rz_callS (mc' := 0) (ms' := 0) (mc := 0) (ms := 0) (st := [vo x0]) dX11_push_15 cS_X11_117 rfl rfl (Nat.le_of_ble_eq_true rfl) hF (fun v h2 hG => ?_)
    clear hF
    revert hG
    intro hF
    replace hF := atI_e hF
    obtain ⟨r3, rfl, hF⟩ := hF
    refine rz_if_ne (tgt := 25) dX11_push_18 (by decide) (fun c => ?_) (fun c => ?_)
    · replace hF := ite_f hF c
      refine rz_iconst dX11_push_25 rfl (by decide) ?_
      replace hF := wrF_e hF
      obtain ⟨fs, hg, hv, hF⟩ := hF
      refine rz_putf dX11_push_26 fl_X11_252 (Or.inl rfl) hg hv ?_
      refine rz_aload_n dX11_push_29 rfl (show _ = some (some (vo x0)) from rfl) ?_
      replace hF := rdO_e hF
      obtain ⟨fs, o5, hg, hv, hF⟩ := hF
      refine rz_getf dX11_push_30 fl_X11_56 hg hv ?_
      refine rz_aload_n dX11_push_33 rfl (show _ = some (some (vo x0)) from rfl) ?_
      replace hF := rdI_e hF
      obtain ⟨fs, f6, hg, hv, hF⟩ := hF
      refine rz_getf dX11_push_34 fl_X11_259 hg hv ?_
      refine rz_lload_n dX11_push_37 rfl (show _ = some (some (vl x1)) from rfl) ?_
      refine rz_l2i dX11_push_38 ?_
      replace hF := stI_e hF
      obtain ⟨xs, hg, h0, h1, hF⟩ := hF
      refine rz_iast dX11_push_39 hg h0 h1 ?_
      refine rz_aload_n dX11_push_40 rfl (show _ = some (some (vo x0)) from rfl) ?_
      refine rz_dup dX11_push_41 (by rintro ⟨_, q⟩; cases q) ?_
      replace hF := rdI_e hF
      obtain ⟨fs, f8, hg, hv, hF⟩ := hF
      refine rz_getf dX11_push_42 fl_X11_259 hg hv ?_
      refine rz_iconst dX11_push_45 rfl (by decide) ?_
      refine rz_iadd dX11_push_46 ?_
      replace hF := wrF_e hF
      obtain ⟨fs, hg, hv, hF⟩ := hF
      refine rz_putf dX11_push_47 fl_X11_259 (Or.inl rfl) hg hv ?_
      exact rz_vret dX11_push_50 trivial hF
    · replace hF := ite_t hF c
      exact hF
theorem vX11_pop {G : az_G} {d : Nat} {x0 : Nat} {h : az_H} {Q : Option az_V → az_H → Prop} (hF : rdI h x0 11 32 (fun f1 => wrF h x0 11 32 (.int) (vi (w32 (f1 - 1))) (fun h2 => rdO h2 x0 11 31 (fun o3 => rdI h2 x0 11 32 (fun f4 => ldI h2 o3 (.int) f4 (fun e5 => Q (some (vi e5)) h2)))))) : cz G mX11_pop d 0 0 [vo x0] h Q := by
  refine cz_of (ls := [some (vo x0)]) (by decide +kernel) (Nat.le_of_ble_eq_true rfl) rfl ?_
  refine rz_aload_n dX11_pop_0 rfl (show _ = some (some (vo x0)) from rfl) ?_
  refine rz_dup dX11_pop_1 (by rintro ⟨_, q⟩; cases q) ?_
  replace hF := rdI_e hF
  obtain ⟨fs, f1, hg, hv, hF⟩ := hF
  refine rz_getf dX11_pop_2 fl_X11_259 hg hv ?_
  refine rz_iconst dX11_pop_5 rfl (by decide) ?_
  refine rz_isub dX11_pop_6 ?_
  replace hF := wrF_e hF
  obtain ⟨fs, hg, hv, hF⟩ := hF
  refine rz_putf dX11_pop_7 fl_X11_259 (Or.inl rfl) hg hv ?_
  refine rz_aload_n dX11_pop_10 rfl (show _ = some (some (vo x0)) from rfl) ?_
  replace hF := rdO_e hF
  obtain ⟨fs, o3, hg, hv, hF⟩ := hF
  refine rz_getf dX11_pop_11 fl_X11_56 hg hv ?_
  refine rz_aload_n dX11_pop_14 rfl (show _ = some (some (vo x0)) from rfl) ?_
  replace hF := rdI_e hF
  obtain ⟨fs, f4, hg, hv, hF⟩ := hF
  refine rz_getf dX11_pop_15 fl_X11_259 hg hv ?_
  replace hF := ldI_e hF
  obtain ⟨xs, hg, h0, h1, hF⟩ := hF
  refine rz_iald dX11_pop_18 hg h0 h1 ?_
  generalize xs.getD _ 0 = e5 at hF ⊢
  exact rz_iret dX11_pop_19 trivial hF
def pX11_two_97 (G : az_G) (d : Nat) (x0 : Nat) (x2 : Int) (x4 : Int) (s0 : Int) (s1 : Option Nat) (h : az_H) (Q : Option az_V → az_H → Prop) : Prop := ez G mX11_two (d + 1) 0 0 97 [some (vo x0), none, some (vl x2), none, some (vl x4), none] [vi s0, vr s1] h Q
theorem vX11_two_97 {G : az_G} {d : Nat} {x0 : Nat} {x2 : Int} {x4 : Int} {s0 : Int} {s1 : Option Nat} {h : az_H} {Q : Option az_V → az_H → Prop} (hF : nnR s1 (fun a1 => wrF h a1 11 33 (.boolean) (vi s0) (fun h2 => (if x4 = 0 then rcv h2 x0 11 (cz G mX11_push d 0 0 [vo x0, vl 0] h2 (fun v h4 => atV v (Q none h4))) else (x4 ≠ 0 ∧ rcv h2 x0 11 (cz G mX11_push d 0 0 [vo x0, vl (lDiv x2 x4)] h2 (fun v h3 => atV v (Q none h3)))))))) : pX11_two_97 G d x0 x2 x4 s0 s1 h Q := by
  unfold pX11_two_97
  replace hF := nnR_e hF
  obtain ⟨a1, ea1, hF⟩ := hF
  subst ea1
  replace hF := wrF_e hF
  obtain ⟨fs, hg, hv, hF⟩ := hF
  refine rz_putf dX11_two_97 fl_X11_252 (Or.inl rfl) hg hv ?_
  refine rz_aload_n dX11_two_100 rfl (show _ = some (some (vo x0)) from rfl) ?_
  refine rz_lload dX11_two_101 (show _ = some (some (vl x4)) from rfl) ?_
  refine rz_lconst (v := 0) dX11_two_103 (by decide) (by decide) ?_
  refine rz_lcmp dX11_two_104 ?_
  refine rz_if_ne (tgt := 112) dX11_two_105 (by decide) (fun c => ?_) (fun c => ?_)
  · replace hF := ite_f hF (fun q => c (lC_eq.mpr q))
    refine rz_lload_n dX11_two_112 rfl (show _ = some (some (vl x2)) from rfl) ?_
    refine rz_lload dX11_two_113 (show _ = some (some (vl x4)) from rfl) ?_
    obtain ⟨hne, hF⟩ := hF
    refine rz_ldiv dX11_two_115 hne ?_
    replace hF := rcv_e hF
    obtain ⟨fs, hg, hF⟩ := hF
    refine rz_callV (mc' := 0) (ms' := 0) (mc := 0) (ms := 0) (st := []) dX11_two_116 cV_X11_262 rfl hg ⟨_, _, rfl⟩ rfl (Nat.le_of_ble_eq_true rfl) hF (fun v h3 hG => ?_)
    clear hF
    revert hG
    intro hF
    replace hF := atV_e hF
    obtain ⟨rfl, hF⟩ := hF
    refine rz_goto (tgt := 207) dX11_two_119 (by decide) ?_
    exact rz_vret dX11_two_207 trivial hF
  · replace hF := ite_t hF (lC_eq.mp c)
    refine rz_lconst (v := 0) dX11_two_108 (by decide) (by decide) ?_
    refine rz_goto (tgt := 116) dX11_two_109 (by decide) ?_
    replace hF := rcv_e hF
    obtain ⟨fs, hg, hF⟩ := hF
    refine rz_callV (mc' := 0) (ms' := 0) (mc := 0) (ms := 0) (st := []) dX11_two_116 cV_X11_262 rfl hg ⟨_, _, rfl⟩ rfl (Nat.le_of_ble_eq_true rfl) hF (fun v h4 hG => ?_)
    clear hF
    revert hG
    intro hF
    replace hF := atV_e hF
    obtain ⟨rfl, hF⟩ := hF
    refine rz_goto (tgt := 207) dX11_two_119 (by decide) ?_
    exact rz_vret dX11_two_207 trivial hF
theorem vX11_two {G : az_G} {d : Nat} {x0 : Nat} {x1 : Int} {x2 : Int} {x4 : Int} {h : az_H} {Q : Option az_V → az_H → Prop} (hF : (if x1 = 11 then rcv h x0 11 (cz G mX11_push d 0 0 [vo x0, vl (w64 (x2 + x4))] h (fun v h1 => atV v (Q none h1))) else (if x1 = 12 then rcv h x0 11 (cz G mX11_push d 0 0 [vo x0, vl (w64 (x2 - x4))] h (fun v h3 => atV v (Q none h3))) else (if x1 = 13 then (if x2 = 0 then (if x4 = 0 then rcv h x0 11 (cz G mX11_push d 0 0 [vo x0, vl 0] h (fun v h6 => atV v (Q none h6))) else rcv h x0 11 (cz G mX11_push d 0 0 [vo x0, vl 1] h (fun v h7 => atV v (Q none h7)))) else rcv h x0 11 (cz G mX11_push d 0 0 [vo x0, vl 1] h (fun v h5 => atV v (Q none h5)))) else (if x1 = 14 then rcv h x0 11 (cz G mX11_push d 0 0 [vo x0, vl (w64 (x2 * x4))] h (fun v h9 => atV v (Q none h9))) else (if x1 = 15 then rdI h x0 11 33 (fun f11 => (if f11 = 0 then (if x4 = 0 then pX11_two_97 G d x0 x2 x4 1 (some x0) h Q else pX11_two_97 G d x0 x2 x4 0 (some x0) h Q) else pX11_two_97 G d x0 x2 x4 1 (some x0) h Q)) else (if x1 = 16 then (if x2 = 0 then rcv h x0 11 (cz G mX11_push d 0 0 [vo x0, vl 0] h (fun v h13 => atV v (Q none h13))) else (if x4 = 0 then rcv h x0 11 (cz G mX11_push d 0 0 [vo x0, vl 0] h (fun v h14 => atV v (Q none h14))) else rcv h x0 11 (cz G mX11_push d 0 0 [vo x0, vl 1] h (fun v h15 => atV v (Q none h15))))) else (if x1 = 17 then (if x4 ≤ x2 then rcv h x0 11 (cz G mX11_push d 0 0 [vo x0, vl 0] h (fun v h17 => atV v (Q none h17))) else rcv h x0 11 (cz G mX11_push d 0 0 [vo x0, vl 1] h (fun v h18 => atV v (Q none h18)))) else (if x2 = x4 then rcv h x0 11 (cz G mX11_push d 0 0 [vo x0, vl 1] h (fun v h21 => atV v (Q none h21))) else rcv h x0 11 (cz G mX11_push d 0 0 [vo x0, vl 0] h (fun v h20 => atV v (Q none h20)))))))))))) : cz G mX11_two (d + 1) 0 0 [vo x0, vi x1, vl x2, vl x4] h Q := by
  refine cz_of (ls := [some (vo x0), some (vi x1), some (vl x2), none, some (vl x4), none]) (by decide +kernel) (Nat.le_of_ble_eq_true rfl) rfl ?_
  refine rz_iload_n dX11_two_0 rfl (show _ = some (some (vi x1)) from rfl) ?_
  by_cases c2 : x1 = 11
  · replace hF := ite_t hF c2
    refine rz_tsIn (off := 43) (tgt := 44) dX11_two_1 (by omega) (by omega) (by rw [c2]; rfl) (by decide) ?_
    refine rz_aload_n dX11_two_44 rfl (show _ = some (some (vo x0)) from rfl) ?_
    refine rz_lload_n dX11_two_45 rfl (show _ = some (some (vl x2)) from rfl) ?_
    refine rz_lload dX11_two_46 (show _ = some (some (vl x4)) from rfl) ?_
    refine rz_ladd dX11_two_48 ?_
    replace hF := rcv_e hF
    obtain ⟨fs, hg, hF⟩ := hF
    refine rz_callV (mc' := 0) (ms' := 0) (mc := 0) (ms := 0) (st := []) dX11_two_49 cV_X11_262 rfl hg ⟨_, _, rfl⟩ rfl (Nat.le_of_ble_eq_true rfl) hF (fun v h1 hG => ?_)
    clear hF
    revert hG
    intro hF
    replace hF := atV_e hF
    obtain ⟨rfl, hF⟩ := hF
    refine rz_goto (tgt := 207) dX11_two_52 (by decide) ?_
    exact rz_vret dX11_two_207 trivial hF
  · replace hF := ite_f hF c2
    by_cases c4 : x1 = 12
    · replace hF := ite_t hF c4
      refine rz_tsIn (off := 54) (tgt := 55) dX11_two_1 (by omega) (by omega) (by rw [c4]; rfl) (by decide) ?_
      refine rz_aload_n dX11_two_55 rfl (show _ = some (some (vo x0)) from rfl) ?_
      refine rz_lload_n dX11_two_56 rfl (show _ = some (some (vl x2)) from rfl) ?_
      refine rz_lload dX11_two_57 (show _ = some (some (vl x4)) from rfl) ?_
      refine rz_lsub dX11_two_59 ?_
      replace hF := rcv_e hF
      obtain ⟨fs, hg, hF⟩ := hF
      refine rz_callV (mc' := 0) (ms' := 0) (mc := 0) (ms := 0) (st := []) dX11_two_60 cV_X11_262 rfl hg ⟨_, _, rfl⟩ rfl (Nat.le_of_ble_eq_true rfl) hF (fun v h3 hG => ?_)
      clear hF
      revert hG
      intro hF
      replace hF := atV_e hF
      obtain ⟨rfl, hF⟩ := hF
      refine rz_goto (tgt := 207) dX11_two_63 (by decide) ?_
      exact rz_vret dX11_two_207 trivial hF
    · replace hF := ite_f hF c4
      by_cases c8 : x1 = 13
      · replace hF := ite_t hF c8
        refine rz_tsIn (off := 121) (tgt := 122) dX11_two_1 (by omega) (by omega) (by rw [c8]; rfl) (by decide) ?_
        refine rz_aload_n dX11_two_122 rfl (show _ = some (some (vo x0)) from rfl) ?_
        refine rz_lload_n dX11_two_123 rfl (show _ = some (some (vl x2)) from rfl) ?_
        refine rz_lconst (v := 0) dX11_two_124 (by decide) (by decide) ?_
        refine rz_lcmp dX11_two_125 ?_
        refine rz_if_ne (tgt := 136) dX11_two_126 (by decide) (fun c => ?_) (fun c => ?_)
        · replace hF := ite_f hF (fun q => c (lC_eq.mpr q))
          refine rz_lconst (v := 1) dX11_two_136 (by decide) (by decide) ?_
          refine rz_goto (tgt := 141) dX11_two_137 (by decide) ?_
          replace hF := rcv_e hF
          obtain ⟨fs, hg, hF⟩ := hF
          refine rz_callV (mc' := 0) (ms' := 0) (mc := 0) (ms := 0) (st := []) dX11_two_141 cV_X11_262 rfl hg ⟨_, _, rfl⟩ rfl (Nat.le_of_ble_eq_true rfl) hF (fun v h5 hG => ?_)
          clear hF
          revert hG
          intro hF
          replace hF := atV_e hF
          obtain ⟨rfl, hF⟩ := hF
          refine rz_goto (tgt := 207) dX11_two_144 (by decide) ?_
          exact rz_vret dX11_two_207 trivial hF
        · replace hF := ite_t hF (lC_eq.mp c)
          refine rz_lload dX11_two_129 (show _ = some (some (vl x4)) from rfl) ?_
          refine rz_lconst (v := 0) dX11_two_131 (by decide) (by decide) ?_
          refine rz_lcmp dX11_two_132 ?_
          refine rz_if_eq (tgt := 140) dX11_two_133 (by decide) (fun c => ?_) (fun c => ?_)
          · replace hF := ite_t hF (lC_eq.mp c)
            refine rz_lconst (v := 0) dX11_two_140 (by decide) (by decide) ?_
            replace hF := rcv_e hF
            obtain ⟨fs, hg, hF⟩ := hF
            refine rz_callV (mc' := 0) (ms' := 0) (mc := 0) (ms := 0) (st := []) dX11_two_141 cV_X11_262 rfl hg ⟨_, _, rfl⟩ rfl (Nat.le_of_ble_eq_true rfl) hF (fun v h6 hG => ?_)
            clear hF
            revert hG
            intro hF
            replace hF := atV_e hF
            obtain ⟨rfl, hF⟩ := hF
            refine rz_goto (tgt := 207) dX11_two_144 (by decide) ?_
            exact rz_vret dX11_two_207 trivial hF
          · replace hF := ite_f hF (fun q => c (lC_eq.mpr q))
            refine rz_lconst (v := 1) dX11_two_136 (by decide) (by decide) ?_
            refine rz_goto (tgt := 141) dX11_two_137 (by decide) ?_
            replace hF := rcv_e hF
            obtain ⟨fs, hg, hF⟩ := hF
            refine rz_callV (mc' := 0) (ms' := 0) (mc := 0) (ms := 0) (st := []) dX11_two_141 cV_X11_262 rfl hg ⟨_, _, rfl⟩ rfl (Nat.le_of_ble_eq_true rfl) hF (fun v h7 hG => ?_)
            clear hF
            revert hG
            intro hF
            replace hF := atV_e hF
            obtain ⟨rfl, hF⟩ := hF
            refine rz_goto (tgt := 207) dX11_two_144 (by decide) ?_
            exact rz_vret dX11_two_207 trivial hF
      · replace hF := ite_f hF c8
        by_cases c10 : x1 = 14
        · replace hF := ite_t hF c10
          refine rz_tsIn (off := 65) (tgt := 66) dX11_two_1 (by omega) (by omega) (by rw [c10]; rfl) (by decide) ?_
          refine rz_aload_n dX11_two_66 rfl (show _ = some (some (vo x0)) from rfl) ?_
          refine rz_lload_n dX11_two_67 rfl (show _ = some (some (vl x2)) from rfl) ?_
          refine rz_lload dX11_two_68 (show _ = some (some (vl x4)) from rfl) ?_
          refine rz_lmul dX11_two_70 ?_
          replace hF := rcv_e hF
          obtain ⟨fs, hg, hF⟩ := hF
          refine rz_callV (mc' := 0) (ms' := 0) (mc := 0) (ms := 0) (st := []) dX11_two_71 cV_X11_262 rfl hg ⟨_, _, rfl⟩ rfl (Nat.le_of_ble_eq_true rfl) hF (fun v h9 hG => ?_)
          clear hF
          revert hG
          intro hF
          replace hF := atV_e hF
          obtain ⟨rfl, hF⟩ := hF
          refine rz_goto (tgt := 207) dX11_two_74 (by decide) ?_
          exact rz_vret dX11_two_207 trivial hF
        · replace hF := ite_f hF c10
          by_cases c12 : x1 = 15
          · replace hF := ite_t hF c12
            refine rz_tsIn (off := 76) (tgt := 77) dX11_two_1 (by omega) (by omega) (by rw [c12]; rfl) (by decide) ?_
            refine rz_aload_n dX11_two_77 rfl (show _ = some (some (vo x0)) from rfl) ?_
            refine rz_aload_n dX11_two_78 rfl (show _ = some (some (vo x0)) from rfl) ?_
            replace hF := rdI_e hF
            obtain ⟨fs, f11, hg, hv, hF⟩ := hF
            refine rz_getf dX11_two_79 fl_X11_252 hg hv ?_
            refine rz_if_ne (tgt := 92) dX11_two_82 (by decide) (fun c => ?_) (fun c => ?_)
            · replace hF := ite_f hF c
              refine rz_iconst dX11_two_92 rfl (by decide) ?_
              refine rz_goto (tgt := 97) dX11_two_93 (by decide) ?_
              refine ez_kp [true, false, true, false, true, false] rfl ?_
              exact hF
            · replace hF := ite_t hF c
              refine rz_lload dX11_two_85 (show _ = some (some (vl x4)) from rfl) ?_
              refine rz_lconst (v := 0) dX11_two_87 (by decide) (by decide) ?_
              refine rz_lcmp dX11_two_88 ?_
              refine rz_if_ne (tgt := 96) dX11_two_89 (by decide) (fun c => ?_) (fun c => ?_)
              · replace hF := ite_f hF (fun q => c (lC_eq.mpr q))
                refine rz_iconst dX11_two_96 rfl (by decide) ?_
                refine ez_kp [true, false, true, false, true, false] rfl ?_
                exact hF
              · replace hF := ite_t hF (lC_eq.mp c)
                refine rz_iconst dX11_two_92 rfl (by decide) ?_
                refine rz_goto (tgt := 97) dX11_two_93 (by decide) ?_
                refine ez_kp [true, false, true, false, true, false] rfl ?_
                exact hF
          · replace hF := ite_f hF c12
            by_cases c16 : x1 = 16
            · replace hF := ite_t hF c16
              refine rz_tsIn (off := 146) (tgt := 147) dX11_two_1 (by omega) (by omega) (by rw [c16]; rfl) (by decide) ?_
              refine rz_aload_n dX11_two_147 rfl (show _ = some (some (vo x0)) from rfl) ?_
              refine rz_lload_n dX11_two_148 rfl (show _ = some (some (vl x2)) from rfl) ?_
              refine rz_lconst (v := 0) dX11_two_149 (by decide) (by decide) ?_
              refine rz_lcmp dX11_two_150 ?_
              refine rz_if_eq (tgt := 165) dX11_two_151 (by decide) (fun c => ?_) (fun c => ?_)
              · replace hF := ite_t hF (lC_eq.mp c)
                refine rz_lconst (v := 0) dX11_two_165 (by decide) (by decide) ?_
                replace hF := rcv_e hF
                obtain ⟨fs, hg, hF⟩ := hF
                refine rz_callV (mc' := 0) (ms' := 0) (mc := 0) (ms := 0) (st := []) dX11_two_166 cV_X11_262 rfl hg ⟨_, _, rfl⟩ rfl (Nat.le_of_ble_eq_true rfl) hF (fun v h13 hG => ?_)
                clear hF
                revert hG
                intro hF
                replace hF := atV_e hF
                obtain ⟨rfl, hF⟩ := hF
                refine rz_goto (tgt := 207) dX11_two_169 (by decide) ?_
                exact rz_vret dX11_two_207 trivial hF
              · replace hF := ite_f hF (fun q => c (lC_eq.mpr q))
                refine rz_lload dX11_two_154 (show _ = some (some (vl x4)) from rfl) ?_
                refine rz_lconst (v := 0) dX11_two_156 (by decide) (by decide) ?_
                refine rz_lcmp dX11_two_157 ?_
                refine rz_if_eq (tgt := 165) dX11_two_158 (by decide) (fun c => ?_) (fun c => ?_)
                · replace hF := ite_t hF (lC_eq.mp c)
                  refine rz_lconst (v := 0) dX11_two_165 (by decide) (by decide) ?_
                  replace hF := rcv_e hF
                  obtain ⟨fs, hg, hF⟩ := hF
                  refine rz_callV (mc' := 0) (ms' := 0) (mc := 0) (ms := 0) (st := []) dX11_two_166 cV_X11_262 rfl hg ⟨_, _, rfl⟩ rfl (Nat.le_of_ble_eq_true rfl) hF (fun v h14 hG => ?_)
                  clear hF
                  revert hG
                  intro hF
                  replace hF := atV_e hF
                  obtain ⟨rfl, hF⟩ := hF
                  refine rz_goto (tgt := 207) dX11_two_169 (by decide) ?_
                  exact rz_vret dX11_two_207 trivial hF
                · replace hF := ite_f hF (fun q => c (lC_eq.mpr q))
                  refine rz_lconst (v := 1) dX11_two_161 (by decide) (by decide) ?_
                  refine rz_goto (tgt := 166) dX11_two_162 (by decide) ?_
                  replace hF := rcv_e hF
                  obtain ⟨fs, hg, hF⟩ := hF
                  refine rz_callV (mc' := 0) (ms' := 0) (mc := 0) (ms := 0) (st := []) dX11_two_166 cV_X11_262 rfl hg ⟨_, _, rfl⟩ rfl (Nat.le_of_ble_eq_true rfl) hF (fun v h15 hG => ?_)
                  clear hF
                  revert hG
                  intro hF
                  replace hF := atV_e hF
                  obtain ⟨rfl, hF⟩ := hF
                  refine rz_goto (tgt := 207) dX11_two_169 (by decide) ?_
                  exact rz_vret dX11_two_207 trivial hF
            · replace hF := ite_f hF c16
              by_cases c19 : x1 = 17
              · replace hF := ite_t hF c19
                refine rz_tsIn (off := 171) (tgt := 172) dX11_two_1 (by omega) (by omega) (by rw [c19]; rfl) (by decide) ?_
                refine rz_aload_n dX11_two_172 rfl (show _ = some (some (vo x0)) from rfl) ?_
                refine rz_lload_n dX11_two_173 rfl (show _ = some (some (vl x2)) from rfl) ?_
                refine rz_lload dX11_two_174 (show _ = some (some (vl x4)) from rfl) ?_
                refine rz_lcmp dX11_two_176 ?_
                refine rz_if_ge (tgt := 184) dX11_two_177 (by decide) (fun c => ?_) (fun c => ?_)
                · replace hF := ite_t hF (lC_ge.mp c)
                  refine rz_lconst (v := 0) dX11_two_184 (by decide) (by decide) ?_
                  replace hF := rcv_e hF
                  obtain ⟨fs, hg, hF⟩ := hF
                  refine rz_callV (mc' := 0) (ms' := 0) (mc := 0) (ms := 0) (st := []) dX11_two_185 cV_X11_262 rfl hg ⟨_, _, rfl⟩ rfl (Nat.le_of_ble_eq_true rfl) hF (fun v h17 hG => ?_)
                  clear hF
                  revert hG
                  intro hF
                  replace hF := atV_e hF
                  obtain ⟨rfl, hF⟩ := hF
                  refine rz_goto (tgt := 207) dX11_two_188 (by decide) ?_
                  exact rz_vret dX11_two_207 trivial hF
                · replace hF := ite_f hF (fun q => c (lC_ge.mpr q))
                  refine rz_lconst (v := 1) dX11_two_180 (by decide) (by decide) ?_
                  refine rz_goto (tgt := 185) dX11_two_181 (by decide) ?_
                  replace hF := rcv_e hF
                  obtain ⟨fs, hg, hF⟩ := hF
                  refine rz_callV (mc' := 0) (ms' := 0) (mc := 0) (ms := 0) (st := []) dX11_two_185 cV_X11_262 rfl hg ⟨_, _, rfl⟩ rfl (Nat.le_of_ble_eq_true rfl) hF (fun v h18 hG => ?_)
                  clear hF
                  revert hG
                  intro hF
                  replace hF := atV_e hF
                  obtain ⟨rfl, hF⟩ := hF
                  refine rz_goto (tgt := 207) dX11_two_188 (by decide) ?_
                  exact rz_vret dX11_two_207 trivial hF
              · replace hF := ite_f hF c19
                refine rz_tsOut (tgt := 191) dX11_two_1 (by omega) (by decide) ?_
                refine rz_aload_n dX11_two_191 rfl (show _ = some (some (vo x0)) from rfl) ?_
                refine rz_lload_n dX11_two_192 rfl (show _ = some (some (vl x2)) from rfl) ?_
                refine rz_lload dX11_two_193 (show _ = some (some (vl x4)) from rfl) ?_
                refine rz_lcmp dX11_two_195 ?_
                refine rz_if_ne (tgt := 203) dX11_two_196 (by decide) (fun c => ?_) (fun c => ?_)
                · replace hF := ite_f hF (fun q => c (lC_eq.mpr q))
                  refine rz_lconst (v := 0) dX11_two_203 (by decide) (by decide) ?_
                  replace hF := rcv_e hF
                  obtain ⟨fs, hg, hF⟩ := hF
                  refine rz_callV (mc' := 0) (ms' := 0) (mc := 0) (ms := 0) (st := []) dX11_two_204 cV_X11_262 rfl hg ⟨_, _, rfl⟩ rfl (Nat.le_of_ble_eq_true rfl) hF (fun v h20 hG => ?_)
                  clear hF
                  revert hG
                  intro hF
                  replace hF := atV_e hF
                  obtain ⟨rfl, hF⟩ := hF
                  exact rz_vret dX11_two_207 trivial hF
                · replace hF := ite_t hF (lC_eq.mp c)
                  refine rz_lconst (v := 1) dX11_two_199 (by decide) (by decide) ?_
                  refine rz_goto (tgt := 204) dX11_two_200 (by decide) ?_
                  replace hF := rcv_e hF
                  obtain ⟨fs, hg, hF⟩ := hF
                  refine rz_callV (mc' := 0) (ms' := 0) (mc := 0) (ms := 0) (st := []) dX11_two_204 cV_X11_262 rfl hg ⟨_, _, rfl⟩ rfl (Nat.le_of_ble_eq_true rfl) hF (fun v h21 hG => ?_)
                  clear hF
                  revert hG
                  intro hF
                  replace hF := atV_e hF
                  obtain ⟨rfl, hF⟩ := hF
                  exact rz_vret dX11_two_207 trivial hF
