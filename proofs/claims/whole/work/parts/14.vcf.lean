def pX11_reckon_155 (G : az_G) (d : Nat) (x0 : Nat) (x2 : Int) (x6 : Int) (x8 : Int) (h : az_H) (Q : Option az_V → az_H → Prop) : Prop := ez G mX11_reckon (d + 1) 0 0 155 [some (vo x0), none, some (vi x2), none, none, none, some (vl x6), none, some (vi x8), none] [] h Q
theorem vX11_reckon_155 {G : az_G} {d : Nat} {x0 : Nat} {x2 : Int} {x6 : Int} {x8 : Int} {h : az_H} {Q : Option az_V → az_H → Prop} (hF : (if 4 ≤ x8 then rcv h x0 11 (cz G mX11_push d 0 0 [vo x0, vl x6] h (fun v h1 => atV v (Q none h1))) else rdO h x0 11 22 (fun o2 => ldI h o2 (.int) (w32 ((w32 (6 + (w32 (4 * x2)))) + x8)) (fun e3 => pX11_reckon_155 G d x0 x2 (w64 (x6 + e3)) (w32 (x8 + 1)) h Q)))) : pX11_reckon_155 G d x0 x2 x6 x8 h Q := by
  unfold pX11_reckon_155
  refine rz_iload dX11_reckon_155 (show _ = some (some (vi x8)) from rfl) ?_
  refine rz_iconst dX11_reckon_157 rfl (by decide) ?_
  refine rz_icmp_ge (tgt := 187) dX11_reckon_158 (by decide) (fun c => ?_) (fun c => ?_)
  · replace hF := ite_t hF c
    refine rz_aload_n dX11_reckon_187 rfl (show _ = some (some (vo x0)) from rfl) ?_
    refine rz_lload dX11_reckon_188 (show _ = some (some (vl x6)) from rfl) ?_
    replace hF := rcv_e hF
    obtain ⟨fs, hg, hF⟩ := hF
    refine rz_callV (mc' := 0) (ms' := 0) (mc := 0) (ms := 0) (st := []) dX11_reckon_190 cV_X11_262 rfl hg ⟨_, _, rfl⟩ rfl (Nat.le_of_ble_eq_true rfl) hF (fun v h1 hG => ?_)
    clear hF
    revert hG
    intro hF
    replace hF := atV_e hF
    obtain ⟨rfl, hF⟩ := hF
    refine rz_goto (tgt := 264) dX11_reckon_193 (by decide) ?_
    exact rz_vret dX11_reckon_264 trivial hF
  · replace hF := ite_f hF c
    refine rz_lload dX11_reckon_161 (show _ = some (some (vl x6)) from rfl) ?_
    refine rz_aload_n dX11_reckon_163 rfl (show _ = some (some (vo x0)) from rfl) ?_
    replace hF := rdO_e hF
    obtain ⟨fs, o2, hg, hv, hF⟩ := hF
    refine rz_getf dX11_reckon_164 fl_X11_38 hg hv ?_
    refine rz_bipush (v := 6) dX11_reckon_167 (by decide) (by decide) ?_
    refine rz_iconst dX11_reckon_169 rfl (by decide) ?_
    refine rz_iload_n dX11_reckon_170 rfl (show _ = some (some (vi x2)) from rfl) ?_
    refine rz_imul dX11_reckon_171 ?_
    refine rz_iadd dX11_reckon_172 ?_
    refine rz_iload dX11_reckon_173 (show _ = some (some (vi x8)) from rfl) ?_
    refine rz_iadd dX11_reckon_175 ?_
    replace hF := ldI_e hF
    obtain ⟨xs, hg, h0, h1, hF⟩ := hF
    refine rz_iald dX11_reckon_176 hg h0 h1 ?_
    generalize xs.getD _ 0 = e3 at hF ⊢
    refine rz_i2l dX11_reckon_177 ?_
    refine rz_ladd dX11_reckon_178 ?_
    refine rz_lstore (ls' := [some (vo x0), none, some (vi x2), none, none, none, some (vl (w64 (x6 + e3))), none, some (vi x8), none]) dX11_reckon_179 (Nat.le_of_ble_eq_true rfl) rfl ?_
    refine rz_iinc (ls' := [some (vo x0), none, some (vi x2), none, none, none, some (vl (w64 (x6 + e3))), none, some (vi (w32 (x8 + 1))), none]) dX11_reckon_181 rfl (Nat.le_of_ble_eq_true rfl) rfl ?_
    refine rz_goto (tgt := 155) dX11_reckon_184 (by decide) ?_
    exact hF
theorem vX11_reckon {G : az_G} {d : Nat} {x0 : Nat} {x1 : Int} {x2 : Int} {x3 : Int} {x4 : Int} {x5 : Int} {h : az_H} {Q : Option az_V → az_H → Prop} (hF : (if x1 = 1 then rcv h x0 11 (cz G mX11_push d 0 0 [vo x0, vl x2] h (fun v h1 => atV v (Q none h1))) else (if x1 = 2 then rdO h x0 11 22 (fun o3 => (if 6 ≤ x2 then (if x2 = 6 then ldI h o3 (.int) (w32 (6 + x3)) (fun e6 => rcv h x0 11 (cz G mX11_push d 0 0 [vo x0, vl e6] h (fun v h7 => atV v (Q none h7)))) else ldI h o3 (.int) (w32 (10 + x3)) (fun e4 => rcv h x0 11 (cz G mX11_push d 0 0 [vo x0, vl e4] h (fun v h5 => atV v (Q none h5))))) else ldI h o3 (.int) x2 (fun e8 => rcv h x0 11 (cz G mX11_push d 0 0 [vo x0, vl e8] h (fun v h9 => atV v (Q none h9)))))) else (if x1 = 3 then rcv h x0 11 (cz G mX11_push d 0 0 [vo x0, vl x4] h (fun v h11 => atV v (Q none h11))) else (if x1 = 4 then rcv h x0 11 (cz G mX11_push d 0 0 [vo x0, vl x5] h (fun v h13 => atV v (Q none h13))) else (if x1 = 5 then rcv h x0 11 (cz G mX11_push d 0 0 [vo x0, vl x3] h (fun v h15 => atV v (Q none h15))) else (if x1 = 6 then rdO h x0 11 22 (fun o17 => ldI h o17 (.int) 18 (fun e18 => rcv h x0 11 (cz G mX11_push d 0 0 [vo x0, vl e18] h (fun v h19 => atV v (Q none h19))))) else (if x1 = 7 then pX11_reckon_155 G d x0 x2 0 0 h Q else (if x1 = 8 then rdO h x0 11 22 (fun o22 => ldI h o22 (.int) (w32 (14 + x2)) (fun e23 => rcv h x0 11 (cz G mX11_push d 0 0 [vo x0, vl e23] h (fun v h24 => atV v (Q none h24))))) else (if x1 = 9 then rcv h x0 11 (cz G mX11_pop d 0 0 [vo x0] h (fun v h26 => atI v (fun r27 => (if r27 = 0 then rcv h26 x0 11 (cz G mX11_push d 0 0 [vo x0, vl 1] h26 (fun v h29 => atV v (Q none h29))) else rcv h26 x0 11 (cz G mX11_push d 0 0 [vo x0, vl 0] h26 (fun v h28 => atV v (Q none h28))))))) else (if x1 = 10 then rcv h x0 11 (cz G mX11_pop d 0 0 [vo x0] h (fun v h31 => atI v (fun r32 => rcv h31 x0 11 (cz G mX11_push d 0 0 [vo x0, vl (w32 (-r32))] h31 (fun v h33 => atV v (Q none h33)))))) else rcv h x0 11 (cz G mX11_pop d 0 0 [vo x0] h (fun v h35 => atI v (fun r36 => rcv h35 x0 11 (cz G mX11_pop d 0 0 [vo x0] h35 (fun v h37 => atI v (fun r38 => rcv h37 x0 11 (cz G mX11_two d 0 0 [vo x0, vi x1, vl r38, vl r36] h37 (fun v h39 => atV v (Q none h39)))))))))))))))))))) : cz G mX11_reckon (d + 1) 0 0 [vo x0, vi x1, vi x2, vi x3, vi x4, vi x5] h Q := by
  refine cz_of (ls := [some (vo x0), some (vi x1), some (vi x2), some (vi x3), some (vi x4), some (vi x5), none, none, none, none]) (by decide +kernel) (Nat.le_of_ble_eq_true rfl) rfl ?_
  refine rz_iload_n dX11_reckon_0 rfl (show _ = some (some (vi x1)) from rfl) ?_
  by_cases c2 : x1 = 1
  · replace hF := ite_t hF c2
    refine rz_tsIn (off := 55) (tgt := 56) dX11_reckon_1 (by omega) (by omega) (by rw [c2]; rfl) (by decide) ?_
    refine rz_aload_n dX11_reckon_56 rfl (show _ = some (some (vo x0)) from rfl) ?_
    refine rz_iload_n dX11_reckon_57 rfl (show _ = some (some (vi x2)) from rfl) ?_
    refine rz_i2l dX11_reckon_58 ?_
    replace hF := rcv_e hF
    obtain ⟨fs, hg, hF⟩ := hF
    refine rz_callV (mc' := 0) (ms' := 0) (mc := 0) (ms := 0) (st := []) dX11_reckon_59 cV_X11_262 rfl hg ⟨_, _, rfl⟩ rfl (Nat.le_of_ble_eq_true rfl) hF (fun v h1 hG => ?_)
    clear hF
    revert hG
    intro hF
    replace hF := atV_e hF
    obtain ⟨rfl, hF⟩ := hF
    refine rz_goto (tgt := 264) dX11_reckon_62 (by decide) ?_
    exact rz_vret dX11_reckon_264 trivial hF
  · replace hF := ite_f hF c2
    by_cases c10 : x1 = 2
    · replace hF := ite_t hF c10
      refine rz_tsIn (off := 64) (tgt := 65) dX11_reckon_1 (by omega) (by omega) (by rw [c10]; rfl) (by decide) ?_
      refine rz_aload_n dX11_reckon_65 rfl (show _ = some (some (vo x0)) from rfl) ?_
      refine rz_aload_n dX11_reckon_66 rfl (show _ = some (some (vo x0)) from rfl) ?_
      replace hF := rdO_e hF
      obtain ⟨fs, o3, hg, hv, hF⟩ := hF
      refine rz_getf dX11_reckon_67 fl_X11_38 hg hv ?_
      refine rz_iload_n dX11_reckon_70 rfl (show _ = some (some (vi x2)) from rfl) ?_
      refine rz_bipush (v := 6) dX11_reckon_71 (by decide) (by decide) ?_
      refine rz_icmp_ge (tgt := 80) dX11_reckon_73 (by decide) (fun c => ?_) (fun c => ?_)
      · replace hF := ite_t hF c
        refine rz_iload_n dX11_reckon_80 rfl (show _ = some (some (vi x2)) from rfl) ?_
        refine rz_bipush (v := 6) dX11_reckon_81 (by decide) (by decide) ?_
        refine rz_icmp_ne (tgt := 93) dX11_reckon_83 (by decide) (fun c => ?_) (fun c => ?_)
        · replace hF := ite_f hF c
          refine rz_bipush (v := 10) dX11_reckon_93 (by decide) (by decide) ?_
          refine rz_iload_n dX11_reckon_95 rfl (show _ = some (some (vi x3)) from rfl) ?_
          refine rz_iadd dX11_reckon_96 ?_
          replace hF := ldI_e hF
          obtain ⟨xs, hg, h0, h1, hF⟩ := hF
          refine rz_iald dX11_reckon_97 hg h0 h1 ?_
          generalize xs.getD _ 0 = e4 at hF ⊢
          refine rz_i2l dX11_reckon_98 ?_
          replace hF := rcv_e hF
          obtain ⟨fs, hg, hF⟩ := hF
          refine rz_callV (mc' := 0) (ms' := 0) (mc := 0) (ms := 0) (st := []) dX11_reckon_99 cV_X11_262 rfl hg ⟨_, _, rfl⟩ rfl (Nat.le_of_ble_eq_true rfl) hF (fun v h5 hG => ?_)
          clear hF
          revert hG
          intro hF
          replace hF := atV_e hF
          obtain ⟨rfl, hF⟩ := hF
          refine rz_goto (tgt := 264) dX11_reckon_102 (by decide) ?_
          exact rz_vret dX11_reckon_264 trivial hF
        · replace hF := ite_t hF c
          refine rz_bipush (v := 6) dX11_reckon_86 (by decide) (by decide) ?_
          refine rz_iload_n dX11_reckon_88 rfl (show _ = some (some (vi x3)) from rfl) ?_
          refine rz_iadd dX11_reckon_89 ?_
          refine rz_goto (tgt := 97) dX11_reckon_90 (by decide) ?_
          replace hF := ldI_e hF
          obtain ⟨xs, hg, h0, h1, hF⟩ := hF
          refine rz_iald dX11_reckon_97 hg h0 h1 ?_
          generalize xs.getD _ 0 = e6 at hF ⊢
          refine rz_i2l dX11_reckon_98 ?_
          replace hF := rcv_e hF
          obtain ⟨fs, hg, hF⟩ := hF
          refine rz_callV (mc' := 0) (ms' := 0) (mc := 0) (ms := 0) (st := []) dX11_reckon_99 cV_X11_262 rfl hg ⟨_, _, rfl⟩ rfl (Nat.le_of_ble_eq_true rfl) hF (fun v h7 hG => ?_)
          clear hF
          revert hG
          intro hF
          replace hF := atV_e hF
          obtain ⟨rfl, hF⟩ := hF
          refine rz_goto (tgt := 264) dX11_reckon_102 (by decide) ?_
          exact rz_vret dX11_reckon_264 trivial hF
      · replace hF := ite_f hF c
        refine rz_iload_n dX11_reckon_76 rfl (show _ = some (some (vi x2)) from rfl) ?_
        refine rz_goto (tgt := 97) dX11_reckon_77 (by decide) ?_
        replace hF := ldI_e hF
        obtain ⟨xs, hg, h0, h1, hF⟩ := hF
        refine rz_iald dX11_reckon_97 hg h0 h1 ?_
        generalize xs.getD _ 0 = e8 at hF ⊢
        refine rz_i2l dX11_reckon_98 ?_
        replace hF := rcv_e hF
        obtain ⟨fs, hg, hF⟩ := hF
        refine rz_callV (mc' := 0) (ms' := 0) (mc := 0) (ms := 0) (st := []) dX11_reckon_99 cV_X11_262 rfl hg ⟨_, _, rfl⟩ rfl (Nat.le_of_ble_eq_true rfl) hF (fun v h9 hG => ?_)
        clear hF
        revert hG
        intro hF
        replace hF := atV_e hF
        obtain ⟨rfl, hF⟩ := hF
        refine rz_goto (tgt := 264) dX11_reckon_102 (by decide) ?_
        exact rz_vret dX11_reckon_264 trivial hF
    · replace hF := ite_f hF c10
      by_cases c12 : x1 = 3
      · replace hF := ite_t hF c12
        refine rz_tsIn (off := 104) (tgt := 105) dX11_reckon_1 (by omega) (by omega) (by rw [c12]; rfl) (by decide) ?_
        refine rz_aload_n dX11_reckon_105 rfl (show _ = some (some (vo x0)) from rfl) ?_
        refine rz_iload dX11_reckon_106 (show _ = some (some (vi x4)) from rfl) ?_
        refine rz_i2l dX11_reckon_108 ?_
        replace hF := rcv_e hF
        obtain ⟨fs, hg, hF⟩ := hF
        refine rz_callV (mc' := 0) (ms' := 0) (mc := 0) (ms := 0) (st := []) dX11_reckon_109 cV_X11_262 rfl hg ⟨_, _, rfl⟩ rfl (Nat.le_of_ble_eq_true rfl) hF (fun v h11 hG => ?_)
        clear hF
        revert hG
        intro hF
        replace hF := atV_e hF
        obtain ⟨rfl, hF⟩ := hF
        refine rz_goto (tgt := 264) dX11_reckon_112 (by decide) ?_
        exact rz_vret dX11_reckon_264 trivial hF
      · replace hF := ite_f hF c12
        by_cases c14 : x1 = 4
        · replace hF := ite_t hF c14
          refine rz_tsIn (off := 114) (tgt := 115) dX11_reckon_1 (by omega) (by omega) (by rw [c14]; rfl) (by decide) ?_
          refine rz_aload_n dX11_reckon_115 rfl (show _ = some (some (vo x0)) from rfl) ?_
          refine rz_iload dX11_reckon_116 (show _ = some (some (vi x5)) from rfl) ?_
          refine rz_i2l dX11_reckon_118 ?_
          replace hF := rcv_e hF
          obtain ⟨fs, hg, hF⟩ := hF
          refine rz_callV (mc' := 0) (ms' := 0) (mc := 0) (ms := 0) (st := []) dX11_reckon_119 cV_X11_262 rfl hg ⟨_, _, rfl⟩ rfl (Nat.le_of_ble_eq_true rfl) hF (fun v h13 hG => ?_)
          clear hF
          revert hG
          intro hF
          replace hF := atV_e hF
          obtain ⟨rfl, hF⟩ := hF
          refine rz_goto (tgt := 264) dX11_reckon_122 (by decide) ?_
          exact rz_vret dX11_reckon_264 trivial hF
        · replace hF := ite_f hF c14
          by_cases c16 : x1 = 5
          · replace hF := ite_t hF c16
            refine rz_tsIn (off := 124) (tgt := 125) dX11_reckon_1 (by omega) (by omega) (by rw [c16]; rfl) (by decide) ?_
            refine rz_aload_n dX11_reckon_125 rfl (show _ = some (some (vo x0)) from rfl) ?_
            refine rz_iload_n dX11_reckon_126 rfl (show _ = some (some (vi x3)) from rfl) ?_
            refine rz_i2l dX11_reckon_127 ?_
            replace hF := rcv_e hF
            obtain ⟨fs, hg, hF⟩ := hF
            refine rz_callV (mc' := 0) (ms' := 0) (mc := 0) (ms := 0) (st := []) dX11_reckon_128 cV_X11_262 rfl hg ⟨_, _, rfl⟩ rfl (Nat.le_of_ble_eq_true rfl) hF (fun v h15 hG => ?_)
            clear hF
            revert hG
            intro hF
            replace hF := atV_e hF
            obtain ⟨rfl, hF⟩ := hF
            refine rz_goto (tgt := 264) dX11_reckon_131 (by decide) ?_
            exact rz_vret dX11_reckon_264 trivial hF
          · replace hF := ite_f hF c16
            by_cases c20 : x1 = 6
            · replace hF := ite_t hF c20
              refine rz_tsIn (off := 133) (tgt := 134) dX11_reckon_1 (by omega) (by omega) (by rw [c20]; rfl) (by decide) ?_
              refine rz_aload_n dX11_reckon_134 rfl (show _ = some (some (vo x0)) from rfl) ?_
              refine rz_aload_n dX11_reckon_135 rfl (show _ = some (some (vo x0)) from rfl) ?_
              replace hF := rdO_e hF
              obtain ⟨fs, o17, hg, hv, hF⟩ := hF
              refine rz_getf dX11_reckon_136 fl_X11_38 hg hv ?_
              refine rz_bipush (v := 18) dX11_reckon_139 (by decide) (by decide) ?_
              replace hF := ldI_e hF
              obtain ⟨xs, hg, h0, h1, hF⟩ := hF
              refine rz_iald dX11_reckon_141 hg h0 h1 ?_
              generalize xs.getD _ 0 = e18 at hF ⊢
              refine rz_i2l dX11_reckon_142 ?_
              replace hF := rcv_e hF
              obtain ⟨fs, hg, hF⟩ := hF
              refine rz_callV (mc' := 0) (ms' := 0) (mc := 0) (ms := 0) (st := []) dX11_reckon_143 cV_X11_262 rfl hg ⟨_, _, rfl⟩ rfl (Nat.le_of_ble_eq_true rfl) hF (fun v h19 hG => ?_)
              clear hF
              revert hG
              intro hF
              replace hF := atV_e hF
              obtain ⟨rfl, hF⟩ := hF
              refine rz_goto (tgt := 264) dX11_reckon_146 (by decide) ?_
              exact rz_vret dX11_reckon_264 trivial hF
            · replace hF := ite_f hF c20
              by_cases c21 : x1 = 7
              · replace hF := ite_t hF c21
                refine rz_tsIn (off := 148) (tgt := 149) dX11_reckon_1 (by omega) (by omega) (by rw [c21]; rfl) (by decide) ?_
                refine rz_lconst (v := 0) dX11_reckon_149 (by decide) (by decide) ?_
                refine rz_lstore (ls' := [some (vo x0), some (vi x1), some (vi x2), some (vi x3), some (vi x4), some (vi x5), some (vl 0), none, none, none]) dX11_reckon_150 (Nat.le_of_ble_eq_true rfl) rfl ?_
                refine rz_iconst dX11_reckon_152 rfl (by decide) ?_
                refine rz_istore (ls' := [some (vo x0), some (vi x1), some (vi x2), some (vi x3), some (vi x4), some (vi x5), some (vl 0), none, some (vi 0), none]) dX11_reckon_153 (Nat.le_of_ble_eq_true rfl) rfl ?_
                refine ez_kp [true, false, true, false, false, false, true, false, true, false] rfl ?_
                exact hF
              · replace hF := ite_f hF c21
                by_cases c25 : x1 = 8
                · replace hF := ite_t hF c25
                  refine rz_tsIn (off := 195) (tgt := 196) dX11_reckon_1 (by omega) (by omega) (by rw [c25]; rfl) (by decide) ?_
                  refine rz_aload_n dX11_reckon_196 rfl (show _ = some (some (vo x0)) from rfl) ?_
                  refine rz_aload_n dX11_reckon_197 rfl (show _ = some (some (vo x0)) from rfl) ?_
                  replace hF := rdO_e hF
                  obtain ⟨fs, o22, hg, hv, hF⟩ := hF
                  refine rz_getf dX11_reckon_198 fl_X11_38 hg hv ?_
                  refine rz_bipush (v := 14) dX11_reckon_201 (by decide) (by decide) ?_
                  refine rz_iload_n dX11_reckon_203 rfl (show _ = some (some (vi x2)) from rfl) ?_
                  refine rz_iadd dX11_reckon_204 ?_
                  replace hF := ldI_e hF
                  obtain ⟨xs, hg, h0, h1, hF⟩ := hF
                  refine rz_iald dX11_reckon_205 hg h0 h1 ?_
                  generalize xs.getD _ 0 = e23 at hF ⊢
                  refine rz_i2l dX11_reckon_206 ?_
                  replace hF := rcv_e hF
                  obtain ⟨fs, hg, hF⟩ := hF
                  refine rz_callV (mc' := 0) (ms' := 0) (mc := 0) (ms := 0) (st := []) dX11_reckon_207 cV_X11_262 rfl hg ⟨_, _, rfl⟩ rfl (Nat.le_of_ble_eq_true rfl) hF (fun v h24 hG => ?_)
                  clear hF
                  revert hG
                  intro hF
                  replace hF := atV_e hF
                  obtain ⟨rfl, hF⟩ := hF
                  refine rz_goto (tgt := 264) dX11_reckon_210 (by decide) ?_
                  exact rz_vret dX11_reckon_264 trivial hF
                · replace hF := ite_f hF c25
                  by_cases c30 : x1 = 9
                  · replace hF := ite_t hF c30
                    refine rz_tsIn (off := 212) (tgt := 213) dX11_reckon_1 (by omega) (by omega) (by rw [c30]; rfl) (by decide) ?_
                    refine rz_aload_n dX11_reckon_213 rfl (show _ = some (some (vo x0)) from rfl) ?_
                    refine rz_aload_n dX11_reckon_214 rfl (show _ = some (some (vo x0)) from rfl) ?_
                    replace hF := rcv_e hF
                    obtain ⟨fs, hg, hF⟩ := hF
                    refine rz_callV (mc' := 0) (ms' := 0) (mc := 0) (ms := 0) (st := [vo x0]) dX11_reckon_215 cV_X11_266 rfl hg ⟨_, _, rfl⟩ rfl (Nat.le_of_ble_eq_true rfl) hF (fun v h26 hG => ?_)
                    clear hF
                    revert hG
                    intro hF
                    replace hF := atI_e hF
                    obtain ⟨r27, rfl, hF⟩ := hF
                    refine rz_if_ne (tgt := 225) dX11_reckon_218 (by decide) (fun c => ?_) (fun c => ?_)
                    · replace hF := ite_f hF c
                      refine rz_lconst (v := 0) dX11_reckon_225 (by decide) (by decide) ?_
                      replace hF := rcv_e hF
                      obtain ⟨fs, hg, hF⟩ := hF
                      refine rz_callV (mc' := 0) (ms' := 0) (mc := 0) (ms := 0) (st := []) dX11_reckon_226 cV_X11_262 rfl hg ⟨_, _, rfl⟩ rfl (Nat.le_of_ble_eq_true rfl) hF (fun v h28 hG => ?_)
                      clear hF
                      revert hG
                      intro hF
                      replace hF := atV_e hF
                      obtain ⟨rfl, hF⟩ := hF
                      refine rz_goto (tgt := 264) dX11_reckon_229 (by decide) ?_
                      exact rz_vret dX11_reckon_264 trivial hF
                    · replace hF := ite_t hF c
                      refine rz_lconst (v := 1) dX11_reckon_221 (by decide) (by decide) ?_
                      refine rz_goto (tgt := 226) dX11_reckon_222 (by decide) ?_
                      replace hF := rcv_e hF
                      obtain ⟨fs, hg, hF⟩ := hF
                      refine rz_callV (mc' := 0) (ms' := 0) (mc := 0) (ms := 0) (st := []) dX11_reckon_226 cV_X11_262 rfl hg ⟨_, _, rfl⟩ rfl (Nat.le_of_ble_eq_true rfl) hF (fun v h29 hG => ?_)
                      clear hF
                      revert hG
                      intro hF
                      replace hF := atV_e hF
                      obtain ⟨rfl, hF⟩ := hF
                      refine rz_goto (tgt := 264) dX11_reckon_229 (by decide) ?_
                      exact rz_vret dX11_reckon_264 trivial hF
                  · replace hF := ite_f hF c30
                    by_cases c34 : x1 = 10
                    · replace hF := ite_t hF c34
                      refine rz_tsIn (off := 231) (tgt := 232) dX11_reckon_1 (by omega) (by omega) (by rw [c34]; rfl) (by decide) ?_
                      refine rz_aload_n dX11_reckon_232 rfl (show _ = some (some (vo x0)) from rfl) ?_
                      refine rz_aload_n dX11_reckon_233 rfl (show _ = some (some (vo x0)) from rfl) ?_
                      replace hF := rcv_e hF
                      obtain ⟨fs, hg, hF⟩ := hF
                      refine rz_callV (mc' := 0) (ms' := 0) (mc := 0) (ms := 0) (st := [vo x0]) dX11_reckon_234 cV_X11_266 rfl hg ⟨_, _, rfl⟩ rfl (Nat.le_of_ble_eq_true rfl) hF (fun v h31 hG => ?_)
                      clear hF
                      revert hG
                      intro hF
                      replace hF := atI_e hF
                      obtain ⟨r32, rfl, hF⟩ := hF
                      refine rz_ineg dX11_reckon_237 ?_
                      refine rz_i2l dX11_reckon_238 ?_
                      replace hF := rcv_e hF
                      obtain ⟨fs, hg, hF⟩ := hF
                      refine rz_callV (mc' := 0) (ms' := 0) (mc := 0) (ms := 0) (st := []) dX11_reckon_239 cV_X11_262 rfl hg ⟨_, _, rfl⟩ rfl (Nat.le_of_ble_eq_true rfl) hF (fun v h33 hG => ?_)
                      clear hF
                      revert hG
                      intro hF
                      replace hF := atV_e hF
                      obtain ⟨rfl, hF⟩ := hF
                      refine rz_goto (tgt := 264) dX11_reckon_242 (by decide) ?_
                      exact rz_vret dX11_reckon_264 trivial hF
                    · replace hF := ite_f hF c34
                      refine rz_tsOut (tgt := 245) dX11_reckon_1 (by omega) (by decide) ?_
                      refine rz_aload_n dX11_reckon_245 rfl (show _ = some (some (vo x0)) from rfl) ?_
                      replace hF := rcv_e hF
                      obtain ⟨fs, hg, hF⟩ := hF
                      refine rz_callV (mc' := 0) (ms' := 0) (mc := 0) (ms := 0) (st := []) dX11_reckon_246 cV_X11_266 rfl hg ⟨_, _, rfl⟩ rfl (Nat.le_of_ble_eq_true rfl) hF (fun v h35 hG => ?_)
                      clear hF
                      revert hG
                      intro hF
                      replace hF := atI_e hF
                      obtain ⟨r36, rfl, hF⟩ := hF
                      refine rz_i2l dX11_reckon_249 ?_
                      refine rz_lstore (ls' := [some (vo x0), some (vi x1), some (vi x2), some (vi x3), some (vi x4), some (vi x5), none, none, some (vl r36), none]) dX11_reckon_250 (Nat.le_of_ble_eq_true rfl) rfl ?_
                      refine rz_aload_n dX11_reckon_252 rfl (show _ = some (some (vo x0)) from rfl) ?_
                      refine rz_iload_n dX11_reckon_253 rfl (show _ = some (some (vi x1)) from rfl) ?_
                      refine rz_aload_n dX11_reckon_254 rfl (show _ = some (some (vo x0)) from rfl) ?_
                      replace hF := rcv_e hF
                      obtain ⟨fs, hg, hF⟩ := hF
                      refine rz_callV (mc' := 0) (ms' := 0) (mc := 0) (ms := 0) (st := [vi x1, vo x0]) dX11_reckon_255 cV_X11_266 rfl hg ⟨_, _, rfl⟩ rfl (Nat.le_of_ble_eq_true rfl) hF (fun v h37 hG => ?_)
                      clear hF
                      revert hG
                      intro hF
                      replace hF := atI_e hF
                      obtain ⟨r38, rfl, hF⟩ := hF
                      refine rz_i2l dX11_reckon_258 ?_
                      refine rz_lload dX11_reckon_259 (show _ = some (some (vl r36)) from rfl) ?_
                      replace hF := rcv_e hF
                      obtain ⟨fs, hg, hF⟩ := hF
                      refine rz_callV (mc' := 0) (ms' := 0) (mc := 0) (ms := 0) (st := []) dX11_reckon_261 cV_X11_269 rfl hg ⟨_, _, rfl⟩ rfl (Nat.le_of_ble_eq_true rfl) hF (fun v h39 hG => ?_)
                      clear hF
                      revert hG
                      intro hF
                      replace hF := atV_e hF
                      obtain ⟨rfl, hF⟩ := hF
                      exact rz_vret dX11_reckon_264 trivial hF
theorem vX11_enter {G : az_G} {d : Nat} {x0 : Nat} {x1 : Int} {x2 : Int} {x3 : Int} {x4 : Int} {h : az_H} {Q : Option az_V → az_H → Prop} (hF : rdO h x0 11 12 (fun o1 => ldI h o1 (.boolean) x2 (fun e2 => (if e2 = 0 then Q (some (vi 0)) h else rdO h x0 11 22 (fun o3 => ldI h o3 (.int) (w32 (14 + x1)) (fun e4 => (if x4 ≤ e4 then rdI h x0 11 34 (fun f5 => rdO h x0 11 39 (fun o6 => rcv h x0 11 (cz G mX11_save d 0 0 [vo x0, vo o6, vi f5] h (fun v h7 => atV v (rdI h7 x0 11 34 (fun f8 => wrF h7 x0 11 34 (.int) (vi (w32 (f8 + 1))) (fun h9 => rdO h9 x0 11 35 (fun o10 => stI h9 o10 .int f5 0 (fun h11 => rdO h11 x0 11 36 (fun o12 => stI h11 o12 .int f5 x2 (fun h13 => rdO h13 x0 11 37 (fun o14 => stI h13 o14 .int f5 x3 (fun h15 => rdO h15 x0 11 38 (fun o16 => stI h15 o16 .int f5 x4 (fun h17 => rdO h17 x0 11 22 (fun o18 => ldI h17 o18 (.int) (w32 (14 + x1)) (fun e19 => stI h17 o18 .int (w32 (14 + x1)) (w32 (e19 - x4)) (fun h20 => rdO h20 x0 11 22 (fun o21 => ldI h20 o21 (.int) 18 (fun e22 => stI h20 o21 .int 18 (w32 (e22 + x4)) (fun h23 => Q (some (vi 1)) h23))))))))))))))))))))) else Q (some (vi 0)) h))))))) : cz G mX11_enter (d + 1) 0 0 [vo x0, vi x1, vi x2, vi x3, vi x4] h Q := by
  refine cz_of (ls := [some (vo x0), some (vi x1), some (vi x2), some (vi x3), some (vi x4), none]) (by decide +kernel) (Nat.le_of_ble_eq_true rfl) rfl ?_
  refine rz_aload_n dX11_enter_0 rfl (show _ = some (some (vo x0)) from rfl) ?_
  replace hF := rdO_e hF
  obtain ⟨fs, o1, hg, hv, hF⟩ := hF
  refine rz_getf dX11_enter_1 fl_X11_28 hg hv ?_
  refine rz_iload_n dX11_enter_4 rfl (show _ = some (some (vi x2)) from rfl) ?_
  replace hF := ldI_e hF
  obtain ⟨xs, hg, h0, h1, hF⟩ := hF
  refine rz_zald dX11_enter_5 hg h0 h1 ?_
  generalize xs.getD _ 0 = e2 at hF ⊢
  refine rz_if_eq (tgt := 23) dX11_enter_6 (by decide) (fun c => ?_) (fun c => ?_)
  · replace hF := ite_t hF c
    refine rz_iconst dX11_enter_23 rfl (by decide) ?_
    exact rz_iret dX11_enter_24 (Or.inl rfl) hF
  · replace hF := ite_f hF c
    refine rz_aload_n dX11_enter_9 rfl (show _ = some (some (vo x0)) from rfl) ?_
    replace hF := rdO_e hF
    obtain ⟨fs, o3, hg, hv, hF⟩ := hF
    refine rz_getf dX11_enter_10 fl_X11_38 hg hv ?_
    refine rz_bipush (v := 14) dX11_enter_13 (by decide) (by decide) ?_
    refine rz_iload_n dX11_enter_15 rfl (show _ = some (some (vi x1)) from rfl) ?_
    refine rz_iadd dX11_enter_16 ?_
    replace hF := ldI_e hF
    obtain ⟨xs, hg, h0, h1, hF⟩ := hF
    refine rz_iald dX11_enter_17 hg h0 h1 ?_
    generalize xs.getD _ 0 = e4 at hF ⊢
    refine rz_iload dX11_enter_18 (show _ = some (some (vi x4)) from rfl) ?_
    refine rz_icmp_ge (tgt := 25) dX11_enter_20 (by decide) (fun c => ?_) (fun c => ?_)
    · replace hF := ite_t hF c
      refine rz_aload_n dX11_enter_25 rfl (show _ = some (some (vo x0)) from rfl) ?_
      replace hF := rdI_e hF
      obtain ⟨fs, f5, hg, hv, hF⟩ := hF
      refine rz_getf dX11_enter_26 fl_X11_273 hg hv ?_
      refine rz_istore (ls' := [some (vo x0), some (vi x1), some (vi x2), some (vi x3), some (vi x4), some (vi f5)]) dX11_enter_29 (Nat.le_of_ble_eq_true rfl) rfl ?_
      refine rz_aload_n dX11_enter_31 rfl (show _ = some (some (vo x0)) from rfl) ?_
      refine rz_aload_n dX11_enter_32 rfl (show _ = some (some (vo x0)) from rfl) ?_
      replace hF := rdO_e hF
      obtain ⟨fs, o6, hg, hv, hF⟩ := hF
      refine rz_getf dX11_enter_33 fl_X11_71 hg hv ?_
      refine rz_iload dX11_enter_36 (show _ = some (some (vi f5)) from rfl) ?_
      replace hF := rcv_e hF
      obtain ⟨fs, hg, hF⟩ := hF
      refine rz_callV (mc' := 0) (ms' := 0) (mc := 0) (ms := 0) (st := []) dX11_enter_38 cV_X11_276 rfl hg ⟨_, _, rfl⟩ rfl (Nat.le_of_ble_eq_true rfl) hF (fun v h7 hG => ?_)
      clear hF
      revert hG
      intro hF
      replace hF := atV_e hF
      obtain ⟨rfl, hF⟩ := hF
      refine rz_aload_n dX11_enter_41 rfl (show _ = some (some (vo x0)) from rfl) ?_
      refine rz_dup dX11_enter_42 (by rintro ⟨_, q⟩; cases q) ?_
      replace hF := rdI_e hF
      obtain ⟨fs, f8, hg, hv, hF⟩ := hF
      refine rz_getf dX11_enter_43 fl_X11_273 hg hv ?_
      refine rz_iconst dX11_enter_46 rfl (by decide) ?_
      refine rz_iadd dX11_enter_47 ?_
      replace hF := wrF_e hF
      obtain ⟨fs, hg, hv, hF⟩ := hF
      refine rz_putf dX11_enter_48 fl_X11_273 (Or.inl rfl) hg hv ?_
      refine rz_aload_n dX11_enter_51 rfl (show _ = some (some (vo x0)) from rfl) ?_
      replace hF := rdO_e hF
      obtain ⟨fs, o10, hg, hv, hF⟩ := hF
      refine rz_getf dX11_enter_52 fl_X11_59 hg hv ?_
      refine rz_iload dX11_enter_55 (show _ = some (some (vi f5)) from rfl) ?_
      refine rz_iconst dX11_enter_57 rfl (by decide) ?_
      replace hF := stI_e hF
      obtain ⟨xs, hg, h0, h1, hF⟩ := hF
      refine rz_iast dX11_enter_58 hg h0 h1 ?_
      refine rz_aload_n dX11_enter_59 rfl (show _ = some (some (vo x0)) from rfl) ?_
      replace hF := rdO_e hF
      obtain ⟨fs, o12, hg, hv, hF⟩ := hF
      refine rz_getf dX11_enter_60 fl_X11_62 hg hv ?_
      refine rz_iload dX11_enter_63 (show _ = some (some (vi f5)) from rfl) ?_
      refine rz_iload_n dX11_enter_65 rfl (show _ = some (some (vi x2)) from rfl) ?_
      replace hF := stI_e hF
      obtain ⟨xs, hg, h0, h1, hF⟩ := hF
      refine rz_iast dX11_enter_66 hg h0 h1 ?_
      refine rz_aload_n dX11_enter_67 rfl (show _ = some (some (vo x0)) from rfl) ?_
      replace hF := rdO_e hF
      obtain ⟨fs, o14, hg, hv, hF⟩ := hF
      refine rz_getf dX11_enter_68 fl_X11_65 hg hv ?_
      refine rz_iload dX11_enter_71 (show _ = some (some (vi f5)) from rfl) ?_
      refine rz_iload_n dX11_enter_73 rfl (show _ = some (some (vi x3)) from rfl) ?_
      replace hF := stI_e hF
      obtain ⟨xs, hg, h0, h1, hF⟩ := hF
      refine rz_iast dX11_enter_74 hg h0 h1 ?_
      refine rz_aload_n dX11_enter_75 rfl (show _ = some (some (vo x0)) from rfl) ?_
      replace hF := rdO_e hF
      obtain ⟨fs, o16, hg, hv, hF⟩ := hF
      refine rz_getf dX11_enter_76 fl_X11_68 hg hv ?_
      refine rz_iload dX11_enter_79 (show _ = some (some (vi f5)) from rfl) ?_
      refine rz_iload dX11_enter_81 (show _ = some (some (vi x4)) from rfl) ?_
      replace hF := stI_e hF
      obtain ⟨xs, hg, h0, h1, hF⟩ := hF
      refine rz_iast dX11_enter_83 hg h0 h1 ?_
      refine rz_aload_n dX11_enter_84 rfl (show _ = some (some (vo x0)) from rfl) ?_
      replace hF := rdO_e hF
      obtain ⟨fs, o18, hg, hv, hF⟩ := hF
      refine rz_getf dX11_enter_85 fl_X11_38 hg hv ?_
      refine rz_bipush (v := 14) dX11_enter_88 (by decide) (by decide) ?_
      refine rz_iload_n dX11_enter_90 rfl (show _ = some (some (vi x1)) from rfl) ?_
      refine rz_iadd dX11_enter_91 ?_
      refine rz_dup2_11 dX11_enter_92 (by rintro ⟨_, q⟩; cases q) (by rintro ⟨_, q⟩; cases q) ?_
      replace hF := ldI_e hF
      obtain ⟨xs, hg, h0, h1, hF⟩ := hF
      refine rz_iald dX11_enter_93 hg h0 h1 ?_
      generalize xs.getD _ 0 = e19 at hF ⊢
      refine rz_iload dX11_enter_94 (show _ = some (some (vi x4)) from rfl) ?_
      refine rz_isub dX11_enter_96 ?_
      replace hF := stI_e hF
      obtain ⟨xs, hg, h0, h1, hF⟩ := hF
      refine rz_iast dX11_enter_97 hg h0 h1 ?_
      refine rz_aload_n dX11_enter_98 rfl (show _ = some (some (vo x0)) from rfl) ?_
      replace hF := rdO_e hF
      obtain ⟨fs, o21, hg, hv, hF⟩ := hF
      refine rz_getf dX11_enter_99 fl_X11_38 hg hv ?_
      refine rz_bipush (v := 18) dX11_enter_102 (by decide) (by decide) ?_
      refine rz_dup2_11 dX11_enter_104 (by rintro ⟨_, q⟩; cases q) (by rintro ⟨_, q⟩; cases q) ?_
      replace hF := ldI_e hF
      obtain ⟨xs, hg, h0, h1, hF⟩ := hF
      refine rz_iald dX11_enter_105 hg h0 h1 ?_
      generalize xs.getD _ 0 = e22 at hF ⊢
      refine rz_iload dX11_enter_106 (show _ = some (some (vi x4)) from rfl) ?_
      refine rz_iadd dX11_enter_108 ?_
      replace hF := stI_e hF
      obtain ⟨xs, hg, h0, h1, hF⟩ := hF
      refine rz_iast dX11_enter_109 hg h0 h1 ?_
      refine rz_iconst dX11_enter_110 rfl (by decide) ?_
      exact rz_iret dX11_enter_111 (Or.inr rfl) hF
    · replace hF := ite_f hF c
      refine rz_iconst dX11_enter_23 rfl (by decide) ?_
      exact rz_iret dX11_enter_24 (Or.inl rfl) hF
theorem vX11_fail {G : az_G} {d : Nat} {x0 : Nat} {h : az_H} {Q : Option az_V → az_H → Prop} (hF : rdI h x0 11 34 (fun f1 => wrF h x0 11 34 (.int) (vi (w32 (f1 - 1))) (fun h2 => rdO h2 x0 11 39 (fun o3 => rdI h2 x0 11 34 (fun f4 => rcv h2 x0 11 (cz G mX11_load d 0 0 [vo x0, vo o3, vi f4] h2 (fun v h5 => atV v (Q none h5)))))))) : cz G mX11_fail (d + 1) 0 0 [vo x0] h Q := by
  refine cz_of (ls := [some (vo x0)]) (by decide +kernel) (Nat.le_of_ble_eq_true rfl) rfl ?_
  refine rz_aload_n dX11_fail_0 rfl (show _ = some (some (vo x0)) from rfl) ?_
  refine rz_dup dX11_fail_1 (by rintro ⟨_, q⟩; cases q) ?_
  replace hF := rdI_e hF
  obtain ⟨fs, f1, hg, hv, hF⟩ := hF
  refine rz_getf dX11_fail_2 fl_X11_273 hg hv ?_
  refine rz_iconst dX11_fail_5 rfl (by decide) ?_
  refine rz_isub dX11_fail_6 ?_
  replace hF := wrF_e hF
  obtain ⟨fs, hg, hv, hF⟩ := hF
  refine rz_putf dX11_fail_7 fl_X11_273 (Or.inl rfl) hg hv ?_
  refine rz_aload_n dX11_fail_10 rfl (show _ = some (some (vo x0)) from rfl) ?_
  refine rz_aload_n dX11_fail_11 rfl (show _ = some (some (vo x0)) from rfl) ?_
  replace hF := rdO_e hF
  obtain ⟨fs, o3, hg, hv, hF⟩ := hF
  refine rz_getf dX11_fail_12 fl_X11_71 hg hv ?_
  refine rz_aload_n dX11_fail_15 rfl (show _ = some (some (vo x0)) from rfl) ?_
  replace hF := rdI_e hF
  obtain ⟨fs, f4, hg, hv, hF⟩ := hF
  refine rz_getf dX11_fail_16 fl_X11_273 hg hv ?_
  replace hF := rcv_e hF
  obtain ⟨fs, hg, hF⟩ := hF
  refine rz_callV (mc' := 0) (ms' := 0) (mc := 0) (ms := 0) (st := []) dX11_fail_19 cV_X11_280 rfl hg ⟨_, _, rfl⟩ rfl (Nat.le_of_ble_eq_true rfl) hF (fun v h5 hG => ?_)
  clear hF
  revert hG
  intro hF
  replace hF := atV_e hF
  obtain ⟨rfl, hF⟩ := hF
  exact rz_vret dX11_fail_22 trivial hF
theorem vX11_meet {G : az_G} {d : Nat} {x0 : Nat} {x1 : Int} {x2 : Int} {h : az_H} {Q : Option az_V → az_H → Prop} (hF : rdI h x0 11 29 (fun f1 => (if f1 = 0 then Q none h else rdO h x0 11 28 (fun o2 => ldI h o2 (.boolean) (w32 ((w32 (24 * x1)) + x2)) (fun e3 => (if e3 = 0 then rdO h x0 11 28 (fun o4 => stI h o4 .boolean (w32 ((w32 (24 * x1)) + x2)) 1 (fun h5 => wrF h5 x0 11 30 (.boolean) (vi 1) (fun h6 => Q none h6))) else Q none h)))))) : cz G mX11_meet d 0 0 [vo x0, vi x1, vi x2] h Q := by
  refine cz_of (ls := [some (vo x0), some (vi x1), some (vi x2)]) (by decide +kernel) (Nat.le_of_ble_eq_true rfl) rfl ?_
  refine rz_aload_n dX11_meet_0 rfl (show _ = some (some (vo x0)) from rfl) ?_
  replace hF := rdI_e hF
  obtain ⟨fs, f1, hg, hv, hF⟩ := hF
  refine rz_getf dX11_meet_1 fl_X11_283 hg hv ?_
  refine rz_if_eq (tgt := 38) dX11_meet_4 (by decide) (fun c => ?_) (fun c => ?_)
  · replace hF := ite_t hF c
    exact rz_vret dX11_meet_38 trivial hF
  · replace hF := ite_f hF c
    refine rz_aload_n dX11_meet_7 rfl (show _ = some (some (vo x0)) from rfl) ?_
    replace hF := rdO_e hF
    obtain ⟨fs, o2, hg, hv, hF⟩ := hF
    refine rz_getf dX11_meet_8 fl_X11_53 hg hv ?_
    refine rz_bipush (v := 24) dX11_meet_11 (by decide) (by decide) ?_
    refine rz_iload_n dX11_meet_13 rfl (show _ = some (some (vi x1)) from rfl) ?_
    refine rz_imul dX11_meet_14 ?_
    refine rz_iload_n dX11_meet_15 rfl (show _ = some (some (vi x2)) from rfl) ?_
    refine rz_iadd dX11_meet_16 ?_
    replace hF := ldI_e hF
    obtain ⟨xs, hg, h0, h1, hF⟩ := hF
    refine rz_zald dX11_meet_17 hg h0 h1 ?_
    generalize xs.getD _ 0 = e3 at hF ⊢
    refine rz_if_ne (tgt := 38) dX11_meet_18 (by decide) (fun c => ?_) (fun c => ?_)
    · replace hF := ite_f hF c
      exact rz_vret dX11_meet_38 trivial hF
    · replace hF := ite_t hF c
      refine rz_aload_n dX11_meet_21 rfl (show _ = some (some (vo x0)) from rfl) ?_
      replace hF := rdO_e hF
      obtain ⟨fs, o4, hg, hv, hF⟩ := hF
      refine rz_getf dX11_meet_22 fl_X11_53 hg hv ?_
      refine rz_bipush (v := 24) dX11_meet_25 (by decide) (by decide) ?_
      refine rz_iload_n dX11_meet_27 rfl (show _ = some (some (vi x1)) from rfl) ?_
      refine rz_imul dX11_meet_28 ?_
      refine rz_iload_n dX11_meet_29 rfl (show _ = some (some (vi x2)) from rfl) ?_
      refine rz_iadd dX11_meet_30 ?_
      refine rz_iconst dX11_meet_31 rfl (by decide) ?_
      replace hF := stI_e hF
      obtain ⟨xs, hg, h0, h1, hF⟩ := hF
      refine rz_zast dX11_meet_32 hg h0 h1 (by decide) ?_
      refine rz_aload_n dX11_meet_33 rfl (show _ = some (some (vo x0)) from rfl) ?_
      refine rz_iconst dX11_meet_34 rfl (by decide) ?_
      replace hF := wrF_e hF
      obtain ⟨fs, hg, hv, hF⟩ := hF
      refine rz_putf dX11_meet_35 fl_X11_286 (Or.inl rfl) hg hv ?_
      exact rz_vret dX11_meet_38 trivial hF
def pX11_act_99 (G : az_G) (d : Nat) (x0 : Nat) (x1 : Int) (x4 : Int) (x5 : Int) (s0 : Int) (s1 : Int) (s2 : Int) (s3 : Option Nat) (h : az_H) (Q : Option az_V → az_H → Prop) : Prop := ez G mX11_act (d + 1) 0 0 99 [some (vo x0), some (vi x1), none, none, some (vi x4), some (vi x5), none, none] [vi s0, vi s1, vi s2, vr s3] h Q
def pX11_act_172 (G : az_G) (d : Nat) (x0 : Nat) (x3 : Int) (x5 : Int) (h : az_H) (Q : Option az_V → az_H → Prop) : Prop := ez G mX11_act (d + 1) 0 0 172 [some (vo x0), none, none, some (vi x3), none, some (vi x5), none, none] [] h Q
theorem vX11_act_172 {G : az_G} {d : Nat} {x0 : Nat} {x3 : Int} {x5 : Int} {h : az_H} {Q : Option az_V → az_H → Prop} (hF : (if x5 < 0 then Q (some (vi 0)) h else rdO h x0 11 22 (fun o1 => ldI h o1 (.int) 18 (fun e2 => (if x5 ≤ e2 then rdO h x0 11 22 (fun o3 => ldI h o3 (.int) 18 (fun e4 => stI h o3 .int 18 (w32 (e4 - x5)) (fun h5 => rdO h5 x0 11 22 (fun o6 => ldI h5 o6 (.int) (w32 (14 + x3)) (fun e7 => stI h5 o6 .int (w32 (14 + x3)) (w32 (e7 + x5)) (fun h8 => rdO h8 x0 11 25 (fun o9 => ldI h8 o9 (.int) x3 (fun e10 => (if e10 < 0 then Q (some (vi 1)) h8 else rdI h8 x0 11 34 (fun f11 => (if 3 ≤ f11 then Q (some (vi 1)) h8 else rdO h8 x0 11 25 (fun o12 => ldI h8 o12 (.int) x3 (fun e13 => rdO h8 x0 11 26 (fun o14 => ldI h8 o14 (.int) x3 (fun e15 => rcv h8 x0 11 (cz G mX11_enter d 0 0 [vo x0, vi x3, vi e13, vi e15, vi 0] h8 (fun v h16 => atI v (fun r17 => Q (some (vi 1)) h16)))))))))))))))))) else Q (some (vi 0)) h))))) : pX11_act_172 G d x0 x3 x5 h Q := by
  unfold pX11_act_172
  refine rz_iload dX11_act_172 (show _ = some (some (vi x5)) from rfl) ?_
  refine rz_if_lt (tgt := 189) dX11_act_174 (by decide) (fun c => ?_) (fun c => ?_)
  · replace hF := ite_t hF c
    refine rz_iconst dX11_act_189 rfl (by decide) ?_
    exact rz_iret dX11_act_190 (Or.inl rfl) hF
  · replace hF := ite_f hF c
    refine rz_iload dX11_act_177 (show _ = some (some (vi x5)) from rfl) ?_
    refine rz_aload_n dX11_act_179 rfl (show _ = some (some (vo x0)) from rfl) ?_
    replace hF := rdO_e hF
    obtain ⟨fs, o1, hg, hv, hF⟩ := hF
    refine rz_getf dX11_act_180 fl_X11_38 hg hv ?_
    refine rz_bipush (v := 18) dX11_act_183 (by decide) (by decide) ?_
    replace hF := ldI_e hF
    obtain ⟨xs, hg, h0, h1, hF⟩ := hF
    refine rz_iald dX11_act_185 hg h0 h1 ?_
    generalize xs.getD _ 0 = e2 at hF ⊢
    refine rz_icmp_le (tgt := 191) dX11_act_186 (by decide) (fun c => ?_) (fun c => ?_)
    · replace hF := ite_t hF c
      refine rz_aload_n dX11_act_191 rfl (show _ = some (some (vo x0)) from rfl) ?_
      replace hF := rdO_e hF
      obtain ⟨fs, o3, hg, hv, hF⟩ := hF
      refine rz_getf dX11_act_192 fl_X11_38 hg hv ?_
      refine rz_bipush (v := 18) dX11_act_195 (by decide) (by decide) ?_
      refine rz_dup2_11 dX11_act_197 (by rintro ⟨_, q⟩; cases q) (by rintro ⟨_, q⟩; cases q) ?_
      replace hF := ldI_e hF
      obtain ⟨xs, hg, h0, h1, hF⟩ := hF
      refine rz_iald dX11_act_198 hg h0 h1 ?_
      generalize xs.getD _ 0 = e4 at hF ⊢
      refine rz_iload dX11_act_199 (show _ = some (some (vi x5)) from rfl) ?_
      refine rz_isub dX11_act_201 ?_
      replace hF := stI_e hF
      obtain ⟨xs, hg, h0, h1, hF⟩ := hF
      refine rz_iast dX11_act_202 hg h0 h1 ?_
      refine rz_aload_n dX11_act_203 rfl (show _ = some (some (vo x0)) from rfl) ?_
      replace hF := rdO_e hF
      obtain ⟨fs, o6, hg, hv, hF⟩ := hF
      refine rz_getf dX11_act_204 fl_X11_38 hg hv ?_
      refine rz_bipush (v := 14) dX11_act_207 (by decide) (by decide) ?_
      refine rz_iload_n dX11_act_209 rfl (show _ = some (some (vi x3)) from rfl) ?_
      refine rz_iadd dX11_act_210 ?_
      refine rz_dup2_11 dX11_act_211 (by rintro ⟨_, q⟩; cases q) (by rintro ⟨_, q⟩; cases q) ?_
      replace hF := ldI_e hF
      obtain ⟨xs, hg, h0, h1, hF⟩ := hF
      refine rz_iald dX11_act_212 hg h0 h1 ?_
      generalize xs.getD _ 0 = e7 at hF ⊢
      refine rz_iload dX11_act_213 (show _ = some (some (vi x5)) from rfl) ?_
      refine rz_iadd dX11_act_215 ?_
      replace hF := stI_e hF
      obtain ⟨xs, hg, h0, h1, hF⟩ := hF
      refine rz_iast dX11_act_216 hg h0 h1 ?_
      refine rz_aload_n dX11_act_217 rfl (show _ = some (some (vo x0)) from rfl) ?_
      replace hF := rdO_e hF
      obtain ⟨fs, o9, hg, hv, hF⟩ := hF
      refine rz_getf dX11_act_218 fl_X11_47 hg hv ?_
      refine rz_iload_n dX11_act_221 rfl (show _ = some (some (vi x3)) from rfl) ?_
      replace hF := ldI_e hF
      obtain ⟨xs, hg, h0, h1, hF⟩ := hF
      refine rz_iald dX11_act_222 hg h0 h1 ?_
      generalize xs.getD _ 0 = e10 at hF ⊢
      refine rz_if_lt (tgt := 254) dX11_act_223 (by decide) (fun c => ?_) (fun c => ?_)
      · replace hF := ite_t hF c
        refine rz_iconst dX11_act_254 rfl (by decide) ?_
        exact rz_iret dX11_act_255 (Or.inr rfl) hF
      · replace hF := ite_f hF c
        refine rz_aload_n dX11_act_226 rfl (show _ = some (some (vo x0)) from rfl) ?_
        replace hF := rdI_e hF
        obtain ⟨fs, f11, hg, hv, hF⟩ := hF
        refine rz_getf dX11_act_227 fl_X11_273 hg hv ?_
        refine rz_iconst dX11_act_230 rfl (by decide) ?_
        refine rz_icmp_ge (tgt := 254) dX11_act_231 (by decide) (fun c => ?_) (fun c => ?_)
        · replace hF := ite_t hF c
          refine rz_iconst dX11_act_254 rfl (by decide) ?_
          exact rz_iret dX11_act_255 (Or.inr rfl) hF
        · replace hF := ite_f hF c
          refine rz_aload_n dX11_act_234 rfl (show _ = some (some (vo x0)) from rfl) ?_
          refine rz_iload_n dX11_act_235 rfl (show _ = some (some (vi x3)) from rfl) ?_
          refine rz_aload_n dX11_act_236 rfl (show _ = some (some (vo x0)) from rfl) ?_
          replace hF := rdO_e hF
          obtain ⟨fs, o12, hg, hv, hF⟩ := hF
          refine rz_getf dX11_act_237 fl_X11_47 hg hv ?_
          refine rz_iload_n dX11_act_240 rfl (show _ = some (some (vi x3)) from rfl) ?_
          replace hF := ldI_e hF
          obtain ⟨xs, hg, h0, h1, hF⟩ := hF
          refine rz_iald dX11_act_241 hg h0 h1 ?_
          generalize xs.getD _ 0 = e13 at hF ⊢
          refine rz_aload_n dX11_act_242 rfl (show _ = some (some (vo x0)) from rfl) ?_
          replace hF := rdO_e hF
          obtain ⟨fs, o14, hg, hv, hF⟩ := hF
          refine rz_getf dX11_act_243 fl_X11_50 hg hv ?_
          refine rz_iload_n dX11_act_246 rfl (show _ = some (some (vi x3)) from rfl) ?_
          replace hF := ldI_e hF
          obtain ⟨xs, hg, h0, h1, hF⟩ := hF
          refine rz_iald dX11_act_247 hg h0 h1 ?_
          generalize xs.getD _ 0 = e15 at hF ⊢
          refine rz_iconst dX11_act_248 rfl (by decide) ?_
          replace hF := rcv_e hF
          obtain ⟨fs, hg, hF⟩ := hF
          refine rz_callV (mc' := 0) (ms' := 0) (mc := 0) (ms := 0) (st := []) dX11_act_249 cV_X11_289 rfl hg ⟨_, _, rfl⟩ rfl (Nat.le_of_ble_eq_true rfl) hF (fun v h16 hG => ?_)
          clear hF
          revert hG
          intro hF
          replace hF := atI_e hF
          obtain ⟨r17, rfl, hF⟩ := hF
          refine rz_istore (ls' := [some (vo x0), none, none, some (vi x3), none, some (vi x5), none, some (vi r17)]) dX11_act_252 (Nat.le_of_ble_eq_true rfl) rfl ?_
          refine rz_iconst dX11_act_254 rfl (by decide) ?_
          exact rz_iret dX11_act_255 (Or.inr rfl) hF
    · replace hF := ite_f hF c
      refine rz_iconst dX11_act_189 rfl (by decide) ?_
      exact rz_iret dX11_act_190 (Or.inl rfl) hF
theorem vX11_act_99 {G : az_G} {d : Nat} {x0 : Nat} {x1 : Int} {x4 : Int} {x5 : Int} {s0 : Int} {s1 : Int} {s2 : Int} {s3 : Option Nat} {h : az_H} {Q : Option az_V → az_H → Prop} (hF : nnR s3 (fun a2 => rcv h a2 11 (cz G mX11_meet d 0 0 [vo a2, vi s2, vi (w32 (s1 + s0))] h (fun v h1 => atV v (rdO h1 x0 11 35 (fun o3 => (if x5 = 0 then rdO h1 x0 11 9 (fun o4 => ldI h1 o4 (.int) x1 (fun e5 => stI h1 o3 .int x4 e5 (fun h6 => Q (some (vi 1)) h6))) else rdO h1 x0 11 35 (fun o7 => ldI h1 o7 (.int) x4 (fun e8 => stI h1 o3 .int x4 e8 (fun h9 => Q (some (vi 1)) h9)))))))))) : pX11_act_99 G d x0 x1 x4 x5 s0 s1 s2 s3 h Q := by
  unfold pX11_act_99
  refine rz_iadd dX11_act_99 ?_
  replace hF := nnR_e hF
  obtain ⟨a2, ea2, hF⟩ := hF
  subst ea2
  replace hF := rcv_e hF
  obtain ⟨fs, hg, hF⟩ := hF
  refine rz_callV (mc' := 0) (ms' := 0) (mc := 0) (ms := 0) (st := []) dX11_act_100 cV_X11_303 rfl hg ⟨_, _, rfl⟩ rfl (Nat.le_of_ble_eq_true rfl) hF (fun v h1 hG => ?_)
  clear hF
  revert hG
  intro hF
  replace hF := atV_e hF
  obtain ⟨rfl, hF⟩ := hF
  refine rz_aload_n dX11_act_103 rfl (show _ = some (some (vo x0)) from rfl) ?_
  replace hF := rdO_e hF
  obtain ⟨fs, o3, hg, hv, hF⟩ := hF
  refine rz_getf dX11_act_104 fl_X11_59 hg hv ?_
  refine rz_iload dX11_act_107 (show _ = some (some (vi x4)) from rfl) ?_
  refine rz_iload dX11_act_109 (show _ = some (some (vi x5)) from rfl) ?_
  refine rz_if_eq (tgt := 124) dX11_act_111 (by decide) (fun c => ?_) (fun c => ?_)
  · replace hF := ite_t hF c
    refine rz_aload_n dX11_act_124 rfl (show _ = some (some (vo x0)) from rfl) ?_
    replace hF := rdO_e hF
    obtain ⟨fs, o4, hg, hv, hF⟩ := hF
    refine rz_getf dX11_act_125 fl_X11_19 hg hv ?_
    refine rz_iload_n dX11_act_128 rfl (show _ = some (some (vi x1)) from rfl) ?_
    replace hF := ldI_e hF
    obtain ⟨xs, hg, h0, h1, hF⟩ := hF
    refine rz_iald dX11_act_129 hg h0 h1 ?_
    generalize xs.getD _ 0 = e5 at hF ⊢
    replace hF := stI_e hF
    obtain ⟨xs, hg, h0, h1, hF⟩ := hF
    refine rz_iast dX11_act_130 hg h0 h1 ?_
    refine rz_iconst dX11_act_131 rfl (by decide) ?_
    exact rz_iret dX11_act_132 (Or.inr rfl) hF
  · replace hF := ite_f hF c
    refine rz_aload_n dX11_act_114 rfl (show _ = some (some (vo x0)) from rfl) ?_
    replace hF := rdO_e hF
    obtain ⟨fs, o7, hg, hv, hF⟩ := hF
    refine rz_getf dX11_act_115 fl_X11_59 hg hv ?_
    refine rz_iload dX11_act_118 (show _ = some (some (vi x4)) from rfl) ?_
    replace hF := ldI_e hF
    obtain ⟨xs, hg, h0, h1, hF⟩ := hF
    refine rz_iald dX11_act_120 hg h0 h1 ?_
    generalize xs.getD _ 0 = e8 at hF ⊢
    refine rz_goto (tgt := 130) dX11_act_121 (by decide) ?_
    replace hF := stI_e hF
    obtain ⟨xs, hg, h0, h1, hF⟩ := hF
    refine rz_iast dX11_act_130 hg h0 h1 ?_
    refine rz_iconst dX11_act_131 rfl (by decide) ?_
    exact rz_iret dX11_act_132 (Or.inr rfl) hF
theorem vX11_act {G : az_G} {d : Nat} {x0 : Nat} {x1 : Int} {x2 : Int} {x3 : Int} {x4 : Int} {h : az_H} {Q : Option az_V → az_H → Prop} (hF : rcv h x0 11 (cz G mX11_pop d 0 0 [vo x0] h (fun v h1 => atI v (fun r2 => rdO h1 x0 11 8 (fun o3 => ldI h1 o3 (.int) x1 (fun e4 => rdO h1 x0 11 7 (fun o5 => ldI h1 o5 (.int) x1 (fun e6 => (if e6 = 20 then (if r2 = 0 then rcv h1 x0 11 (cz G mX11_meet d 0 0 [vo x0, vi x2, vi (w32 ((w32 (2 * e4)) + 1))] h1 (fun v h7 => atV v ((if r2 = 0 then Q (some (vi 0)) h7 else Q (some (vi 1)) h7)))) else rcv h1 x0 11 (cz G mX11_meet d 0 0 [vo x0, vi x2, vi (w32 ((w32 (2 * e4)) + 0))] h1 (fun v h8 => atV v ((if r2 = 0 then Q (some (vi 0)) h8 else Q (some (vi 1)) h8))))) else (if e6 = 21 then rdO h1 x0 11 22 (fun o10 => (if 6 ≤ e4 then (if e4 = 6 then stI h1 o10 .int (w32 (6 + x3)) r2 (fun h12 => Q (some (vi 1)) h12) else stI h1 o10 .int (w32 (10 + x3)) r2 (fun h11 => Q (some (vi 1)) h11)) else stI h1 o10 .int e4 r2 (fun h13 => Q (some (vi 1)) h13))) else (if e6 = 22 then pX11_act_172 G d x0 x3 r2 h1 Q else (if e6 = 23 then (if r2 = 0 then pX11_act_99 G d x0 x1 x4 r2 1 (w32 (2 * e4)) x2 (some x0) h1 Q else pX11_act_99 G d x0 x1 x4 r2 0 (w32 (2 * e4)) x2 (some x0) h1 Q) else pX11_act_172 G d x0 x3 r2 h1 Q)))))))))))) : cz G mX11_act (d + 1) 0 0 [vo x0, vi x1, vi x2, vi x3, vi x4] h Q := by
  refine cz_of (ls := [some (vo x0), some (vi x1), some (vi x2), some (vi x3), some (vi x4), none, none, none]) (by decide +kernel) (Nat.le_of_ble_eq_true rfl) rfl ?_
  refine rz_aload_n dX11_act_0 rfl (show _ = some (some (vo x0)) from rfl) ?_
  replace hF := rcv_e hF
  obtain ⟨fs, hg, hF⟩ := hF
  refine rz_callV (mc' := 0) (ms' := 0) (mc := 0) (ms := 0) (st := []) dX11_act_1 cV_X11_266 rfl hg ⟨_, _, rfl⟩ rfl (Nat.le_of_ble_eq_true rfl) hF (fun v h1 hG => ?_)
  clear hF
  revert hG
  intro hF
  replace hF := atI_e hF
  obtain ⟨r2, rfl, hF⟩ := hF
  refine rz_istore (ls' := [some (vo x0), some (vi x1), some (vi x2), some (vi x3), some (vi x4), some (vi r2), none, none]) dX11_act_4 (Nat.le_of_ble_eq_true rfl) rfl ?_
  refine rz_aload_n dX11_act_6 rfl (show _ = some (some (vo x0)) from rfl) ?_
  replace hF := rdO_e hF
  obtain ⟨fs, o3, hg, hv, hF⟩ := hF
  refine rz_getf dX11_act_7 fl_X11_16 hg hv ?_
  refine rz_iload_n dX11_act_10 rfl (show _ = some (some (vi x1)) from rfl) ?_
  replace hF := ldI_e hF
  obtain ⟨xs, hg, h0, h1, hF⟩ := hF
  refine rz_iald dX11_act_11 hg h0 h1 ?_
  generalize xs.getD _ 0 = e4 at hF ⊢
  refine rz_istore (ls' := [some (vo x0), some (vi x1), some (vi x2), some (vi x3), some (vi x4), some (vi r2), some (vi e4), none]) dX11_act_12 (Nat.le_of_ble_eq_true rfl) rfl ?_
  refine rz_aload_n dX11_act_14 rfl (show _ = some (some (vo x0)) from rfl) ?_
  replace hF := rdO_e hF
  obtain ⟨fs, o5, hg, hv, hF⟩ := hF
  refine rz_getf dX11_act_15 fl_X11_13 hg hv ?_
  refine rz_iload_n dX11_act_18 rfl (show _ = some (some (vi x1)) from rfl) ?_
  replace hF := ldI_e hF
  obtain ⟨xs, hg, h0, h1, hF⟩ := hF
  refine rz_iald dX11_act_19 hg h0 h1 ?_
  generalize xs.getD _ 0 = e6 at hF ⊢
  by_cases c9 : e6 = 20
  · replace hF := ite_t hF c9
    refine rz_tsIn (off := 32) (tgt := 52) dX11_act_20 (by omega) (by omega) (by rw [c9]; rfl) (by decide) ?_
    refine rz_aload_n dX11_act_52 rfl (show _ = some (some (vo x0)) from rfl) ?_
    refine rz_iload_n dX11_act_53 rfl (show _ = some (some (vi x2)) from rfl) ?_
    refine rz_iconst dX11_act_54 rfl (by decide) ?_
    refine rz_iload dX11_act_55 (show _ = some (some (vi e4)) from rfl) ?_
    refine rz_imul dX11_act_57 ?_
    refine rz_iload dX11_act_58 (show _ = some (some (vi r2)) from rfl) ?_
    refine rz_if_eq (tgt := 67) dX11_act_60 (by decide) (fun c => ?_) (fun c => ?_)
    · replace hF := ite_t hF c
      refine rz_iconst dX11_act_67 rfl (by decide) ?_
      refine rz_iadd dX11_act_68 ?_
      replace hF := rcv_e hF
      obtain ⟨fs, hg, hF⟩ := hF
      refine rz_callV (mc' := 0) (ms' := 0) (mc := 0) (ms := 0) (st := []) dX11_act_69 cV_X11_303 rfl hg ⟨_, _, rfl⟩ rfl (Nat.le_of_ble_eq_true rfl) hF (fun v h7 hG => ?_)
      clear hF
      revert hG
      intro hF
      replace hF := atV_e hF
      obtain ⟨rfl, hF⟩ := hF
      refine rz_iload dX11_act_72 (show _ = some (some (vi r2)) from rfl) ?_
      refine rz_if_eq (tgt := 81) dX11_act_74 (by decide) (fun c => ?_) (fun c => ?_)
      · replace hF := ite_t hF c
        refine rz_iconst dX11_act_81 rfl (by decide) ?_
        exact rz_iret dX11_act_82 (Or.inl rfl) hF
      · replace hF := ite_f hF c
        refine rz_iconst dX11_act_77 rfl (by decide) ?_
        refine rz_goto (tgt := 82) dX11_act_78 (by decide) ?_
        exact rz_iret dX11_act_82 (Or.inr rfl) hF
    · replace hF := ite_f hF c
      refine rz_iconst dX11_act_63 rfl (by decide) ?_
      refine rz_goto (tgt := 68) dX11_act_64 (by decide) ?_
      refine rz_iadd dX11_act_68 ?_
      replace hF := rcv_e hF
      obtain ⟨fs, hg, hF⟩ := hF
      refine rz_callV (mc' := 0) (ms' := 0) (mc := 0) (ms := 0) (st := []) dX11_act_69 cV_X11_303 rfl hg ⟨_, _, rfl⟩ rfl (Nat.le_of_ble_eq_true rfl) hF (fun v h8 hG => ?_)
      clear hF
      revert hG
      intro hF
      replace hF := atV_e hF
      obtain ⟨rfl, hF⟩ := hF
      refine rz_iload dX11_act_72 (show _ = some (some (vi r2)) from rfl) ?_
      refine rz_if_eq (tgt := 81) dX11_act_74 (by decide) (fun c => ?_) (fun c => ?_)
      · replace hF := ite_t hF c
        refine rz_iconst dX11_act_81 rfl (by decide) ?_
        exact rz_iret dX11_act_82 (Or.inl rfl) hF
      · replace hF := ite_f hF c
        refine rz_iconst dX11_act_77 rfl (by decide) ?_
        refine rz_goto (tgt := 82) dX11_act_78 (by decide) ?_
        exact rz_iret dX11_act_82 (Or.inr rfl) hF
  · replace hF := ite_f hF c9
    by_cases c14 : e6 = 21
    · replace hF := ite_t hF c14
      refine rz_tsIn (off := 113) (tgt := 133) dX11_act_20 (by omega) (by omega) (by rw [c14]; rfl) (by decide) ?_
      refine rz_aload_n dX11_act_133 rfl (show _ = some (some (vo x0)) from rfl) ?_
      replace hF := rdO_e hF
      obtain ⟨fs, o10, hg, hv, hF⟩ := hF
      refine rz_getf dX11_act_134 fl_X11_38 hg hv ?_
      refine rz_iload dX11_act_137 (show _ = some (some (vi e4)) from rfl) ?_
      refine rz_bipush (v := 6) dX11_act_139 (by decide) (by decide) ?_
      refine rz_icmp_ge (tgt := 149) dX11_act_141 (by decide) (fun c => ?_) (fun c => ?_)
      · replace hF := ite_t hF c
        refine rz_iload dX11_act_149 (show _ = some (some (vi e4)) from rfl) ?_
        refine rz_bipush (v := 6) dX11_act_151 (by decide) (by decide) ?_
        refine rz_icmp_ne (tgt := 163) dX11_act_153 (by decide) (fun c => ?_) (fun c => ?_)
        · replace hF := ite_f hF c
          refine rz_bipush (v := 10) dX11_act_163 (by decide) (by decide) ?_
          refine rz_iload_n dX11_act_165 rfl (show _ = some (some (vi x3)) from rfl) ?_
          refine rz_iadd dX11_act_166 ?_
          refine rz_iload dX11_act_167 (show _ = some (some (vi r2)) from rfl) ?_
          replace hF := stI_e hF
          obtain ⟨xs, hg, h0, h1, hF⟩ := hF
          refine rz_iast dX11_act_169 hg h0 h1 ?_
          refine rz_iconst dX11_act_170 rfl (by decide) ?_
          exact rz_iret dX11_act_171 (Or.inr rfl) hF
        · replace hF := ite_t hF c
          refine rz_bipush (v := 6) dX11_act_156 (by decide) (by decide) ?_
          refine rz_iload_n dX11_act_158 rfl (show _ = some (some (vi x3)) from rfl) ?_
          refine rz_iadd dX11_act_159 ?_
          refine rz_goto (tgt := 167) dX11_act_160 (by decide) ?_
          refine rz_iload dX11_act_167 (show _ = some (some (vi r2)) from rfl) ?_
          replace hF := stI_e hF
          obtain ⟨xs, hg, h0, h1, hF⟩ := hF
          refine rz_iast dX11_act_169 hg h0 h1 ?_
          refine rz_iconst dX11_act_170 rfl (by decide) ?_
          exact rz_iret dX11_act_171 (Or.inr rfl) hF
      · replace hF := ite_f hF c
        refine rz_iload dX11_act_144 (show _ = some (some (vi e4)) from rfl) ?_
        refine rz_goto (tgt := 167) dX11_act_146 (by decide) ?_
        refine rz_iload dX11_act_167 (show _ = some (some (vi r2)) from rfl) ?_
        replace hF := stI_e hF
        obtain ⟨xs, hg, h0, h1, hF⟩ := hF
        refine rz_iast dX11_act_169 hg h0 h1 ?_
        refine rz_iconst dX11_act_170 rfl (by decide) ?_
        exact rz_iret dX11_act_171 (Or.inr rfl) hF
    · replace hF := ite_f hF c14
      by_cases c15 : e6 = 22
      · replace hF := ite_t hF c15
        refine rz_tsIn (off := 152) (tgt := 172) dX11_act_20 (by omega) (by omega) (by rw [c15]; rfl) (by decide) ?_
        refine ez_kp [true, false, false, true, false, true, false, false] rfl ?_
        exact hF
      · replace hF := ite_f hF c15
        by_cases c16 : e6 = 23
        · replace hF := ite_t hF c16
          refine rz_tsIn (off := 63) (tgt := 83) dX11_act_20 (by omega) (by omega) (by rw [c16]; rfl) (by decide) ?_
          refine rz_aload_n dX11_act_83 rfl (show _ = some (some (vo x0)) from rfl) ?_
          refine rz_iload_n dX11_act_84 rfl (show _ = some (some (vi x2)) from rfl) ?_
          refine rz_iconst dX11_act_85 rfl (by decide) ?_
          refine rz_iload dX11_act_86 (show _ = some (some (vi e4)) from rfl) ?_
          refine rz_imul dX11_act_88 ?_
          refine rz_iload dX11_act_89 (show _ = some (some (vi r2)) from rfl) ?_
          refine rz_if_eq (tgt := 98) dX11_act_91 (by decide) (fun c => ?_) (fun c => ?_)
          · replace hF := ite_t hF c
            refine rz_iconst dX11_act_98 rfl (by decide) ?_
            refine ez_kp [true, true, false, false, true, true, false, false] rfl ?_
            exact hF
          · replace hF := ite_f hF c
            refine rz_iconst dX11_act_94 rfl (by decide) ?_
            refine rz_goto (tgt := 99) dX11_act_95 (by decide) ?_
            refine ez_kp [true, true, false, false, true, true, false, false] rfl ?_
            exact hF
        · replace hF := ite_f hF c16
          refine rz_tsOut (tgt := 172) dX11_act_20 (by omega) (by decide) ?_
          refine ez_kp [true, false, false, true, false, true, false, false] rfl ?_
          exact hF
def pX11_run_26 (G : az_G) (d : Nat) (x0 : Nat) (x1 : Int) (x5 : Int) (h : az_H) (Q : Option az_V → az_H → Prop) : Prop := ez G mX11_run (d + 1) 0 0 26 [some (vo x0), some (vi x1), none, none, none, some (vi x5), none, none, none] [] h Q
theorem vX11_run_26 {G : az_G} {d : Nat} {x0 : Nat} {x1 : Int} {x5 : Int} {h : az_H} {Q : Option az_V → az_H → Prop} (hF : rdI h x0 11 34 (fun f1 => (if f1 ≤ 0 then (az_fit (.boolean) (vi x5) ∧ Q (some (vi x5)) h) else rdI h x0 11 34 (fun f2 => rdO h x0 11 36 (fun o3 => ldI h o3 (.int) (w32 (f2 - 1)) (fun e4 => rdO h x0 11 35 (fun o5 => ldI h o5 (.int) (w32 (f2 - 1)) (fun e6 => rdO h x0 11 10 (fun o7 => ldI h o7 (.int) e4 (fun e8 => (if e6 = e8 then rdI h x0 11 34 (fun f32 => wrF h x0 11 34 (.int) (vi (w32 (f32 - 1))) (fun h33 => pX11_run_26 G d x0 x1 1 h33 Q)) else rdO h x0 11 35 (fun o9 => ldI h o9 (.int) (w32 (f2 - 1)) (fun e10 => rdO h x0 11 35 (fun o11 => ldI h o11 (.int) (w32 (f2 - 1)) (fun e12 => stI h o11 .int (w32 (f2 - 1)) (w32 (e12 + 1)) (fun h13 => rdO h13 x0 11 7 (fun o14 => ldI h13 o14 (.int) (w32 ((w32 (300 * e4)) + e10)) (fun e15 => (if 20 ≤ e15 then rcv h13 x0 11 (cz G mX11_act d 0 0 [vo x0, vi (w32 ((w32 (300 * e4)) + e10)), vi e4, vi x1, vi (w32 (f2 - 1))] h13 (fun v h16 => atI v (fun r17 => (if r17 = 0 then rcv h16 x0 11 (cz G mX11_fail d 0 0 [vo x0] h16 (fun v h18 => atV v (pX11_run_26 G d x0 x1 0 h18 Q))) else pX11_run_26 G d x0 x1 x5 h16 Q)))) else rdO h13 x0 11 7 (fun o19 => ldI h13 o19 (.int) (w32 ((w32 (300 * e4)) + e10)) (fun e20 => rdO h13 x0 11 8 (fun o21 => ldI h13 o21 (.int) (w32 ((w32 (300 * e4)) + e10)) (fun e22 => rdO h13 x0 11 37 (fun o23 => ldI h13 o23 (.int) (w32 (f2 - 1)) (fun e24 => rdO h13 x0 11 38 (fun o25 => ldI h13 o25 (.int) (w32 (f2 - 1)) (fun e26 => rcv h13 x0 11 (cz G mX11_reckon d 0 0 [vo x0, vi e20, vi e22, vi x1, vi e24, vi e26] h13 (fun v h27 => atV v (rdI h27 x0 11 33 (fun f28 => (if f28 = 0 then pX11_run_26 G d x0 x1 x5 h27 Q else rcv h27 x0 11 (cz G mX11_fail d 0 0 [vo x0] h27 (fun v h29 => atV v (wrF h29 x0 11 33 (.boolean) (vi 0) (fun h30 => wrF h30 x0 11 32 (.int) (vi 0) (fun h31 => pX11_run_26 G d x0 x1 0 h31 Q))))))))))))))))))))))))))))))))))))) : pX11_run_26 G d x0 x1 x5 h Q := by
  unfold pX11_run_26
  refine rz_aload_n dX11_run_26 rfl (show _ = some (some (vo x0)) from rfl) ?_
  replace hF := rdI_e hF
  obtain ⟨fs, f1, hg, hv, hF⟩ := hF
  refine rz_getf dX11_run_27 fl_X11_273 hg hv ?_
  refine rz_if_le (tgt := 206) dX11_run_30 (by decide) (fun c => ?_) (fun c => ?_)
  · replace hF := ite_t hF c
    refine rz_iload dX11_run_206 (show _ = some (some (vi x5)) from rfl) ?_
    exact rz_iret dX11_run_208 hF.1 hF.2
  · replace hF := ite_f hF c
    refine rz_aload_n dX11_run_33 rfl (show _ = some (some (vo x0)) from rfl) ?_
    replace hF := rdI_e hF
    obtain ⟨fs, f2, hg, hv, hF⟩ := hF
    refine rz_getf dX11_run_34 fl_X11_273 hg hv ?_
    refine rz_iconst dX11_run_37 rfl (by decide) ?_
    refine rz_isub dX11_run_38 ?_
    refine rz_istore (ls' := [some (vo x0), some (vi x1), none, none, none, some (vi x5), some (vi (w32 (f2 - 1))), none, none]) dX11_run_39 (Nat.le_of_ble_eq_true rfl) rfl ?_
    refine rz_aload_n dX11_run_41 rfl (show _ = some (some (vo x0)) from rfl) ?_
    replace hF := rdO_e hF
    obtain ⟨fs, o3, hg, hv, hF⟩ := hF
    refine rz_getf dX11_run_42 fl_X11_62 hg hv ?_
    refine rz_iload dX11_run_45 (show _ = some (some (vi (w32 (f2 - 1)))) from rfl) ?_
    replace hF := ldI_e hF
    obtain ⟨xs, hg, h0, h1, hF⟩ := hF
    refine rz_iald dX11_run_47 hg h0 h1 ?_
    generalize xs.getD _ 0 = e4 at hF ⊢
    refine rz_istore (ls' := [some (vo x0), some (vi x1), none, none, none, some (vi x5), some (vi (w32 (f2 - 1))), some (vi e4), none]) dX11_run_48 (Nat.le_of_ble_eq_true rfl) rfl ?_
    refine rz_aload_n dX11_run_50 rfl (show _ = some (some (vo x0)) from rfl) ?_
    replace hF := rdO_e hF
    obtain ⟨fs, o5, hg, hv, hF⟩ := hF
    refine rz_getf dX11_run_51 fl_X11_59 hg hv ?_
    refine rz_iload dX11_run_54 (show _ = some (some (vi (w32 (f2 - 1)))) from rfl) ?_
    replace hF := ldI_e hF
    obtain ⟨xs, hg, h0, h1, hF⟩ := hF
    refine rz_iald dX11_run_56 hg h0 h1 ?_
    generalize xs.getD _ 0 = e6 at hF ⊢
    refine rz_aload_n dX11_run_57 rfl (show _ = some (some (vo x0)) from rfl) ?_
    replace hF := rdO_e hF
    obtain ⟨fs, o7, hg, hv, hF⟩ := hF
    refine rz_getf dX11_run_58 fl_X11_22 hg hv ?_
    refine rz_iload dX11_run_61 (show _ = some (some (vi e4)) from rfl) ?_
    replace hF := ldI_e hF
    obtain ⟨xs, hg, h0, h1, hF⟩ := hF
    refine rz_iald dX11_run_63 hg h0 h1 ?_
    generalize xs.getD _ 0 = e8 at hF ⊢
    refine rz_icmp_ne (tgt := 83) dX11_run_64 (by decide) (fun c => ?_) (fun c => ?_)
    · replace hF := ite_f hF c
      refine rz_sipush (v := 300) dX11_run_83 (by decide) (by decide) ?_
      refine rz_iload dX11_run_86 (show _ = some (some (vi e4)) from rfl) ?_
      refine rz_imul dX11_run_88 ?_
      refine rz_aload_n dX11_run_89 rfl (show _ = some (some (vo x0)) from rfl) ?_
      replace hF := rdO_e hF
      obtain ⟨fs, o9, hg, hv, hF⟩ := hF
      refine rz_getf dX11_run_90 fl_X11_59 hg hv ?_
      refine rz_iload dX11_run_93 (show _ = some (some (vi (w32 (f2 - 1)))) from rfl) ?_
      replace hF := ldI_e hF
      obtain ⟨xs, hg, h0, h1, hF⟩ := hF
      refine rz_iald dX11_run_95 hg h0 h1 ?_
      generalize xs.getD _ 0 = e10 at hF ⊢
      refine rz_iadd dX11_run_96 ?_
      refine rz_istore (ls' := [some (vo x0), some (vi x1), none, none, none, some (vi x5), some (vi (w32 (f2 - 1))), some (vi e4), some (vi (w32 ((w32 (300 * e4)) + e10)))]) dX11_run_97 (Nat.le_of_ble_eq_true rfl) rfl ?_
      refine rz_aload_n dX11_run_99 rfl (show _ = some (some (vo x0)) from rfl) ?_
      replace hF := rdO_e hF
      obtain ⟨fs, o11, hg, hv, hF⟩ := hF
      refine rz_getf dX11_run_100 fl_X11_59 hg hv ?_
      refine rz_iload dX11_run_103 (show _ = some (some (vi (w32 (f2 - 1)))) from rfl) ?_
      refine rz_dup2_11 dX11_run_105 (by rintro ⟨_, q⟩; cases q) (by rintro ⟨_, q⟩; cases q) ?_
      replace hF := ldI_e hF
      obtain ⟨xs, hg, h0, h1, hF⟩ := hF
      refine rz_iald dX11_run_106 hg h0 h1 ?_
      generalize xs.getD _ 0 = e12 at hF ⊢
      refine rz_iconst dX11_run_107 rfl (by decide) ?_
      refine rz_iadd dX11_run_108 ?_
      replace hF := stI_e hF
      obtain ⟨xs, hg, h0, h1, hF⟩ := hF
      refine rz_iast dX11_run_109 hg h0 h1 ?_
      refine rz_aload_n dX11_run_110 rfl (show _ = some (some (vo x0)) from rfl) ?_
      replace hF := rdO_e hF
      obtain ⟨fs, o14, hg, hv, hF⟩ := hF
      refine rz_getf dX11_run_111 fl_X11_13 hg hv ?_
      refine rz_iload dX11_run_114 (show _ = some (some (vi (w32 ((w32 (300 * e4)) + e10)))) from rfl) ?_
      replace hF := ldI_e hF
      obtain ⟨xs, hg, h0, h1, hF⟩ := hF
      refine rz_iald dX11_run_116 hg h0 h1 ?_
      generalize xs.getD _ 0 = e15 at hF ⊢
      refine rz_bipush (v := 20) dX11_run_117 (by decide) (by decide) ?_
      refine rz_icmp_ge (tgt := 182) dX11_run_119 (by decide) (fun c => ?_) (fun c => ?_)
      · replace hF := ite_t hF c
        refine rz_aload_n dX11_run_182 rfl (show _ = some (some (vo x0)) from rfl) ?_
        refine rz_iload dX11_run_183 (show _ = some (some (vi (w32 ((w32 (300 * e4)) + e10)))) from rfl) ?_
        refine rz_iload dX11_run_185 (show _ = some (some (vi e4)) from rfl) ?_
        refine rz_iload_n dX11_run_187 rfl (show _ = some (some (vi x1)) from rfl) ?_
        refine rz_iload dX11_run_188 (show _ = some (some (vi (w32 (f2 - 1)))) from rfl) ?_
        replace hF := rcv_e hF
        obtain ⟨fs, hg, hF⟩ := hF
        refine rz_callV (mc' := 0) (ms' := 0) (mc := 0) (ms := 0) (st := []) dX11_run_190 cV_X11_300 rfl hg ⟨_, _, rfl⟩ rfl (Nat.le_of_ble_eq_true rfl) hF (fun v h16 hG => ?_)
        clear hF
        revert hG
        intro hF
        replace hF := atI_e hF
        obtain ⟨r17, rfl, hF⟩ := hF
        refine rz_if_ne (tgt := 203) dX11_run_193 (by decide) (fun c => ?_) (fun c => ?_)
        · replace hF := ite_f hF c
          refine rz_goto (tgt := 26) dX11_run_203 (by decide) ?_
          refine ez_kp [true, true, false, false, false, true, false, false, false] rfl ?_
          exact hF
        · replace hF := ite_t hF c
          refine rz_aload_n dX11_run_196 rfl (show _ = some (some (vo x0)) from rfl) ?_
          replace hF := rcv_e hF
          obtain ⟨fs, hg, hF⟩ := hF
          refine rz_callV (mc' := 0) (ms' := 0) (mc := 0) (ms := 0) (st := []) dX11_run_197 cV_X11_297 rfl hg ⟨_, _, rfl⟩ rfl (Nat.le_of_ble_eq_true rfl) hF (fun v h18 hG => ?_)
          clear hF
          revert hG
          intro hF
          replace hF := atV_e hF
          obtain ⟨rfl, hF⟩ := hF
          refine rz_iconst dX11_run_200 rfl (by decide) ?_
          refine rz_istore (ls' := [some (vo x0), some (vi x1), none, none, none, some (vi 0), some (vi (w32 (f2 - 1))), some (vi e4), some (vi (w32 ((w32 (300 * e4)) + e10)))]) dX11_run_201 (Nat.le_of_ble_eq_true rfl) rfl ?_
          refine rz_goto (tgt := 26) dX11_run_203 (by decide) ?_
          refine ez_kp [true, true, false, false, false, true, false, false, false] rfl ?_
          exact hF
      · replace hF := ite_f hF c
        refine rz_aload_n dX11_run_122 rfl (show _ = some (some (vo x0)) from rfl) ?_
        refine rz_aload_n dX11_run_123 rfl (show _ = some (some (vo x0)) from rfl) ?_
        replace hF := rdO_e hF
        obtain ⟨fs, o19, hg, hv, hF⟩ := hF
        refine rz_getf dX11_run_124 fl_X11_13 hg hv ?_
        refine rz_iload dX11_run_127 (show _ = some (some (vi (w32 ((w32 (300 * e4)) + e10)))) from rfl) ?_
        replace hF := ldI_e hF
        obtain ⟨xs, hg, h0, h1, hF⟩ := hF
        refine rz_iald dX11_run_129 hg h0 h1 ?_
        generalize xs.getD _ 0 = e20 at hF ⊢
        refine rz_aload_n dX11_run_130 rfl (show _ = some (some (vo x0)) from rfl) ?_
        replace hF := rdO_e hF
        obtain ⟨fs, o21, hg, hv, hF⟩ := hF
        refine rz_getf dX11_run_131 fl_X11_16 hg hv ?_
        refine rz_iload dX11_run_134 (show _ = some (some (vi (w32 ((w32 (300 * e4)) + e10)))) from rfl) ?_
        replace hF := ldI_e hF
        obtain ⟨xs, hg, h0, h1, hF⟩ := hF
        refine rz_iald dX11_run_136 hg h0 h1 ?_
        generalize xs.getD _ 0 = e22 at hF ⊢
        refine rz_iload_n dX11_run_137 rfl (show _ = some (some (vi x1)) from rfl) ?_
        refine rz_aload_n dX11_run_138 rfl (show _ = some (some (vo x0)) from rfl) ?_
        replace hF := rdO_e hF
        obtain ⟨fs, o23, hg, hv, hF⟩ := hF
        refine rz_getf dX11_run_139 fl_X11_65 hg hv ?_
        refine rz_iload dX11_run_142 (show _ = some (some (vi (w32 (f2 - 1)))) from rfl) ?_
        replace hF := ldI_e hF
        obtain ⟨xs, hg, h0, h1, hF⟩ := hF
        refine rz_iald dX11_run_144 hg h0 h1 ?_
        generalize xs.getD _ 0 = e24 at hF ⊢
        refine rz_aload_n dX11_run_145 rfl (show _ = some (some (vo x0)) from rfl) ?_
        replace hF := rdO_e hF
        obtain ⟨fs, o25, hg, hv, hF⟩ := hF
        refine rz_getf dX11_run_146 fl_X11_68 hg hv ?_
        refine rz_iload dX11_run_149 (show _ = some (some (vi (w32 (f2 - 1)))) from rfl) ?_
        replace hF := ldI_e hF
        obtain ⟨xs, hg, h0, h1, hF⟩ := hF
        refine rz_iald dX11_run_151 hg h0 h1 ?_
        generalize xs.getD _ 0 = e26 at hF ⊢
        replace hF := rcv_e hF
        obtain ⟨fs, hg, hF⟩ := hF
        refine rz_callV (mc' := 0) (ms' := 0) (mc := 0) (ms := 0) (st := []) dX11_run_152 cV_X11_293 rfl hg ⟨_, _, rfl⟩ rfl (Nat.le_of_ble_eq_true rfl) hF (fun v h27 hG => ?_)
        clear hF
        revert hG
        intro hF
        replace hF := atV_e hF
        obtain ⟨rfl, hF⟩ := hF
        refine rz_aload_n dX11_run_155 rfl (show _ = some (some (vo x0)) from rfl) ?_
        replace hF := rdI_e hF
        obtain ⟨fs, f28, hg, hv, hF⟩ := hF
        refine rz_getf dX11_run_156 fl_X11_252 hg hv ?_
        refine rz_if_eq (tgt := 203) dX11_run_159 (by decide) (fun c => ?_) (fun c => ?_)
        · replace hF := ite_t hF c
          refine rz_goto (tgt := 26) dX11_run_203 (by decide) ?_
          refine ez_kp [true, true, false, false, false, true, false, false, false] rfl ?_
          exact hF
        · replace hF := ite_f hF c
          refine rz_aload_n dX11_run_162 rfl (show _ = some (some (vo x0)) from rfl) ?_
          replace hF := rcv_e hF
          obtain ⟨fs, hg, hF⟩ := hF
          refine rz_callV (mc' := 0) (ms' := 0) (mc := 0) (ms := 0) (st := []) dX11_run_163 cV_X11_297 rfl hg ⟨_, _, rfl⟩ rfl (Nat.le_of_ble_eq_true rfl) hF (fun v h29 hG => ?_)
          clear hF
          revert hG
          intro hF
          replace hF := atV_e hF
          obtain ⟨rfl, hF⟩ := hF
          refine rz_iconst dX11_run_166 rfl (by decide) ?_
          refine rz_istore (ls' := [some (vo x0), some (vi x1), none, none, none, some (vi 0), some (vi (w32 (f2 - 1))), some (vi e4), some (vi (w32 ((w32 (300 * e4)) + e10)))]) dX11_run_167 (Nat.le_of_ble_eq_true rfl) rfl ?_
          refine rz_aload_n dX11_run_169 rfl (show _ = some (some (vo x0)) from rfl) ?_
          refine rz_iconst dX11_run_170 rfl (by decide) ?_
          replace hF := wrF_e hF
          obtain ⟨fs, hg, hv, hF⟩ := hF
          refine rz_putf dX11_run_171 fl_X11_252 (Or.inl rfl) hg hv ?_
          refine rz_aload_n dX11_run_174 rfl (show _ = some (some (vo x0)) from rfl) ?_
          refine rz_iconst dX11_run_175 rfl (by decide) ?_
          replace hF := wrF_e hF
          obtain ⟨fs, hg, hv, hF⟩ := hF
          refine rz_putf dX11_run_176 fl_X11_259 (Or.inl rfl) hg hv ?_
          refine rz_goto (tgt := 203) dX11_run_179 (by decide) ?_
          refine rz_goto (tgt := 26) dX11_run_203 (by decide) ?_
          refine ez_kp [true, true, false, false, false, true, false, false, false] rfl ?_
          exact hF
    · replace hF := ite_t hF c
      refine rz_aload_n dX11_run_67 rfl (show _ = some (some (vo x0)) from rfl) ?_
      refine rz_dup dX11_run_68 (by rintro ⟨_, q⟩; cases q) ?_
      replace hF := rdI_e hF
      obtain ⟨fs, f32, hg, hv, hF⟩ := hF
      refine rz_getf dX11_run_69 fl_X11_273 hg hv ?_
      refine rz_iconst dX11_run_72 rfl (by decide) ?_
      refine rz_isub dX11_run_73 ?_
      replace hF := wrF_e hF
      obtain ⟨fs, hg, hv, hF⟩ := hF
      refine rz_putf dX11_run_74 fl_X11_273 (Or.inl rfl) hg hv ?_
      refine rz_iconst dX11_run_77 rfl (by decide) ?_
      refine rz_istore (ls' := [some (vo x0), some (vi x1), none, none, none, some (vi 1), some (vi (w32 (f2 - 1))), some (vi e4), none]) dX11_run_78 (Nat.le_of_ble_eq_true rfl) rfl ?_
      refine rz_goto (tgt := 203) dX11_run_80 (by decide) ?_
      refine rz_goto (tgt := 26) dX11_run_203 (by decide) ?_
      refine ez_kp [true, true, false, false, false, true, false, false, false] rfl ?_
      exact hF
theorem vX11_run {G : az_G} {d : Nat} {x0 : Nat} {x1 : Int} {x2 : Int} {x3 : Int} {x4 : Int} {h : az_H} {Q : Option az_V → az_H → Prop} (hF : wrF h x0 11 34 (.int) (vi 0) (fun h1 => rcv h1 x0 11 (cz G mX11_enter d 0 0 [vo x0, vi x1, vi x2, vi x3, vi x4] h1 (fun v h2 => atI v (fun r3 => wrF h2 x0 11 32 (.int) (vi 0) (fun h4 => wrF h4 x0 11 33 (.boolean) (vi 0) (fun h5 => pX11_run_26 G d x0 x1 r3 h5 Q))))))) : cz G mX11_run (d + 1) 0 0 [vo x0, vi x1, vi x2, vi x3, vi x4] h Q := by
  refine cz_of (ls := [some (vo x0), some (vi x1), some (vi x2), some (vi x3), some (vi x4), none, none, none, none]) (by decide +kernel) (Nat.le_of_ble_eq_true rfl) rfl ?_
  refine rz_aload_n dX11_run_0 rfl (show _ = some (some (vo x0)) from rfl) ?_
  refine rz_iconst dX11_run_1 rfl (by decide) ?_
  replace hF := wrF_e hF
  obtain ⟨fs, hg, hv, hF⟩ := hF
  refine rz_putf dX11_run_2 fl_X11_273 (Or.inl rfl) hg hv ?_
  refine rz_aload_n dX11_run_5 rfl (show _ = some (some (vo x0)) from rfl) ?_
  refine rz_iload_n dX11_run_6 rfl (show _ = some (some (vi x1)) from rfl) ?_
  refine rz_iload_n dX11_run_7 rfl (show _ = some (some (vi x2)) from rfl) ?_
  refine rz_iload_n dX11_run_8 rfl (show _ = some (some (vi x3)) from rfl) ?_
  refine rz_iload dX11_run_9 (show _ = some (some (vi x4)) from rfl) ?_
  replace hF := rcv_e hF
  obtain ⟨fs, hg, hF⟩ := hF
  refine rz_callV (mc' := 0) (ms' := 0) (mc := 0) (ms := 0) (st := []) dX11_run_11 cV_X11_289 rfl hg ⟨_, _, rfl⟩ rfl (Nat.le_of_ble_eq_true rfl) hF (fun v h2 hG => ?_)
  clear hF
  revert hG
  intro hF
  replace hF := atI_e hF
  obtain ⟨r3, rfl, hF⟩ := hF
  refine rz_istore (ls' := [some (vo x0), some (vi x1), some (vi x2), some (vi x3), some (vi x4), some (vi r3), none, none, none]) dX11_run_14 (Nat.le_of_ble_eq_true rfl) rfl ?_
  refine rz_aload_n dX11_run_16 rfl (show _ = some (some (vo x0)) from rfl) ?_
  refine rz_iconst dX11_run_17 rfl (by decide) ?_
  replace hF := wrF_e hF
  obtain ⟨fs, hg, hv, hF⟩ := hF
  refine rz_putf dX11_run_18 fl_X11_259 (Or.inl rfl) hg hv ?_
  refine rz_aload_n dX11_run_21 rfl (show _ = some (some (vo x0)) from rfl) ?_
  refine rz_iconst dX11_run_22 rfl (by decide) ?_
  replace hF := wrF_e hF
  obtain ⟨fs, hg, hv, hF⟩ := hF
  refine rz_putf dX11_run_23 fl_X11_252 (Or.inl rfl) hg hv ?_
  refine ez_kp [true, true, false, false, false, true, false, false, false] rfl ?_
  exact hF
def pX11_isBroken_21 (G : az_G) (d : Nat) (x0 : Nat) (x2 : Int) (x3 : Int) (h : az_H) (Q : Option az_V → az_H → Prop) : Prop := ez G mX11_isBroken (d + 1) 0 0 21 [some (vo x0), none, some (vi x2), some (vi x3)] [] h Q
def pX11_isBroken_69 (G : az_G) (d : Nat) (x0 : Nat) (h : az_H) (Q : Option az_V → az_H → Prop) : Prop := ez G mX11_isBroken (d + 1) 0 0 69 [some (vo x0), none, none, none] [] h Q
theorem vX11_isBroken_69 {G : az_G} {d : Nat} {x0 : Nat} {h : az_H} {Q : Option az_V → az_H → Prop} (hF : rdI h x0 11 33 (fun f1 => (if f1 = 0 then rcv h x0 11 (cz G mX11_pop d 0 0 [vo x0] h (fun v h3 => atI v (fun r4 => (if r4 = 0 then wrF h3 x0 11 33 (.boolean) (vi 0) (fun h6 => Q (some (vi 1)) h6) else wrF h3 x0 11 33 (.boolean) (vi 0) (fun h5 => Q (some (vi 0)) h5))))) else wrF h x0 11 33 (.boolean) (vi 0) (fun h2 => Q (some (vi 1)) h2)))) : pX11_isBroken_69 G d x0 h Q := by
  unfold pX11_isBroken_69
  refine rz_aload_n dX11_isBroken_69 rfl (show _ = some (some (vo x0)) from rfl) ?_
  replace hF := rdI_e hF
  obtain ⟨fs, f1, hg, hv, hF⟩ := hF
  refine rz_getf dX11_isBroken_70 fl_X11_252 hg hv ?_
  refine rz_if_ne (tgt := 83) dX11_isBroken_73 (by decide) (fun c => ?_) (fun c => ?_)
  · replace hF := ite_f hF c
    refine rz_iconst dX11_isBroken_83 rfl (by decide) ?_
    refine rz_goto (tgt := 88) dX11_isBroken_84 (by decide) ?_
    refine rz_istore_n (ls' := [some (vo x0), none, none, some (vi 1)]) dX11_isBroken_88 rfl (Nat.le_of_ble_eq_true rfl) rfl ?_
    refine rz_aload_n dX11_isBroken_89 rfl (show _ = some (some (vo x0)) from rfl) ?_
    refine rz_iconst dX11_isBroken_90 rfl (by decide) ?_
    replace hF := wrF_e hF
    obtain ⟨fs, hg, hv, hF⟩ := hF
    refine rz_putf dX11_isBroken_91 fl_X11_252 (Or.inl rfl) hg hv ?_
    refine rz_iload_n dX11_isBroken_94 rfl (show _ = some (some (vi 1)) from rfl) ?_
    exact rz_iret dX11_isBroken_95 (Or.inr rfl) hF
  · replace hF := ite_t hF c
    refine rz_aload_n dX11_isBroken_76 rfl (show _ = some (some (vo x0)) from rfl) ?_
    replace hF := rcv_e hF
    obtain ⟨fs, hg, hF⟩ := hF
    refine rz_callV (mc' := 0) (ms' := 0) (mc := 0) (ms := 0) (st := []) dX11_isBroken_77 cV_X11_266 rfl hg ⟨_, _, rfl⟩ rfl (Nat.le_of_ble_eq_true rfl) hF (fun v h3 hG => ?_)
    clear hF
    revert hG
    intro hF
    replace hF := atI_e hF
    obtain ⟨r4, rfl, hF⟩ := hF
    refine rz_if_ne (tgt := 87) dX11_isBroken_80 (by decide) (fun c => ?_) (fun c => ?_)
    · replace hF := ite_f hF c
      refine rz_iconst dX11_isBroken_87 rfl (by decide) ?_
      refine rz_istore_n (ls' := [some (vo x0), none, none, some (vi 0)]) dX11_isBroken_88 rfl (Nat.le_of_ble_eq_true rfl) rfl ?_
      refine rz_aload_n dX11_isBroken_89 rfl (show _ = some (some (vo x0)) from rfl) ?_
      refine rz_iconst dX11_isBroken_90 rfl (by decide) ?_
      replace hF := wrF_e hF
      obtain ⟨fs, hg, hv, hF⟩ := hF
      refine rz_putf dX11_isBroken_91 fl_X11_252 (Or.inl rfl) hg hv ?_
      refine rz_iload_n dX11_isBroken_94 rfl (show _ = some (some (vi 0)) from rfl) ?_
      exact rz_iret dX11_isBroken_95 (Or.inl rfl) hF
    · replace hF := ite_t hF c
      refine rz_iconst dX11_isBroken_83 rfl (by decide) ?_
      refine rz_goto (tgt := 88) dX11_isBroken_84 (by decide) ?_
      refine rz_istore_n (ls' := [some (vo x0), none, none, some (vi 1)]) dX11_isBroken_88 rfl (Nat.le_of_ble_eq_true rfl) rfl ?_
      refine rz_aload_n dX11_isBroken_89 rfl (show _ = some (some (vo x0)) from rfl) ?_
      refine rz_iconst dX11_isBroken_90 rfl (by decide) ?_
      replace hF := wrF_e hF
      obtain ⟨fs, hg, hv, hF⟩ := hF
      refine rz_putf dX11_isBroken_91 fl_X11_252 (Or.inl rfl) hg hv ?_
      refine rz_iload_n dX11_isBroken_94 rfl (show _ = some (some (vi 1)) from rfl) ?_
      exact rz_iret dX11_isBroken_95 (Or.inr rfl) hF
theorem vX11_isBroken_21 {G : az_G} {d : Nat} {x0 : Nat} {x2 : Int} {x3 : Int} {h : az_H} {Q : Option az_V → az_H → Prop} (hF : rdO h x0 11 10 (fun o1 => ldI h o1 (.int) x2 (fun e2 => (if w32 ((w32 (300 * x2)) + e2) ≤ x3 then pX11_isBroken_69 G d x0 h Q else rdI h x0 11 33 (fun f3 => (if f3 = 0 then rdO h x0 11 7 (fun o4 => ldI h o4 (.int) x3 (fun e5 => rdO h x0 11 8 (fun o6 => ldI h o6 (.int) x3 (fun e7 => rcv h x0 11 (cz G mX11_reckon d 0 0 [vo x0, vi e5, vi e7, vi 0, vi 0, vi 0] h (fun v h8 => atV v (pX11_isBroken_21 G d x0 x2 (w32 (x3 + 1)) h8 Q))))))) else pX11_isBroken_69 G d x0 h Q)))))) : pX11_isBroken_21 G d x0 x2 x3 h Q := by
  unfold pX11_isBroken_21
  refine rz_iload_n dX11_isBroken_21 rfl (show _ = some (some (vi x3)) from rfl) ?_
  refine rz_sipush (v := 300) dX11_isBroken_22 (by decide) (by decide) ?_
  refine rz_iload_n dX11_isBroken_25 rfl (show _ = some (some (vi x2)) from rfl) ?_
  refine rz_imul dX11_isBroken_26 ?_
  refine rz_aload_n dX11_isBroken_27 rfl (show _ = some (some (vo x0)) from rfl) ?_
  replace hF := rdO_e hF
  obtain ⟨fs, o1, hg, hv, hF⟩ := hF
  refine rz_getf dX11_isBroken_28 fl_X11_22 hg hv ?_
  refine rz_iload_n dX11_isBroken_31 rfl (show _ = some (some (vi x2)) from rfl) ?_
  replace hF := ldI_e hF
  obtain ⟨xs, hg, h0, h1, hF⟩ := hF
  refine rz_iald dX11_isBroken_32 hg h0 h1 ?_
  generalize xs.getD _ 0 = e2 at hF ⊢
  refine rz_iadd dX11_isBroken_33 ?_
  refine rz_icmp_ge (tgt := 69) dX11_isBroken_34 (by decide) (fun c => ?_) (fun c => ?_)
  · replace hF := ite_t hF c
    refine ez_kp [true, false, false, false] rfl ?_
    exact hF
  · replace hF := ite_f hF c
    refine rz_aload_n dX11_isBroken_37 rfl (show _ = some (some (vo x0)) from rfl) ?_
    replace hF := rdI_e hF
    obtain ⟨fs, f3, hg, hv, hF⟩ := hF
    refine rz_getf dX11_isBroken_38 fl_X11_252 hg hv ?_
    refine rz_if_ne (tgt := 69) dX11_isBroken_41 (by decide) (fun c => ?_) (fun c => ?_)
    · replace hF := ite_f hF c
      refine ez_kp [true, false, false, false] rfl ?_
      exact hF
    · replace hF := ite_t hF c
      refine rz_aload_n dX11_isBroken_44 rfl (show _ = some (some (vo x0)) from rfl) ?_
      refine rz_aload_n dX11_isBroken_45 rfl (show _ = some (some (vo x0)) from rfl) ?_
      replace hF := rdO_e hF
      obtain ⟨fs, o4, hg, hv, hF⟩ := hF
      refine rz_getf dX11_isBroken_46 fl_X11_13 hg hv ?_
      refine rz_iload_n dX11_isBroken_49 rfl (show _ = some (some (vi x3)) from rfl) ?_
      replace hF := ldI_e hF
      obtain ⟨xs, hg, h0, h1, hF⟩ := hF
      refine rz_iald dX11_isBroken_50 hg h0 h1 ?_
      generalize xs.getD _ 0 = e5 at hF ⊢
      refine rz_aload_n dX11_isBroken_51 rfl (show _ = some (some (vo x0)) from rfl) ?_
      replace hF := rdO_e hF
      obtain ⟨fs, o6, hg, hv, hF⟩ := hF
      refine rz_getf dX11_isBroken_52 fl_X11_16 hg hv ?_
      refine rz_iload_n dX11_isBroken_55 rfl (show _ = some (some (vi x3)) from rfl) ?_
      replace hF := ldI_e hF
      obtain ⟨xs, hg, h0, h1, hF⟩ := hF
      refine rz_iald dX11_isBroken_56 hg h0 h1 ?_
      generalize xs.getD _ 0 = e7 at hF ⊢
      refine rz_iconst dX11_isBroken_57 rfl (by decide) ?_
      refine rz_iconst dX11_isBroken_58 rfl (by decide) ?_
      refine rz_iconst dX11_isBroken_59 rfl (by decide) ?_
      replace hF := rcv_e hF
      obtain ⟨fs, hg, hF⟩ := hF
      refine rz_callV (mc' := 0) (ms' := 0) (mc := 0) (ms := 0) (st := []) dX11_isBroken_60 cV_X11_293 rfl hg ⟨_, _, rfl⟩ rfl (Nat.le_of_ble_eq_true rfl) hF (fun v h8 hG => ?_)
      clear hF
      revert hG
      intro hF
      replace hF := atV_e hF
      obtain ⟨rfl, hF⟩ := hF
      refine rz_iinc (ls' := [some (vo x0), none, some (vi x2), some (vi (w32 (x3 + 1)))]) dX11_isBroken_63 rfl (Nat.le_of_ble_eq_true rfl) rfl ?_
      refine rz_goto (tgt := 21) dX11_isBroken_66 (by decide) ?_
      exact hF
theorem vX11_isBroken {G : az_G} {d : Nat} {x0 : Nat} {x1 : Int} {h : az_H} {Q : Option az_V → az_H → Prop} (hF : wrF h x0 11 32 (.int) (vi 0) (fun h1 => wrF h1 x0 11 33 (.boolean) (vi 0) (fun h2 => pX11_isBroken_21 G d x0 (w32 (6 + x1)) (w32 (300 * (w32 (6 + x1)))) h2 Q))) : cz G mX11_isBroken (d + 1) 0 0 [vo x0, vi x1] h Q := by
  refine cz_of (ls := [some (vo x0), some (vi x1), none, none]) (by decide +kernel) (Nat.le_of_ble_eq_true rfl) rfl ?_
  refine rz_aload_n dX11_isBroken_0 rfl (show _ = some (some (vo x0)) from rfl) ?_
  refine rz_iconst dX11_isBroken_1 rfl (by decide) ?_
  replace hF := wrF_e hF
  obtain ⟨fs, hg, hv, hF⟩ := hF
  refine rz_putf dX11_isBroken_2 fl_X11_259 (Or.inl rfl) hg hv ?_
  refine rz_aload_n dX11_isBroken_5 rfl (show _ = some (some (vo x0)) from rfl) ?_
  refine rz_iconst dX11_isBroken_6 rfl (by decide) ?_
  replace hF := wrF_e hF
  obtain ⟨fs, hg, hv, hF⟩ := hF
  refine rz_putf dX11_isBroken_7 fl_X11_252 (Or.inl rfl) hg hv ?_
  refine rz_bipush (v := 6) dX11_isBroken_10 (by decide) (by decide) ?_
  refine rz_iload_n dX11_isBroken_12 rfl (show _ = some (some (vi x1)) from rfl) ?_
  refine rz_iadd dX11_isBroken_13 ?_
  refine rz_istore_n (ls' := [some (vo x0), some (vi x1), some (vi (w32 (6 + x1))), none]) dX11_isBroken_14 rfl (Nat.le_of_ble_eq_true rfl) rfl ?_
  refine rz_sipush (v := 300) dX11_isBroken_15 (by decide) (by decide) ?_
  refine rz_iload_n dX11_isBroken_18 rfl (show _ = some (some (vi (w32 (6 + x1)))) from rfl) ?_
  refine rz_imul dX11_isBroken_19 ?_
  refine rz_istore_n (ls' := [some (vo x0), some (vi x1), some (vi (w32 (6 + x1))), some (vi (w32 (300 * (w32 (6 + x1)))))]) dX11_isBroken_20 rfl (Nat.le_of_ble_eq_true rfl) rfl ?_
  refine ez_kp [true, false, true, true] rfl ?_
  exact hF
theorem vX11_isCall {G : az_G} {d : Nat} {x0 : Int} {x1 : Int} {x2 : Int} {x3 : Int} {h : az_H} {Q : Option az_V → az_H → Prop} (hF : cz G mX11_in d 0 0 [vl x0, vl 0, vl 3] h (fun v h1 => atI v (fun r2 => (if r2 = 0 then Q (some (vi 0)) h1 else cz G mX11_in d 0 0 [vl x1, vl 0, vl 5] h1 (fun v h3 => atI v (fun r4 => (if r4 = 0 then Q (some (vi 0)) h3 else cz G mX11_in d 0 0 [vl x2, vl ((-1000000)), vl 1000000] h3 (fun v h5 => atI v (fun r6 => (if r6 = 0 then Q (some (vi 0)) h5 else cz G mX11_in d 0 0 [vl x3, vl 0, vl 1000000] h5 (fun v h7 => atI v (fun r8 => (if r8 = 0 then Q (some (vi 0)) h7 else Q (some (vi 1)) h7))))))))))))) : cz G mX11_isCall (d + 1) 0 0 [vi x0, vi x1, vi x2, vi x3] h Q := by
  refine cz_of (ls := [some (vi x0), some (vi x1), some (vi x2), some (vi x3)]) (by decide +kernel) (Nat.le_of_ble_eq_true rfl) rfl ?_
  refine rz_iload_n dX11_isCall_0 rfl (show _ = some (some (vi x0)) from rfl) ?_
  refine rz_i2l dX11_isCall_1 ?_
  refine rz_lconst (v := 0) dX11_isCall_2 (by decide) (by decide) ?_
  refine rz_ldc2 (v := 3) dX11_isCall_3 k_1346 (by decide) ?_
  refine rz_callS (mc' := 0) (ms' := 0) (mc := 0) (ms := 0) (st := []) dX11_isCall_6 cS_X11_117 rfl rfl (Nat.le_of_ble_eq_true rfl) hF (fun v h1 hG => ?_)
  clear hF
  revert hG
  intro hF
  replace hF := atI_e hF
  obtain ⟨r2, rfl, hF⟩ := hF
  refine rz_if_eq (tgt := 54) dX11_isCall_9 (by decide) (fun c => ?_) (fun c => ?_)
  · replace hF := ite_t hF c
    refine rz_iconst dX11_isCall_54 rfl (by decide) ?_
    exact rz_iret dX11_isCall_55 (Or.inl rfl) hF
  · replace hF := ite_f hF c
    refine rz_iload_n dX11_isCall_12 rfl (show _ = some (some (vi x1)) from rfl) ?_
    refine rz_i2l dX11_isCall_13 ?_
    refine rz_lconst (v := 0) dX11_isCall_14 (by decide) (by decide) ?_
    refine rz_ldc2 (v := 5) dX11_isCall_15 k_1259 (by decide) ?_
    refine rz_callS (mc' := 0) (ms' := 0) (mc := 0) (ms := 0) (st := []) dX11_isCall_18 cS_X11_117 rfl rfl (Nat.le_of_ble_eq_true rfl) hF (fun v h3 hG => ?_)
    clear hF
    revert hG
    intro hF
    replace hF := atI_e hF
    obtain ⟨r4, rfl, hF⟩ := hF
    refine rz_if_eq (tgt := 54) dX11_isCall_21 (by decide) (fun c => ?_) (fun c => ?_)
    · replace hF := ite_t hF c
      refine rz_iconst dX11_isCall_54 rfl (by decide) ?_
      exact rz_iret dX11_isCall_55 (Or.inl rfl) hF
    · replace hF := ite_f hF c
      refine rz_iload_n dX11_isCall_24 rfl (show _ = some (some (vi x2)) from rfl) ?_
      refine rz_i2l dX11_isCall_25 ?_
      refine rz_ldc2 (v := (-1000000)) dX11_isCall_26 k_1349 (by decide) ?_
      refine rz_ldc2 (v := 1000000) dX11_isCall_29 k_1347 (by decide) ?_
      refine rz_callS (mc' := 0) (ms' := 0) (mc := 0) (ms := 0) (st := []) dX11_isCall_32 cS_X11_117 rfl rfl (Nat.le_of_ble_eq_true rfl) hF (fun v h5 hG => ?_)
      clear hF
      revert hG
      intro hF
      replace hF := atI_e hF
      obtain ⟨r6, rfl, hF⟩ := hF
      refine rz_if_eq (tgt := 54) dX11_isCall_35 (by decide) (fun c => ?_) (fun c => ?_)
      · replace hF := ite_t hF c
        refine rz_iconst dX11_isCall_54 rfl (by decide) ?_
        exact rz_iret dX11_isCall_55 (Or.inl rfl) hF
      · replace hF := ite_f hF c
        refine rz_iload_n dX11_isCall_38 rfl (show _ = some (some (vi x3)) from rfl) ?_
        refine rz_i2l dX11_isCall_39 ?_
        refine rz_lconst (v := 0) dX11_isCall_40 (by decide) (by decide) ?_
        refine rz_ldc2 (v := 1000000) dX11_isCall_41 k_1347 (by decide) ?_
        refine rz_callS (mc' := 0) (ms' := 0) (mc := 0) (ms := 0) (st := []) dX11_isCall_44 cS_X11_117 rfl rfl (Nat.le_of_ble_eq_true rfl) hF (fun v h7 hG => ?_)
        clear hF
        revert hG
        intro hF
        replace hF := atI_e hF
        obtain ⟨r8, rfl, hF⟩ := hF
        refine rz_if_eq (tgt := 54) dX11_isCall_47 (by decide) (fun c => ?_) (fun c => ?_)
        · replace hF := ite_t hF c
          refine rz_iconst dX11_isCall_54 rfl (by decide) ?_
          exact rz_iret dX11_isCall_55 (Or.inl rfl) hF
        · replace hF := ite_f hF c
          refine rz_iconst dX11_isCall_50 rfl (by decide) ?_
          refine rz_goto (tgt := 55) dX11_isCall_51 (by decide) ?_
          exact rz_iret dX11_isCall_55 (Or.inr rfl) hF
theorem vX11_begins {G : az_G} {d : Nat} {x0 : Nat} {h : az_H} {Q : Option az_V → az_H → Prop} (hF : rcv h x0 11 (cz G mX11_toStart d 0 0 [vo x0] h (fun v h1 => atV v (rdO h1 x0 11 23 (fun o2 => rcv h1 x0 11 (cz G mX11_save d 0 0 [vo x0, vo o2, vi 0] h1 (fun v h3 => atV v (wrF h3 x0 11 27 (.int) (vi 0) (fun h4 => Q none h4))))))))) : cz G mX11_begins (d + 1) 0 0 [vo x0] h Q := by
  refine cz_of (ls := [some (vo x0)]) (by decide +kernel) (Nat.le_of_ble_eq_true rfl) rfl ?_
  refine rz_aload_n dX11_begins_0 rfl (show _ = some (some (vo x0)) from rfl) ?_
  replace hF := rcv_e hF
  obtain ⟨fs, hg, hF⟩ := hF
  refine rz_callV (mc' := 0) (ms' := 0) (mc := 0) (ms := 0) (st := []) dX11_begins_1 cV_X11_317 rfl hg ⟨_, _, rfl⟩ rfl (Nat.le_of_ble_eq_true rfl) hF (fun v h1 hG => ?_)
  clear hF
  revert hG
  intro hF
  replace hF := atV_e hF
  obtain ⟨rfl, hF⟩ := hF
  refine rz_aload_n dX11_begins_4 rfl (show _ = some (some (vo x0)) from rfl) ?_
  refine rz_aload_n dX11_begins_5 rfl (show _ = some (some (vo x0)) from rfl) ?_
  replace hF := rdO_e hF
  obtain ⟨fs, o2, hg, hv, hF⟩ := hF
  refine rz_getf dX11_begins_6 fl_X11_41 hg hv ?_
  refine rz_iconst dX11_begins_9 rfl (by decide) ?_
  replace hF := rcv_e hF
  obtain ⟨fs, hg, hF⟩ := hF
  refine rz_callV (mc' := 0) (ms' := 0) (mc := 0) (ms := 0) (st := []) dX11_begins_10 cV_X11_276 rfl hg ⟨_, _, rfl⟩ rfl (Nat.le_of_ble_eq_true rfl) hF (fun v h3 hG => ?_)
  clear hF
  revert hG
  intro hF
  replace hF := atV_e hF
  obtain ⟨rfl, hF⟩ := hF
  refine rz_aload_n dX11_begins_13 rfl (show _ = some (some (vo x0)) from rfl) ?_
  refine rz_iconst dX11_begins_14 rfl (by decide) ?_
  replace hF := wrF_e hF
  obtain ⟨fs, hg, hv, hF⟩ := hF
  refine rz_putf dX11_begins_15 fl_X11_320 (Or.inl rfl) hg hv ?_
  exact rz_vret dX11_begins_18 trivial hF
def pX11_actor_59 (G : az_G) (d : Nat) (x0 : Nat) (x1 : Int) (x2 : Int) (x3 : Int) (x4 : Int) (h : az_H) (Q : Option az_V → az_H → Prop) : Prop := ez G mX11_actor (d + 1) 0 0 59 [some (vo x0), some (vi x1), some (vi x2), some (vi x3), some (vi x4)] [] h Q
theorem vX11_actor_59 {G : az_G} {d : Nat} {x0 : Nat} {x1 : Int} {x2 : Int} {x3 : Int} {x4 : Int} {h : az_H} {Q : Option az_V → az_H → Prop} (hF : rdO h x0 11 24 (fun o1 => stI h o1 .int x1 x2 (fun h2 => rdO h2 x0 11 25 (fun o3 => stI h2 o3 .int x1 x3 (fun h4 => rdO h4 x0 11 26 (fun o5 => stI h4 o5 .int x1 x4 (fun h6 => rcv h6 x0 11 (cz G mX11_begins d 0 0 [vo x0] h6 (fun v h7 => atV v (Q (some (vi 1)) h7)))))))))) : pX11_actor_59 G d x0 x1 x2 x3 x4 h Q := by
  unfold pX11_actor_59
  refine rz_aload_n dX11_actor_59 rfl (show _ = some (some (vo x0)) from rfl) ?_
  replace hF := rdO_e hF
  obtain ⟨fs, o1, hg, hv, hF⟩ := hF
  refine rz_getf dX11_actor_60 fl_X11_44 hg hv ?_
  refine rz_iload_n dX11_actor_63 rfl (show _ = some (some (vi x1)) from rfl) ?_
  refine rz_iload_n dX11_actor_64 rfl (show _ = some (some (vi x2)) from rfl) ?_
  replace hF := stI_e hF
  obtain ⟨xs, hg, h0, h1, hF⟩ := hF
  refine rz_iast dX11_actor_65 hg h0 h1 ?_
  refine rz_aload_n dX11_actor_66 rfl (show _ = some (some (vo x0)) from rfl) ?_
  replace hF := rdO_e hF
  obtain ⟨fs, o3, hg, hv, hF⟩ := hF
  refine rz_getf dX11_actor_67 fl_X11_47 hg hv ?_
  refine rz_iload_n dX11_actor_70 rfl (show _ = some (some (vi x1)) from rfl) ?_
  refine rz_iload_n dX11_actor_71 rfl (show _ = some (some (vi x3)) from rfl) ?_
  replace hF := stI_e hF
  obtain ⟨xs, hg, h0, h1, hF⟩ := hF
  refine rz_iast dX11_actor_72 hg h0 h1 ?_
  refine rz_aload_n dX11_actor_73 rfl (show _ = some (some (vo x0)) from rfl) ?_
  replace hF := rdO_e hF
  obtain ⟨fs, o5, hg, hv, hF⟩ := hF
  refine rz_getf dX11_actor_74 fl_X11_50 hg hv ?_
  refine rz_iload_n dX11_actor_77 rfl (show _ = some (some (vi x1)) from rfl) ?_
  refine rz_iload dX11_actor_78 (show _ = some (some (vi x4)) from rfl) ?_
  replace hF := stI_e hF
  obtain ⟨xs, hg, h0, h1, hF⟩ := hF
  refine rz_iast dX11_actor_80 hg h0 h1 ?_
  refine rz_aload_n dX11_actor_81 rfl (show _ = some (some (vo x0)) from rfl) ?_
  replace hF := rcv_e hF
  obtain ⟨fs, hg, hF⟩ := hF
  refine rz_callV (mc' := 0) (ms' := 0) (mc := 0) (ms := 0) (st := []) dX11_actor_82 cV_X11_314 rfl hg ⟨_, _, rfl⟩ rfl (Nat.le_of_ble_eq_true rfl) hF (fun v h7 hG => ?_)
  clear hF
  revert hG
  intro hF
  replace hF := atV_e hF
  obtain ⟨rfl, hF⟩ := hF
  refine rz_iconst dX11_actor_85 rfl (by decide) ?_
  exact rz_iret dX11_actor_86 trivial hF
theorem vX11_actor {G : az_G} {d : Nat} {x0 : Nat} {x1 : Int} {x2 : Int} {x3 : Int} {x4 : Int} {h : az_H} {Q : Option az_V → az_H → Prop} (hF : cz G mX11_in d 0 0 [vl x1, vl 0, vl 3] h (fun v h1 => atI v (fun r2 => (if r2 = 0 then Q (some (vi ((-1)))) h1 else cz G mX11_in d 0 0 [vl x2, vl 0, vl 1000000] h1 (fun v h3 => atI v (fun r4 => (if r4 = 0 then Q (some (vi ((-1)))) h3 else cz G mX11_in d 0 0 [vl x3, vl ((-1)), vl 5] h3 (fun v h5 => atI v (fun r6 => (if r6 = 0 then Q (some (vi ((-1)))) h5 else (if x3 < 0 then pX11_actor_59 G d x0 x1 x2 x3 x4 h5 Q else cz G mX11_in d 0 0 [vl x4, vl ((-1000000)), vl 1000000] h5 (fun v h7 => atI v (fun r8 => (if r8 = 0 then Q (some (vi ((-1)))) h7 else pX11_actor_59 G d x0 x1 x2 x3 x4 h7 Q)))))))))))))) : cz G mX11_actor (d + 1) 0 0 [vo x0, vi x1, vi x2, vi x3, vi x4] h Q := by
  refine cz_of (ls := [some (vo x0), some (vi x1), some (vi x2), some (vi x3), some (vi x4)]) (by decide +kernel) (Nat.le_of_ble_eq_true rfl) rfl ?_
  refine rz_iload_n dX11_actor_0 rfl (show _ = some (some (vi x1)) from rfl) ?_
  refine rz_i2l dX11_actor_1 ?_
  refine rz_lconst (v := 0) dX11_actor_2 (by decide) (by decide) ?_
  refine rz_ldc2 (v := 3) dX11_actor_3 k_1346 (by decide) ?_
  refine rz_callS (mc' := 0) (ms' := 0) (mc := 0) (ms := 0) (st := []) dX11_actor_6 cS_X11_117 rfl rfl (Nat.le_of_ble_eq_true rfl) hF (fun v h1 hG => ?_)
  clear hF
  revert hG
  intro hF
  replace hF := atI_e hF
  obtain ⟨r2, rfl, hF⟩ := hF
  refine rz_if_eq (tgt := 57) dX11_actor_9 (by decide) (fun c => ?_) (fun c => ?_)
  · replace hF := ite_t hF c
    refine rz_iconst dX11_actor_57 rfl (by decide) ?_
    exact rz_iret dX11_actor_58 trivial hF
  · replace hF := ite_f hF c
    refine rz_iload_n dX11_actor_12 rfl (show _ = some (some (vi x2)) from rfl) ?_
    refine rz_i2l dX11_actor_13 ?_
    refine rz_lconst (v := 0) dX11_actor_14 (by decide) (by decide) ?_
    refine rz_ldc2 (v := 1000000) dX11_actor_15 k_1347 (by decide) ?_
    refine rz_callS (mc' := 0) (ms' := 0) (mc := 0) (ms := 0) (st := []) dX11_actor_18 cS_X11_117 rfl rfl (Nat.le_of_ble_eq_true rfl) hF (fun v h3 hG => ?_)
    clear hF
    revert hG
    intro hF
    replace hF := atI_e hF
    obtain ⟨r4, rfl, hF⟩ := hF
    refine rz_if_eq (tgt := 57) dX11_actor_21 (by decide) (fun c => ?_) (fun c => ?_)
    · replace hF := ite_t hF c
      refine rz_iconst dX11_actor_57 rfl (by decide) ?_
      exact rz_iret dX11_actor_58 trivial hF
    · replace hF := ite_f hF c
      refine rz_iload_n dX11_actor_24 rfl (show _ = some (some (vi x3)) from rfl) ?_
      refine rz_i2l dX11_actor_25 ?_
      refine rz_ldc2 (v := (-1)) dX11_actor_26 k_1348 (by decide) ?_
      refine rz_ldc2 (v := 5) dX11_actor_29 k_1259 (by decide) ?_
      refine rz_callS (mc' := 0) (ms' := 0) (mc := 0) (ms := 0) (st := []) dX11_actor_32 cS_X11_117 rfl rfl (Nat.le_of_ble_eq_true rfl) hF (fun v h5 hG => ?_)
      clear hF
      revert hG
      intro hF
      replace hF := atI_e hF
      obtain ⟨r6, rfl, hF⟩ := hF
      refine rz_if_eq (tgt := 57) dX11_actor_35 (by decide) (fun c => ?_) (fun c => ?_)
      · replace hF := ite_t hF c
        refine rz_iconst dX11_actor_57 rfl (by decide) ?_
        exact rz_iret dX11_actor_58 trivial hF
      · replace hF := ite_f hF c
        refine rz_iload_n dX11_actor_38 rfl (show _ = some (some (vi x3)) from rfl) ?_
        refine rz_if_lt (tgt := 59) dX11_actor_39 (by decide) (fun c => ?_) (fun c => ?_)
        · replace hF := ite_t hF c
          exact hF
        · replace hF := ite_f hF c
          refine rz_iload dX11_actor_42 (show _ = some (some (vi x4)) from rfl) ?_
          refine rz_i2l dX11_actor_44 ?_
          refine rz_ldc2 (v := (-1000000)) dX11_actor_45 k_1349 (by decide) ?_
          refine rz_ldc2 (v := 1000000) dX11_actor_48 k_1347 (by decide) ?_
          refine rz_callS (mc' := 0) (ms' := 0) (mc := 0) (ms := 0) (st := []) dX11_actor_51 cS_X11_117 rfl rfl (Nat.le_of_ble_eq_true rfl) hF (fun v h7 hG => ?_)
          clear hF
          revert hG
          intro hF
          replace hF := atI_e hF
          obtain ⟨r8, rfl, hF⟩ := hF
          refine rz_if_ne (tgt := 59) dX11_actor_54 (by decide) (fun c => ?_) (fun c => ?_)
          · replace hF := ite_f hF c
            exact hF
          · replace hF := ite_t hF c
            refine rz_iconst dX11_actor_57 rfl (by decide) ?_
            exact rz_iret dX11_actor_58 trivial hF
theorem vX11_call {G : az_G} {d : Nat} {x0 : Nat} {x1 : Int} {x2 : Int} {x3 : Int} {x4 : Int} {h : az_H} {Q : Option az_V → az_H → Prop} (hF : cz G mX11_isCall d 0 0 [vi x1, vi x2, vi x3, vi x4] h (fun v h1 => atI v (fun r2 => (if r2 = 0 then Q (some (vi ((-1)))) h1 else rdO h1 x0 11 23 (fun o3 => rcv h1 x0 11 (cz G mX11_load d 0 0 [vo x0, vo o3, vi 0] h1 (fun v h4 => atV v (rcv h4 x0 11 (cz G mX11_run d 0 0 [vo x0, vi x1, vi x2, vi x3, vi x4] h4 (fun v h5 => atI v (fun r6 => rdO h5 x0 11 23 (fun o7 => rcv h5 x0 11 (cz G mX11_save d 0 0 [vo x0, vo o7, vi 0] h5 (fun v h8 => atV v (rdI h8 x0 11 27 (fun f9 => wrF h8 x0 11 27 (.int) (vi (w32 (f9 + 1))) (fun h10 => (if r6 = 0 then Q (some (vi 0)) h10 else Q (some (vi 1)) h10)))))))))))))))))) : cz G mX11_call (d + 1) 0 0 [vo x0, vi x1, vi x2, vi x3, vi x4] h Q := by
  refine cz_of (ls := [some (vo x0), some (vi x1), some (vi x2), some (vi x3), some (vi x4), none]) (by decide +kernel) (Nat.le_of_ble_eq_true rfl) rfl ?_
  refine rz_iload_n dX11_call_0 rfl (show _ = some (some (vi x1)) from rfl) ?_
  refine rz_iload_n dX11_call_1 rfl (show _ = some (some (vi x2)) from rfl) ?_
  refine rz_iload_n dX11_call_2 rfl (show _ = some (some (vi x3)) from rfl) ?_
  refine rz_iload dX11_call_3 (show _ = some (some (vi x4)) from rfl) ?_
  refine rz_callS (mc' := 0) (ms' := 0) (mc := 0) (ms := 0) (st := []) dX11_call_5 cS_X11_323 rfl rfl (Nat.le_of_ble_eq_true rfl) hF (fun v h1 hG => ?_)
  clear hF
  revert hG
  intro hF
  replace hF := atI_e hF
  obtain ⟨r2, rfl, hF⟩ := hF
  refine rz_if_ne (tgt := 13) dX11_call_8 (by decide) (fun c => ?_) (fun c => ?_)
  · replace hF := ite_f hF c
    refine rz_aload_n dX11_call_13 rfl (show _ = some (some (vo x0)) from rfl) ?_
    refine rz_aload_n dX11_call_14 rfl (show _ = some (some (vo x0)) from rfl) ?_
    replace hF := rdO_e hF
    obtain ⟨fs, o3, hg, hv, hF⟩ := hF
    refine rz_getf dX11_call_15 fl_X11_41 hg hv ?_
    refine rz_iconst dX11_call_18 rfl (by decide) ?_
    replace hF := rcv_e hF
    obtain ⟨fs, hg, hF⟩ := hF
    refine rz_callV (mc' := 0) (ms' := 0) (mc := 0) (ms := 0) (st := []) dX11_call_19 cV_X11_280 rfl hg ⟨_, _, rfl⟩ rfl (Nat.le_of_ble_eq_true rfl) hF (fun v h4 hG => ?_)
    clear hF
    revert hG
    intro hF
    replace hF := atV_e hF
    obtain ⟨rfl, hF⟩ := hF
    refine rz_aload_n dX11_call_22 rfl (show _ = some (some (vo x0)) from rfl) ?_
    refine rz_iload_n dX11_call_23 rfl (show _ = some (some (vi x1)) from rfl) ?_
    refine rz_iload_n dX11_call_24 rfl (show _ = some (some (vi x2)) from rfl) ?_
    refine rz_iload_n dX11_call_25 rfl (show _ = some (some (vi x3)) from rfl) ?_
    refine rz_iload dX11_call_26 (show _ = some (some (vi x4)) from rfl) ?_
    replace hF := rcv_e hF
    obtain ⟨fs, hg, hF⟩ := hF
    refine rz_callV (mc' := 0) (ms' := 0) (mc := 0) (ms := 0) (st := []) dX11_call_28 cV_X11_326 rfl hg ⟨_, _, rfl⟩ rfl (Nat.le_of_ble_eq_true rfl) hF (fun v h5 hG => ?_)
    clear hF
    revert hG
    intro hF
    replace hF := atI_e hF
    obtain ⟨r6, rfl, hF⟩ := hF
    refine rz_istore (ls' := [some (vo x0), some (vi x1), some (vi x2), some (vi x3), some (vi x4), some (vi r6)]) dX11_call_31 (Nat.le_of_ble_eq_true rfl) rfl ?_
    refine rz_aload_n dX11_call_33 rfl (show _ = some (some (vo x0)) from rfl) ?_
    refine rz_aload_n dX11_call_34 rfl (show _ = some (some (vo x0)) from rfl) ?_
    replace hF := rdO_e hF
    obtain ⟨fs, o7, hg, hv, hF⟩ := hF
    refine rz_getf dX11_call_35 fl_X11_41 hg hv ?_
    refine rz_iconst dX11_call_38 rfl (by decide) ?_
    replace hF := rcv_e hF
    obtain ⟨fs, hg, hF⟩ := hF
    refine rz_callV (mc' := 0) (ms' := 0) (mc := 0) (ms := 0) (st := []) dX11_call_39 cV_X11_276 rfl hg ⟨_, _, rfl⟩ rfl (Nat.le_of_ble_eq_true rfl) hF (fun v h8 hG => ?_)
    clear hF
    revert hG
    intro hF
    replace hF := atV_e hF
    obtain ⟨rfl, hF⟩ := hF
    refine rz_aload_n dX11_call_42 rfl (show _ = some (some (vo x0)) from rfl) ?_
    refine rz_dup dX11_call_43 (by rintro ⟨_, q⟩; cases q) ?_
    replace hF := rdI_e hF
    obtain ⟨fs, f9, hg, hv, hF⟩ := hF
    refine rz_getf dX11_call_44 fl_X11_320 hg hv ?_
    refine rz_iconst dX11_call_47 rfl (by decide) ?_
    refine rz_iadd dX11_call_48 ?_
    replace hF := wrF_e hF
    obtain ⟨fs, hg, hv, hF⟩ := hF
    refine rz_putf dX11_call_49 fl_X11_320 (Or.inl rfl) hg hv ?_
    refine rz_iload dX11_call_52 (show _ = some (some (vi r6)) from rfl) ?_
    refine rz_if_eq (tgt := 61) dX11_call_54 (by decide) (fun c => ?_) (fun c => ?_)
    · replace hF := ite_t hF c
      refine rz_iconst dX11_call_61 rfl (by decide) ?_
      exact rz_iret dX11_call_62 trivial hF
    · replace hF := ite_f hF c
      refine rz_iconst dX11_call_57 rfl (by decide) ?_
      refine rz_goto (tgt := 62) dX11_call_58 (by decide) ?_
      exact rz_iret dX11_call_62 trivial hF
  · replace hF := ite_t hF c
    refine rz_iconst dX11_call_11 rfl (by decide) ?_
    exact rz_iret dX11_call_12 trivial hF
theorem vX11_start {G : az_G} {d : Nat} {x0 : Nat} {h : az_H} {Q : Option az_V → az_H → Prop} (hF : rdI h x0 11 27 (fun f1 => rcv h x0 11 (cz G mX11_begins d 0 0 [vo x0] h (fun v h2 => atV v (Q (some (vi f1)) h2))))) : cz G mX11_start (d + 1) 0 0 [vo x0] h Q := by
  refine cz_of (ls := [some (vo x0), none]) (by decide +kernel) (Nat.le_of_ble_eq_true rfl) rfl ?_
  refine rz_aload_n dX11_start_0 rfl (show _ = some (some (vo x0)) from rfl) ?_
  replace hF := rdI_e hF
  obtain ⟨fs, f1, hg, hv, hF⟩ := hF
  refine rz_getf dX11_start_1 fl_X11_320 hg hv ?_
  refine rz_istore_n (ls' := [some (vo x0), some (vi f1)]) dX11_start_4 rfl (Nat.le_of_ble_eq_true rfl) rfl ?_
  refine rz_aload_n dX11_start_5 rfl (show _ = some (some (vo x0)) from rfl) ?_
  replace hF := rcv_e hF
  obtain ⟨fs, hg, hF⟩ := hF
  refine rz_callV (mc' := 0) (ms' := 0) (mc := 0) (ms := 0) (st := []) dX11_start_6 cV_X11_314 rfl hg ⟨_, _, rfl⟩ rfl (Nat.le_of_ble_eq_true rfl) hF (fun v h2 hG => ?_)
  clear hF
  revert hG
  intro hF
  replace hF := atV_e hF
  obtain ⟨rfl, hF⟩ := hF
  refine rz_iload_n dX11_start_9 rfl (show _ = some (some (vi f1)) from rfl) ?_
  exact rz_iret dX11_start_10 trivial hF
theorem vX11_state {G : az_G} {d : Nat} {x0 : Nat} {x1 : Int} {h : az_H} {Q : Option az_V → az_H → Prop} (hF : cz G mX11_in d 0 0 [vl x1, vl 0, vl 18] h (fun v h1 => atI v (fun r2 => (if r2 = 0 then Q (some (vi ((-1)))) h1 else rdO h1 x0 11 23 (fun o3 => ldI h1 o3 (.int) x1 (fun e4 => Q (some (vi e4)) h1)))))) : cz G mX11_state (d + 1) 0 0 [vo x0, vi x1] h Q := by
  refine cz_of (ls := [some (vo x0), some (vi x1)]) (by decide +kernel) (Nat.le_of_ble_eq_true rfl) rfl ?_
  refine rz_iload_n dX11_state_0 rfl (show _ = some (some (vi x1)) from rfl) ?_
  refine rz_i2l dX11_state_1 ?_
  refine rz_lconst (v := 0) dX11_state_2 (by decide) (by decide) ?_
  refine rz_ldc2 (v := 18) dX11_state_3 k_1421 (by decide) ?_
  refine rz_callS (mc' := 0) (ms' := 0) (mc := 0) (ms := 0) (st := []) dX11_state_6 cS_X11_117 rfl rfl (Nat.le_of_ble_eq_true rfl) hF (fun v h1 hG => ?_)
  clear hF
  revert hG
  intro hF
  replace hF := atI_e hF
  obtain ⟨r2, rfl, hF⟩ := hF
  refine rz_if_eq (tgt := 21) dX11_state_9 (by decide) (fun c => ?_) (fun c => ?_)
  · replace hF := ite_t hF c
    refine rz_iconst dX11_state_21 rfl (by decide) ?_
    exact rz_iret dX11_state_22 trivial hF
  · replace hF := ite_f hF c
    refine rz_aload_n dX11_state_12 rfl (show _ = some (some (vo x0)) from rfl) ?_
    replace hF := rdO_e hF
    obtain ⟨fs, o3, hg, hv, hF⟩ := hF
    refine rz_getf dX11_state_13 fl_X11_41 hg hv ?_
    refine rz_iload_n dX11_state_16 rfl (show _ = some (some (vi x1)) from rfl) ?_
    replace hF := ldI_e hF
    obtain ⟨xs, hg, h0, h1, hF⟩ := hF
    refine rz_iald dX11_state_17 hg h0 h1 ?_
    generalize xs.getD _ 0 = e4 at hF ⊢
    refine rz_goto (tgt := 22) dX11_state_18 (by decide) ?_
    exact rz_iret dX11_state_22 trivial hF
theorem vX11_isRule {G : az_G} {d : Nat} {x0 : Nat} {x1 : Int} {h : az_H} {Q : Option az_V → az_H → Prop} (hF : rdI h x0 11 13 (fun f1 => cz G mX11_in d 0 0 [vl x1, vl 0, vl (w32 (f1 - 1))] h (fun v h2 => atI v (fun r3 => (az_fit (.boolean) (vi r3) ∧ Q (some (vi r3)) h2))))) : cz G mX11_isRule (d + 1) 0 0 [vo x0, vi x1] h Q := by
  refine cz_of (ls := [some (vo x0), some (vi x1)]) (by decide +kernel) (Nat.le_of_ble_eq_true rfl) rfl ?_
  refine rz_iload_n dX11_isRule_0 rfl (show _ = some (some (vi x1)) from rfl) ?_
  refine rz_i2l dX11_isRule_1 ?_
  refine rz_lconst (v := 0) dX11_isRule_2 (by decide) (by decide) ?_
  refine rz_aload_n dX11_isRule_3 rfl (show _ = some (some (vo x0)) from rfl) ?_
  replace hF := rdI_e hF
  obtain ⟨fs, f1, hg, hv, hF⟩ := hF
  refine rz_getf dX11_isRule_4 fl_X11_245 hg hv ?_
  refine rz_iconst dX11_isRule_7 rfl (by decide) ?_
  refine rz_isub dX11_isRule_8 ?_
  refine rz_i2l dX11_isRule_9 ?_
  refine rz_callS (mc' := 0) (ms' := 0) (mc := 0) (ms := 0) (st := []) dX11_isRule_10 cS_X11_117 rfl rfl (Nat.le_of_ble_eq_true rfl) hF (fun v h2 hG => ?_)
  clear hF
  revert hG
  intro hF
  replace hF := atI_e hF
  obtain ⟨r3, rfl, hF⟩ := hF
  exact rz_iret dX11_isRule_13 hF.1 hF.2
theorem vX11_holds {G : az_G} {d : Nat} {x0 : Nat} {x1 : Int} {h : az_H} {Q : Option az_V → az_H → Prop} (hF : rcv h x0 11 (cz G mX11_isRule d 0 0 [vo x0, vi x1] h (fun v h1 => atI v (fun r2 => (if r2 = 0 then Q (some (vi ((-1)))) h1 else rdO h1 x0 11 23 (fun o3 => rcv h1 x0 11 (cz G mX11_load d 0 0 [vo x0, vo o3, vi 0] h1 (fun v h4 => atV v (rcv h4 x0 11 (cz G mX11_isBroken d 0 0 [vo x0, vi x1] h4 (fun v h5 => atI v (fun r6 => (if r6 = 0 then Q (some (vi 1)) h5 else Q (some (vi 0)) h5))))))))))))) : cz G mX11_holds (d + 1) 0 0 [vo x0, vi x1] h Q := by
  refine cz_of (ls := [some (vo x0), some (vi x1)]) (by decide +kernel) (Nat.le_of_ble_eq_true rfl) rfl ?_
  refine rz_aload_n dX11_holds_0 rfl (show _ = some (some (vo x0)) from rfl) ?_
  refine rz_iload_n dX11_holds_1 rfl (show _ = some (some (vi x1)) from rfl) ?_
  replace hF := rcv_e hF
  obtain ⟨fs, hg, hF⟩ := hF
  refine rz_callV (mc' := 0) (ms' := 0) (mc := 0) (ms := 0) (st := []) dX11_holds_2 cV_X11_331 rfl hg ⟨_, _, rfl⟩ rfl (Nat.le_of_ble_eq_true rfl) hF (fun v h1 hG => ?_)
  clear hF
  revert hG
  intro hF
  replace hF := atI_e hF
  obtain ⟨r2, rfl, hF⟩ := hF
  refine rz_if_ne (tgt := 10) dX11_holds_5 (by decide) (fun c => ?_) (fun c => ?_)
  · replace hF := ite_f hF c
    refine rz_aload_n dX11_holds_10 rfl (show _ = some (some (vo x0)) from rfl) ?_
    refine rz_aload_n dX11_holds_11 rfl (show _ = some (some (vo x0)) from rfl) ?_
    replace hF := rdO_e hF
    obtain ⟨fs, o3, hg, hv, hF⟩ := hF
    refine rz_getf dX11_holds_12 fl_X11_41 hg hv ?_
    refine rz_iconst dX11_holds_15 rfl (by decide) ?_
    replace hF := rcv_e hF
    obtain ⟨fs, hg, hF⟩ := hF
    refine rz_callV (mc' := 0) (ms' := 0) (mc := 0) (ms := 0) (st := []) dX11_holds_16 cV_X11_280 rfl hg ⟨_, _, rfl⟩ rfl (Nat.le_of_ble_eq_true rfl) hF (fun v h4 hG => ?_)
    clear hF
    revert hG
    intro hF
    replace hF := atV_e hF
    obtain ⟨rfl, hF⟩ := hF
    refine rz_aload_n dX11_holds_19 rfl (show _ = some (some (vo x0)) from rfl) ?_
    refine rz_iload_n dX11_holds_20 rfl (show _ = some (some (vi x1)) from rfl) ?_
    replace hF := rcv_e hF
    obtain ⟨fs, hg, hF⟩ := hF
    refine rz_callV (mc' := 0) (ms' := 0) (mc := 0) (ms := 0) (st := []) dX11_holds_21 cV_X11_334 rfl hg ⟨_, _, rfl⟩ rfl (Nat.le_of_ble_eq_true rfl) hF (fun v h5 hG => ?_)
    clear hF
    revert hG
    intro hF
    replace hF := atI_e hF
    obtain ⟨r6, rfl, hF⟩ := hF
    refine rz_if_eq (tgt := 31) dX11_holds_24 (by decide) (fun c => ?_) (fun c => ?_)
    · replace hF := ite_t hF c
      refine rz_iconst dX11_holds_31 rfl (by decide) ?_
      exact rz_iret dX11_holds_32 trivial hF
    · replace hF := ite_f hF c
      refine rz_iconst dX11_holds_27 rfl (by decide) ?_
      refine rz_goto (tgt := 32) dX11_holds_28 (by decide) ?_
      exact rz_iret dX11_holds_32 trivial hF
  · replace hF := ite_t hF c
    refine rz_iconst dX11_holds_8 rfl (by decide) ?_
    exact rz_iret dX11_holds_9 trivial hF
theorem vX11_choice {G : az_G} {d : Nat} {x0 : Nat} {x1 : Int} {x2 : Int} {x3 : Int} {x4 : Int} {h : az_H} {Q : Option az_V → az_H → Prop} (hF : cz G mX11_isCall d 0 0 [vi x1, vi x2, vi x3, vi x4] h (fun v h1 => atI v (fun r2 => (if r2 = 0 then Q (some (vi ((-1)))) h1 else rdI h1 x0 11 40 (fun f3 => (if f3 = 30 then Q (some (vi ((-3)))) h1 else rdO h1 x0 11 41 (fun o4 => rdI h1 x0 11 40 (fun f5 => stI h1 o4 .int f5 x1 (fun h6 => rdO h6 x0 11 42 (fun o7 => rdI h6 x0 11 40 (fun f8 => stI h6 o7 .int f8 x2 (fun h9 => rdO h9 x0 11 43 (fun o10 => rdI h9 x0 11 40 (fun f11 => stI h9 o10 .int f11 x3 (fun h12 => rdO h12 x0 11 44 (fun o13 => rdI h12 x0 11 40 (fun f14 => stI h12 o13 .int f14 x4 (fun h15 => rdI h15 x0 11 40 (fun f16 => wrF h15 x0 11 40 (.int) (vi (w32 (f16 + 1))) (fun h17 => rdI h17 x0 11 40 (fun f18 => Q (some (vi (w32 (f18 - 1)))) h17))))))))))))))))))))) : cz G mX11_choice (d + 1) 0 0 [vo x0, vi x1, vi x2, vi x3, vi x4] h Q := by
  refine cz_of (ls := [some (vo x0), some (vi x1), some (vi x2), some (vi x3), some (vi x4)]) (by decide +kernel) (Nat.le_of_ble_eq_true rfl) rfl ?_
  refine rz_iload_n dX11_choice_0 rfl (show _ = some (some (vi x1)) from rfl) ?_
  refine rz_iload_n dX11_choice_1 rfl (show _ = some (some (vi x2)) from rfl) ?_
  refine rz_iload_n dX11_choice_2 rfl (show _ = some (some (vi x3)) from rfl) ?_
  refine rz_iload dX11_choice_3 (show _ = some (some (vi x4)) from rfl) ?_
  refine rz_callS (mc' := 0) (ms' := 0) (mc := 0) (ms := 0) (st := []) dX11_choice_5 cS_X11_323 rfl rfl (Nat.le_of_ble_eq_true rfl) hF (fun v h1 hG => ?_)
  clear hF
  revert hG
  intro hF
  replace hF := atI_e hF
  obtain ⟨r2, rfl, hF⟩ := hF
  refine rz_if_ne (tgt := 13) dX11_choice_8 (by decide) (fun c => ?_) (fun c => ?_)
  · replace hF := ite_f hF c
    refine rz_aload_n dX11_choice_13 rfl (show _ = some (some (vo x0)) from rfl) ?_
    replace hF := rdI_e hF
    obtain ⟨fs, f3, hg, hv, hF⟩ := hF
    refine rz_getf dX11_choice_14 fl_X11_337 hg hv ?_
    refine rz_bipush (v := 30) dX11_choice_17 (by decide) (by decide) ?_
    refine rz_icmp_ne (tgt := 25) dX11_choice_19 (by decide) (fun c => ?_) (fun c => ?_)
    · replace hF := ite_f hF c
      refine rz_aload_n dX11_choice_25 rfl (show _ = some (some (vo x0)) from rfl) ?_
      replace hF := rdO_e hF
      obtain ⟨fs, o4, hg, hv, hF⟩ := hF
      refine rz_getf dX11_choice_26 fl_X11_74 hg hv ?_
      refine rz_aload_n dX11_choice_29 rfl (show _ = some (some (vo x0)) from rfl) ?_
      replace hF := rdI_e hF
      obtain ⟨fs, f5, hg, hv, hF⟩ := hF
      refine rz_getf dX11_choice_30 fl_X11_337 hg hv ?_
      refine rz_iload_n dX11_choice_33 rfl (show _ = some (some (vi x1)) from rfl) ?_
      replace hF := stI_e hF
      obtain ⟨xs, hg, h0, h1, hF⟩ := hF
      refine rz_iast dX11_choice_34 hg h0 h1 ?_
      refine rz_aload_n dX11_choice_35 rfl (show _ = some (some (vo x0)) from rfl) ?_
      replace hF := rdO_e hF
      obtain ⟨fs, o7, hg, hv, hF⟩ := hF
      refine rz_getf dX11_choice_36 fl_X11_77 hg hv ?_
      refine rz_aload_n dX11_choice_39 rfl (show _ = some (some (vo x0)) from rfl) ?_
      replace hF := rdI_e hF
      obtain ⟨fs, f8, hg, hv, hF⟩ := hF
      refine rz_getf dX11_choice_40 fl_X11_337 hg hv ?_
      refine rz_iload_n dX11_choice_43 rfl (show _ = some (some (vi x2)) from rfl) ?_
      replace hF := stI_e hF
      obtain ⟨xs, hg, h0, h1, hF⟩ := hF
      refine rz_iast dX11_choice_44 hg h0 h1 ?_
      refine rz_aload_n dX11_choice_45 rfl (show _ = some (some (vo x0)) from rfl) ?_
      replace hF := rdO_e hF
      obtain ⟨fs, o10, hg, hv, hF⟩ := hF
      refine rz_getf dX11_choice_46 fl_X11_80 hg hv ?_
      refine rz_aload_n dX11_choice_49 rfl (show _ = some (some (vo x0)) from rfl) ?_
      replace hF := rdI_e hF
      obtain ⟨fs, f11, hg, hv, hF⟩ := hF
      refine rz_getf dX11_choice_50 fl_X11_337 hg hv ?_
      refine rz_iload_n dX11_choice_53 rfl (show _ = some (some (vi x3)) from rfl) ?_
      replace hF := stI_e hF
      obtain ⟨xs, hg, h0, h1, hF⟩ := hF
      refine rz_iast dX11_choice_54 hg h0 h1 ?_
      refine rz_aload_n dX11_choice_55 rfl (show _ = some (some (vo x0)) from rfl) ?_
      replace hF := rdO_e hF
      obtain ⟨fs, o13, hg, hv, hF⟩ := hF
      refine rz_getf dX11_choice_56 fl_X11_83 hg hv ?_
      refine rz_aload_n dX11_choice_59 rfl (show _ = some (some (vo x0)) from rfl) ?_
      replace hF := rdI_e hF
      obtain ⟨fs, f14, hg, hv, hF⟩ := hF
      refine rz_getf dX11_choice_60 fl_X11_337 hg hv ?_
      refine rz_iload dX11_choice_63 (show _ = some (some (vi x4)) from rfl) ?_
      replace hF := stI_e hF
      obtain ⟨xs, hg, h0, h1, hF⟩ := hF
      refine rz_iast dX11_choice_65 hg h0 h1 ?_
      refine rz_aload_n dX11_choice_66 rfl (show _ = some (some (vo x0)) from rfl) ?_
      refine rz_dup dX11_choice_67 (by rintro ⟨_, q⟩; cases q) ?_
      replace hF := rdI_e hF
      obtain ⟨fs, f16, hg, hv, hF⟩ := hF
      refine rz_getf dX11_choice_68 fl_X11_337 hg hv ?_
      refine rz_iconst dX11_choice_71 rfl (by decide) ?_
      refine rz_iadd dX11_choice_72 ?_
      replace hF := wrF_e hF
      obtain ⟨fs, hg, hv, hF⟩ := hF
      refine rz_putf dX11_choice_73 fl_X11_337 (Or.inl rfl) hg hv ?_
      refine rz_aload_n dX11_choice_76 rfl (show _ = some (some (vo x0)) from rfl) ?_
      replace hF := rdI_e hF
      obtain ⟨fs, f18, hg, hv, hF⟩ := hF
      refine rz_getf dX11_choice_77 fl_X11_337 hg hv ?_
      refine rz_iconst dX11_choice_80 rfl (by decide) ?_
      refine rz_isub dX11_choice_81 ?_
      exact rz_iret dX11_choice_82 trivial hF
    · replace hF := ite_t hF c
      refine rz_bipush (v := (-3)) dX11_choice_22 (by decide) (by decide) ?_
      exact rz_iret dX11_choice_24 trivial hF
  · replace hF := ite_t hF c
    refine rz_iconst dX11_choice_11 rfl (by decide) ?_
    exact rz_iret dX11_choice_12 trivial hF
def pX11_fresh_22 (G : az_G) (d : Nat) (x0 : Nat) (x1 : Int) (x2 : Int) (h : az_H) (Q : Option az_V → az_H → Prop) : Prop := ez G mX11_fresh d 0 0 22 [some (vo x0), some (vi x1), some (vi x2)] [] h Q
theorem vX11_fresh_22 {G : az_G} {d : Nat} {x0 : Nat} {x1 : Int} {x2 : Int} {h : az_H} {Q : Option az_V → az_H → Prop} (hF : (if 144 ≤ x2 then Q (some (vi x1)) h else rdO h x0 11 28 (fun o1 => stI h o1 .boolean x2 0 (fun h2 => pX11_fresh_22 G d x0 x1 (w32 (x2 + 1)) h2 Q)))) : pX11_fresh_22 G d x0 x1 x2 h Q := by
  unfold pX11_fresh_22
  refine rz_iload_n dX11_fresh_22 rfl (show _ = some (some (vi x2)) from rfl) ?_
  refine rz_sipush (v := 144) dX11_fresh_23 (by decide) (by decide) ?_
  refine rz_icmp_ge (tgt := 42) dX11_fresh_26 (by decide) (fun c => ?_) (fun c => ?_)
  · replace hF := ite_t hF c
    refine rz_iload_n dX11_fresh_42 rfl (show _ = some (some (vi x1)) from rfl) ?_
    exact rz_iret dX11_fresh_43 trivial hF
  · replace hF := ite_f hF c
    refine rz_aload_n dX11_fresh_29 rfl (show _ = some (some (vo x0)) from rfl) ?_
    replace hF := rdO_e hF
    obtain ⟨fs, o1, hg, hv, hF⟩ := hF
    refine rz_getf dX11_fresh_30 fl_X11_53 hg hv ?_
    refine rz_iload_n dX11_fresh_33 rfl (show _ = some (some (vi x2)) from rfl) ?_
    refine rz_iconst dX11_fresh_34 rfl (by decide) ?_
    replace hF := stI_e hF
    obtain ⟨xs, hg, h0, h1, hF⟩ := hF
    refine rz_zast dX11_fresh_35 hg h0 h1 (by decide) ?_
    refine rz_iinc (ls' := [some (vo x0), some (vi x1), some (vi (w32 (x2 + 1)))]) dX11_fresh_36 rfl (Nat.le_of_ble_eq_true rfl) rfl ?_
    refine rz_goto (tgt := 22) dX11_fresh_39 (by decide) ?_
    exact hF
theorem vX11_fresh {G : az_G} {d : Nat} {x0 : Nat} {h : az_H} {Q : Option az_V → az_H → Prop} (hF : rdI h x0 11 40 (fun f1 => wrF h x0 11 40 (.int) (vi 0) (fun h2 => wrF h2 x0 11 45 (.int) (vi 0) (fun h3 => wrF h3 x0 11 50 (.int) (vi 0) (fun h4 => pX11_fresh_22 G d x0 f1 0 h4 Q))))) : cz G mX11_fresh d 0 0 [vo x0] h Q := by
  refine cz_of (ls := [some (vo x0), none, none]) (by decide +kernel) (Nat.le_of_ble_eq_true rfl) rfl ?_
  refine rz_aload_n dX11_fresh_0 rfl (show _ = some (some (vo x0)) from rfl) ?_
  replace hF := rdI_e hF
  obtain ⟨fs, f1, hg, hv, hF⟩ := hF
  refine rz_getf dX11_fresh_1 fl_X11_337 hg hv ?_
  refine rz_istore_n (ls' := [some (vo x0), some (vi f1), none]) dX11_fresh_4 rfl (Nat.le_of_ble_eq_true rfl) rfl ?_
  refine rz_aload_n dX11_fresh_5 rfl (show _ = some (some (vo x0)) from rfl) ?_
  refine rz_iconst dX11_fresh_6 rfl (by decide) ?_
  replace hF := wrF_e hF
  obtain ⟨fs, hg, hv, hF⟩ := hF
  refine rz_putf dX11_fresh_7 fl_X11_337 (Or.inl rfl) hg hv ?_
  refine rz_aload_n dX11_fresh_10 rfl (show _ = some (some (vo x0)) from rfl) ?_
  refine rz_iconst dX11_fresh_11 rfl (by decide) ?_
  replace hF := wrF_e hF
  obtain ⟨fs, hg, hv, hF⟩ := hF
  refine rz_putf dX11_fresh_12 fl_X11_340 (Or.inl rfl) hg hv ?_
  refine rz_aload_n dX11_fresh_15 rfl (show _ = some (some (vo x0)) from rfl) ?_
  refine rz_iconst dX11_fresh_16 rfl (by decide) ?_
  replace hF := wrF_e hF
  obtain ⟨fs, hg, hv, hF⟩ := hF
  refine rz_putf dX11_fresh_17 fl_X11_343 (Or.inl rfl) hg hv ?_
  refine rz_iconst dX11_fresh_20 rfl (by decide) ?_
  refine rz_istore_n (ls' := [some (vo x0), some (vi f1), some (vi 0)]) dX11_fresh_21 rfl (Nat.le_of_ble_eq_true rfl) rfl ?_
  exact hF
theorem vX11_choose {G : az_G} {d : Nat} {x0 : Nat} {x1 : Int} {h : az_H} {Q : Option az_V → az_H → Prop} (hF : rdO h x0 11 41 (fun o1 => ldI h o1 (.int) x1 (fun e2 => rdO h x0 11 42 (fun o3 => ldI h o3 (.int) x1 (fun e4 => rdO h x0 11 43 (fun o5 => ldI h o5 (.int) x1 (fun e6 => rdO h x0 11 44 (fun o7 => ldI h o7 (.int) x1 (fun e8 => rcv h x0 11 (cz G mX11_run d 0 0 [vo x0, vi e2, vi e4, vi e6, vi e8] h (fun v h9 => atI v (fun r10 => Q none h9)))))))))))) : cz G mX11_choose (d + 1) 0 0 [vo x0, vi x1] h Q := by
  refine cz_of (ls := [some (vo x0), some (vi x1), none]) (by decide +kernel) (Nat.le_of_ble_eq_true rfl) rfl ?_
  refine rz_aload_n dX11_choose_0 rfl (show _ = some (some (vo x0)) from rfl) ?_
  refine rz_aload_n dX11_choose_1 rfl (show _ = some (some (vo x0)) from rfl) ?_
  replace hF := rdO_e hF
  obtain ⟨fs, o1, hg, hv, hF⟩ := hF
  refine rz_getf dX11_choose_2 fl_X11_74 hg hv ?_
  refine rz_iload_n dX11_choose_5 rfl (show _ = some (some (vi x1)) from rfl) ?_
  replace hF := ldI_e hF
  obtain ⟨xs, hg, h0, h1, hF⟩ := hF
  refine rz_iald dX11_choose_6 hg h0 h1 ?_
  generalize xs.getD _ 0 = e2 at hF ⊢
  refine rz_aload_n dX11_choose_7 rfl (show _ = some (some (vo x0)) from rfl) ?_
  replace hF := rdO_e hF
  obtain ⟨fs, o3, hg, hv, hF⟩ := hF
  refine rz_getf dX11_choose_8 fl_X11_77 hg hv ?_
  refine rz_iload_n dX11_choose_11 rfl (show _ = some (some (vi x1)) from rfl) ?_
  replace hF := ldI_e hF
  obtain ⟨xs, hg, h0, h1, hF⟩ := hF
  refine rz_iald dX11_choose_12 hg h0 h1 ?_
  generalize xs.getD _ 0 = e4 at hF ⊢
  refine rz_aload_n dX11_choose_13 rfl (show _ = some (some (vo x0)) from rfl) ?_
  replace hF := rdO_e hF
  obtain ⟨fs, o5, hg, hv, hF⟩ := hF
  refine rz_getf dX11_choose_14 fl_X11_80 hg hv ?_
  refine rz_iload_n dX11_choose_17 rfl (show _ = some (some (vi x1)) from rfl) ?_
  replace hF := ldI_e hF
  obtain ⟨xs, hg, h0, h1, hF⟩ := hF
  refine rz_iald dX11_choose_18 hg h0 h1 ?_
  generalize xs.getD _ 0 = e6 at hF ⊢
  refine rz_aload_n dX11_choose_19 rfl (show _ = some (some (vo x0)) from rfl) ?_
  replace hF := rdO_e hF
  obtain ⟨fs, o7, hg, hv, hF⟩ := hF
  refine rz_getf dX11_choose_20 fl_X11_83 hg hv ?_
  refine rz_iload_n dX11_choose_23 rfl (show _ = some (some (vi x1)) from rfl) ?_
  replace hF := ldI_e hF
  obtain ⟨xs, hg, h0, h1, hF⟩ := hF
  refine rz_iald dX11_choose_24 hg h0 h1 ?_
  generalize xs.getD _ 0 = e8 at hF ⊢
  replace hF := rcv_e hF
  obtain ⟨fs, hg, hF⟩ := hF
  refine rz_callV (mc' := 0) (ms' := 0) (mc := 0) (ms := 0) (st := []) dX11_choose_25 cV_X11_326 rfl hg ⟨_, _, rfl⟩ rfl (Nat.le_of_ble_eq_true rfl) hF (fun v h9 hG => ?_)
  clear hF
  revert hG
  intro hF
  replace hF := atI_e hF
  obtain ⟨r10, rfl, hF⟩ := hF
  refine rz_istore_n (ls' := [some (vo x0), some (vi x1), some (vi r10)]) dX11_choose_28 rfl (Nat.le_of_ble_eq_true rfl) rfl ?_
  exact rz_vret dX11_choose_29 trivial hF
def pX11_keepRow_2 (G : az_G) (d : Nat) (x0 : Nat) (x1 : Int) (h : az_H) (Q : Option az_V → az_H → Prop) : Prop := ez G mX11_keepRow d 0 0 2 [some (vo x0), some (vi x1)] [] h Q
theorem vX11_keepRow_2 {G : az_G} {d : Nat} {x0 : Nat} {x1 : Int} {h : az_H} {Q : Option az_V → az_H → Prop} (hF : rdI h x0 11 48 (fun f1 => (if f1 ≤ x1 then rdO h x0 11 46 (fun o2 => rdI h x0 11 45 (fun f3 => rdI h x0 11 48 (fun f4 => stI h o2 .int f3 f4 (fun h5 => rdI h5 x0 11 45 (fun f6 => wrF h5 x0 11 45 (.int) (vi (w32 (f6 + 1))) (fun h7 => rdI h7 x0 11 45 (fun f8 => Q (some (vi (w32 (f8 - 1)))) h7))))))) else rdO h x0 11 47 (fun o9 => rdI h x0 11 45 (fun f10 => rdO h x0 11 49 (fun o11 => ldI h o11 (.int) x1 (fun e12 => stI h o9 .int (w32 ((w32 (12 * f10)) + x1)) e12 (fun h13 => pX11_keepRow_2 G d x0 (w32 (x1 + 1)) h13 Q)))))))) : pX11_keepRow_2 G d x0 x1 h Q := by
  unfold pX11_keepRow_2
  refine rz_iload_n dX11_keepRow_2 rfl (show _ = some (some (vi x1)) from rfl) ?_
  refine rz_aload_n dX11_keepRow_3 rfl (show _ = some (some (vo x0)) from rfl) ?_
  replace hF := rdI_e hF
  obtain ⟨fs, f1, hg, hv, hF⟩ := hF
  refine rz_getf dX11_keepRow_4 fl_X11_346 hg hv ?_
  refine rz_icmp_ge (tgt := 36) dX11_keepRow_7 (by decide) (fun c => ?_) (fun c => ?_)
  · replace hF := ite_t hF c
    refine rz_aload_n dX11_keepRow_36 rfl (show _ = some (some (vo x0)) from rfl) ?_
    replace hF := rdO_e hF
    obtain ⟨fs, o2, hg, hv, hF⟩ := hF
    refine rz_getf dX11_keepRow_37 fl_X11_86 hg hv ?_
    refine rz_aload_n dX11_keepRow_40 rfl (show _ = some (some (vo x0)) from rfl) ?_
    replace hF := rdI_e hF
    obtain ⟨fs, f3, hg, hv, hF⟩ := hF
    refine rz_getf dX11_keepRow_41 fl_X11_340 hg hv ?_
    refine rz_aload_n dX11_keepRow_44 rfl (show _ = some (some (vo x0)) from rfl) ?_
    replace hF := rdI_e hF
    obtain ⟨fs, f4, hg, hv, hF⟩ := hF
    refine rz_getf dX11_keepRow_45 fl_X11_346 hg hv ?_
    replace hF := stI_e hF
    obtain ⟨xs, hg, h0, h1, hF⟩ := hF
    refine rz_iast dX11_keepRow_48 hg h0 h1 ?_
    refine rz_aload_n dX11_keepRow_49 rfl (show _ = some (some (vo x0)) from rfl) ?_
    refine rz_dup dX11_keepRow_50 (by rintro ⟨_, q⟩; cases q) ?_
    replace hF := rdI_e hF
    obtain ⟨fs, f6, hg, hv, hF⟩ := hF
    refine rz_getf dX11_keepRow_51 fl_X11_340 hg hv ?_
    refine rz_iconst dX11_keepRow_54 rfl (by decide) ?_
    refine rz_iadd dX11_keepRow_55 ?_
    replace hF := wrF_e hF
    obtain ⟨fs, hg, hv, hF⟩ := hF
    refine rz_putf dX11_keepRow_56 fl_X11_340 (Or.inl rfl) hg hv ?_
    refine rz_aload_n dX11_keepRow_59 rfl (show _ = some (some (vo x0)) from rfl) ?_
    replace hF := rdI_e hF
    obtain ⟨fs, f8, hg, hv, hF⟩ := hF
    refine rz_getf dX11_keepRow_60 fl_X11_340 hg hv ?_
    refine rz_iconst dX11_keepRow_63 rfl (by decide) ?_
    refine rz_isub dX11_keepRow_64 ?_
    exact rz_iret dX11_keepRow_65 trivial hF
  · replace hF := ite_f hF c
    refine rz_aload_n dX11_keepRow_10 rfl (show _ = some (some (vo x0)) from rfl) ?_
    replace hF := rdO_e hF
    obtain ⟨fs, o9, hg, hv, hF⟩ := hF
    refine rz_getf dX11_keepRow_11 fl_X11_89 hg hv ?_
    refine rz_bipush (v := 12) dX11_keepRow_14 (by decide) (by decide) ?_
    refine rz_aload_n dX11_keepRow_16 rfl (show _ = some (some (vo x0)) from rfl) ?_
    replace hF := rdI_e hF
    obtain ⟨fs, f10, hg, hv, hF⟩ := hF
    refine rz_getf dX11_keepRow_17 fl_X11_340 hg hv ?_
    refine rz_imul dX11_keepRow_20 ?_
    refine rz_iload_n dX11_keepRow_21 rfl (show _ = some (some (vi x1)) from rfl) ?_
    refine rz_iadd dX11_keepRow_22 ?_
    refine rz_aload_n dX11_keepRow_23 rfl (show _ = some (some (vo x0)) from rfl) ?_
    replace hF := rdO_e hF
    obtain ⟨fs, o11, hg, hv, hF⟩ := hF
    refine rz_getf dX11_keepRow_24 fl_X11_92 hg hv ?_
    refine rz_iload_n dX11_keepRow_27 rfl (show _ = some (some (vi x1)) from rfl) ?_
    replace hF := ldI_e hF
    obtain ⟨xs, hg, h0, h1, hF⟩ := hF
    refine rz_iald dX11_keepRow_28 hg h0 h1 ?_
    generalize xs.getD _ 0 = e12 at hF ⊢
    replace hF := stI_e hF
    obtain ⟨xs, hg, h0, h1, hF⟩ := hF
    refine rz_iast dX11_keepRow_29 hg h0 h1 ?_
    refine rz_iinc (ls' := [some (vo x0), some (vi (w32 (x1 + 1)))]) dX11_keepRow_30 rfl (Nat.le_of_ble_eq_true rfl) rfl ?_
    refine rz_goto (tgt := 2) dX11_keepRow_33 (by decide) ?_
    exact hF
theorem vX11_keepRow {G : az_G} {d : Nat} {x0 : Nat} {h : az_H} {Q : Option az_V → az_H → Prop} (hF : pX11_keepRow_2 G d x0 0 h Q) : cz G mX11_keepRow d 0 0 [vo x0] h Q := by
  refine cz_of (ls := [some (vo x0), none]) (by decide +kernel) (Nat.le_of_ble_eq_true rfl) rfl ?_
  refine rz_iconst dX11_keepRow_0 rfl (by decide) ?_
  refine rz_istore_n (ls' := [some (vo x0), some (vi 0)]) dX11_keepRow_1 rfl (Nat.le_of_ble_eq_true rfl) rfl ?_
  exact hF
def pX11_take_12 (G : az_G) (d : Nat) (x0 : Nat) (x1 : Int) (x2 : Int) (h : az_H) (Q : Option az_V → az_H → Prop) : Prop := ez G mX11_take d 0 0 12 [some (vo x0), some (vi x1), some (vi x2)] [] h Q
theorem vX11_take_12 {G : az_G} {d : Nat} {x0 : Nat} {x1 : Int} {x2 : Int} {h : az_H} {Q : Option az_V → az_H → Prop} (hF : rdI h x0 11 48 (fun f1 => (if f1 ≤ x2 then Q none h else rdO h x0 11 49 (fun o2 => rdO h x0 11 47 (fun o3 => ldI h o3 (.int) (w32 ((w32 (12 * x1)) + x2)) (fun e4 => stI h o2 .int x2 e4 (fun h5 => pX11_take_12 G d x0 x1 (w32 (x2 + 1)) h5 Q))))))) : pX11_take_12 G d x0 x1 x2 h Q := by
  unfold pX11_take_12
  refine rz_iload_n dX11_take_12 rfl (show _ = some (some (vi x2)) from rfl) ?_
  refine rz_aload_n dX11_take_13 rfl (show _ = some (some (vo x0)) from rfl) ?_
  replace hF := rdI_e hF
  obtain ⟨fs, f1, hg, hv, hF⟩ := hF
  refine rz_getf dX11_take_14 fl_X11_346 hg hv ?_
  refine rz_icmp_ge (tgt := 43) dX11_take_17 (by decide) (fun c => ?_) (fun c => ?_)
  · replace hF := ite_t hF c
    exact rz_vret dX11_take_43 trivial hF
  · replace hF := ite_f hF c
    refine rz_aload_n dX11_take_20 rfl (show _ = some (some (vo x0)) from rfl) ?_
    replace hF := rdO_e hF
    obtain ⟨fs, o2, hg, hv, hF⟩ := hF
    refine rz_getf dX11_take_21 fl_X11_92 hg hv ?_
    refine rz_iload_n dX11_take_24 rfl (show _ = some (some (vi x2)) from rfl) ?_
    refine rz_aload_n dX11_take_25 rfl (show _ = some (some (vo x0)) from rfl) ?_
    replace hF := rdO_e hF
    obtain ⟨fs, o3, hg, hv, hF⟩ := hF
    refine rz_getf dX11_take_26 fl_X11_89 hg hv ?_
    refine rz_bipush (v := 12) dX11_take_29 (by decide) (by decide) ?_
    refine rz_iload_n dX11_take_31 rfl (show _ = some (some (vi x1)) from rfl) ?_
    refine rz_imul dX11_take_32 ?_
    refine rz_iload_n dX11_take_33 rfl (show _ = some (some (vi x2)) from rfl) ?_
    refine rz_iadd dX11_take_34 ?_
    replace hF := ldI_e hF
    obtain ⟨xs, hg, h0, h1, hF⟩ := hF
    refine rz_iald dX11_take_35 hg h0 h1 ?_
    generalize xs.getD _ 0 = e4 at hF ⊢
    replace hF := stI_e hF
    obtain ⟨xs, hg, h0, h1, hF⟩ := hF
    refine rz_iast dX11_take_36 hg h0 h1 ?_
    refine rz_iinc (ls' := [some (vo x0), some (vi x1), some (vi (w32 (x2 + 1)))]) dX11_take_37 rfl (Nat.le_of_ble_eq_true rfl) rfl ?_
    refine rz_goto (tgt := 12) dX11_take_40 (by decide) ?_
    exact hF
theorem vX11_take {G : az_G} {d : Nat} {x0 : Nat} {x1 : Int} {h : az_H} {Q : Option az_V → az_H → Prop} (hF : rdO h x0 11 46 (fun o1 => ldI h o1 (.int) x1 (fun e2 => wrF h x0 11 48 (.int) (vi e2) (fun h3 => pX11_take_12 G d x0 x1 0 h3 Q)))) : cz G mX11_take d 0 0 [vo x0, vi x1] h Q := by
  refine cz_of (ls := [some (vo x0), some (vi x1), none]) (by decide +kernel) (Nat.le_of_ble_eq_true rfl) rfl ?_
  refine rz_aload_n dX11_take_0 rfl (show _ = some (some (vo x0)) from rfl) ?_
  refine rz_aload_n dX11_take_1 rfl (show _ = some (some (vo x0)) from rfl) ?_
  replace hF := rdO_e hF
  obtain ⟨fs, o1, hg, hv, hF⟩ := hF
  refine rz_getf dX11_take_2 fl_X11_86 hg hv ?_
  refine rz_iload_n dX11_take_5 rfl (show _ = some (some (vi x1)) from rfl) ?_
  replace hF := ldI_e hF
  obtain ⟨xs, hg, h0, h1, hF⟩ := hF
  refine rz_iald dX11_take_6 hg h0 h1 ?_
  generalize xs.getD _ 0 = e2 at hF ⊢
  replace hF := wrF_e hF
  obtain ⟨fs, hg, hv, hF⟩ := hF
  refine rz_putf dX11_take_7 fl_X11_346 (Or.inl rfl) hg hv ?_
  refine rz_iconst dX11_take_10 rfl (by decide) ?_
  refine rz_istore_n (ls' := [some (vo x0), some (vi x1), some (vi 0)]) dX11_take_11 rfl (Nat.le_of_ble_eq_true rfl) rfl ?_
  exact hF
def pX11_breaksAt_9 (G : az_G) (d : Nat) (x0 : Nat) (x1 : Int) (x2 : Int) (x3 : Int) (x4 : Int) (h : az_H) (Q : Option az_V → az_H → Prop) : Prop := ez G mX11_breaksAt (d + 1) 0 0 9 [some (vo x0), some (vi x1), some (vi x2), some (vi x3), some (vi x4)] [] h Q
theorem vX11_breaksAt_9 {G : az_G} {d : Nat} {x0 : Nat} {x1 : Int} {x2 : Int} {x3 : Int} {x4 : Int} {h : az_H} {Q : Option az_V → az_H → Prop} (hF : rdI h x0 11 48 (fun f1 => (if f1 ≤ x4 then Q (some (vi ((-2)))) h else (if x4 = x2 then pX11_breaksAt_9 G d x0 x1 x2 x3 (w32 (x4 + 1)) h Q else rdO h x0 11 49 (fun o2 => ldI h o2 (.int) x4 (fun e3 => rcv h x0 11 (cz G mX11_choose d 0 0 [vo x0, vi e3] h (fun v h4 => atV v (rcv h4 x0 11 (cz G mX11_isBroken d 0 0 [vo x0, vi x1] h4 (fun v h5 => atI v (fun r6 => (if r6 = 0 then pX11_breaksAt_9 G d x0 x1 x2 (w32 (x3 + 1)) (w32 (x4 + 1)) h5 Q else Q (some (vi x3)) h5))))))))))))) : pX11_breaksAt_9 G d x0 x1 x2 x3 x4 h Q := by
  unfold pX11_breaksAt_9
  refine rz_iload dX11_breaksAt_9 (show _ = some (some (vi x4)) from rfl) ?_
  refine rz_aload_n dX11_breaksAt_11 rfl (show _ = some (some (vo x0)) from rfl) ?_
  replace hF := rdI_e hF
  obtain ⟨fs, f1, hg, hv, hF⟩ := hF
  refine rz_getf dX11_breaksAt_12 fl_X11_346 hg hv ?_
  refine rz_icmp_ge (tgt := 54) dX11_breaksAt_15 (by decide) (fun c => ?_) (fun c => ?_)
  · replace hF := ite_t hF c
    refine rz_bipush (v := (-2)) dX11_breaksAt_54 (by decide) (by decide) ?_
    exact rz_iret dX11_breaksAt_56 trivial hF
  · replace hF := ite_f hF c
    refine rz_iload dX11_breaksAt_18 (show _ = some (some (vi x4)) from rfl) ?_
    refine rz_iload_n dX11_breaksAt_20 rfl (show _ = some (some (vi x2)) from rfl) ?_
    refine rz_icmp_eq (tgt := 48) dX11_breaksAt_21 (by decide) (fun c => ?_) (fun c => ?_)
    · replace hF := ite_t hF c
      refine rz_iinc (ls' := [some (vo x0), some (vi x1), some (vi x2), some (vi x3), some (vi (w32 (x4 + 1)))]) dX11_breaksAt_48 rfl (Nat.le_of_ble_eq_true rfl) rfl ?_
      refine rz_goto (tgt := 9) dX11_breaksAt_51 (by decide) ?_
      exact hF
    · replace hF := ite_f hF c
      refine rz_aload_n dX11_breaksAt_24 rfl (show _ = some (some (vo x0)) from rfl) ?_
      refine rz_aload_n dX11_breaksAt_25 rfl (show _ = some (some (vo x0)) from rfl) ?_
      replace hF := rdO_e hF
      obtain ⟨fs, o2, hg, hv, hF⟩ := hF
      refine rz_getf dX11_breaksAt_26 fl_X11_92 hg hv ?_
      refine rz_iload dX11_breaksAt_29 (show _ = some (some (vi x4)) from rfl) ?_
      replace hF := ldI_e hF
      obtain ⟨xs, hg, h0, h1, hF⟩ := hF
      refine rz_iald dX11_breaksAt_31 hg h0 h1 ?_
      generalize xs.getD _ 0 = e3 at hF ⊢
      replace hF := rcv_e hF
      obtain ⟨fs, hg, hF⟩ := hF
      refine rz_callV (mc' := 0) (ms' := 0) (mc := 0) (ms := 0) (st := []) dX11_breaksAt_32 cV_X11_349 rfl hg ⟨_, _, rfl⟩ rfl (Nat.le_of_ble_eq_true rfl) hF (fun v h4 hG => ?_)
      clear hF
      revert hG
      intro hF
      replace hF := atV_e hF
      obtain ⟨rfl, hF⟩ := hF
      refine rz_aload_n dX11_breaksAt_35 rfl (show _ = some (some (vo x0)) from rfl) ?_
      refine rz_iload_n dX11_breaksAt_36 rfl (show _ = some (some (vi x1)) from rfl) ?_
      replace hF := rcv_e hF
      obtain ⟨fs, hg, hF⟩ := hF
      refine rz_callV (mc' := 0) (ms' := 0) (mc := 0) (ms := 0) (st := []) dX11_breaksAt_37 cV_X11_334 rfl hg ⟨_, _, rfl⟩ rfl (Nat.le_of_ble_eq_true rfl) hF (fun v h5 hG => ?_)
      clear hF
      revert hG
      intro hF
      replace hF := atI_e hF
      obtain ⟨r6, rfl, hF⟩ := hF
      refine rz_if_eq (tgt := 45) dX11_breaksAt_40 (by decide) (fun c => ?_) (fun c => ?_)
      · replace hF := ite_t hF c
        refine rz_iinc (ls' := [some (vo x0), some (vi x1), some (vi x2), some (vi (w32 (x3 + 1))), some (vi x4)]) dX11_breaksAt_45 rfl (Nat.le_of_ble_eq_true rfl) rfl ?_
        refine rz_iinc (ls' := [some (vo x0), some (vi x1), some (vi x2), some (vi (w32 (x3 + 1))), some (vi (w32 (x4 + 1)))]) dX11_breaksAt_48 rfl (Nat.le_of_ble_eq_true rfl) rfl ?_
        refine rz_goto (tgt := 9) dX11_breaksAt_51 (by decide) ?_
        exact hF
      · replace hF := ite_f hF c
        refine rz_iload_n dX11_breaksAt_43 rfl (show _ = some (some (vi x3)) from rfl) ?_
        exact rz_iret dX11_breaksAt_44 trivial hF
theorem vX11_breaksAt {G : az_G} {d : Nat} {x0 : Nat} {x1 : Int} {x2 : Int} {h : az_H} {Q : Option az_V → az_H → Prop} (hF : rcv h x0 11 (cz G mX11_toStart d 0 0 [vo x0] h (fun v h1 => atV v (pX11_breaksAt_9 G d x0 x1 x2 0 0 h1 Q)))) : cz G mX11_breaksAt (d + 1) 0 0 [vo x0, vi x1, vi x2] h Q := by
  refine cz_of (ls := [some (vo x0), some (vi x1), some (vi x2), none, none]) (by decide +kernel) (Nat.le_of_ble_eq_true rfl) rfl ?_
  refine rz_aload_n dX11_breaksAt_0 rfl (show _ = some (some (vo x0)) from rfl) ?_
  replace hF := rcv_e hF
  obtain ⟨fs, hg, hF⟩ := hF
  refine rz_callV (mc' := 0) (ms' := 0) (mc := 0) (ms := 0) (st := []) dX11_breaksAt_1 cV_X11_317 rfl hg ⟨_, _, rfl⟩ rfl (Nat.le_of_ble_eq_true rfl) hF (fun v h1 hG => ?_)
  clear hF
  revert hG
  intro hF
  replace hF := atV_e hF
  obtain ⟨rfl, hF⟩ := hF
  refine rz_iconst dX11_breaksAt_4 rfl (by decide) ?_
  refine rz_istore_n (ls' := [some (vo x0), some (vi x1), some (vi x2), some (vi 0), none]) dX11_breaksAt_5 rfl (Nat.le_of_ble_eq_true rfl) rfl ?_
  refine rz_iconst dX11_breaksAt_6 rfl (by decide) ?_
  refine rz_istore (ls' := [some (vo x0), some (vi x1), some (vi x2), some (vi 0), some (vi 0)]) dX11_breaksAt_7 (Nat.le_of_ble_eq_true rfl) rfl ?_
  exact hF
def pX11_makeLeast_14 (G : az_G) (d : Nat) (x0 : Nat) (x1 : Int) (x2 : Int) (h : az_H) (Q : Option az_V → az_H → Prop) : Prop := ez G mX11_makeLeast (d + 1) 0 0 14 [some (vo x0), some (vi x1), some (vi x2), none, none, none] [] h Q
def pX11_makeLeast_27 (G : az_G) (d : Nat) (x0 : Nat) (x1 : Int) (x2 : Int) (x3 : Int) (h : az_H) (Q : Option az_V → az_H → Prop) : Prop := ez G mX11_makeLeast (d + 1) 0 0 27 [some (vo x0), some (vi x1), some (vi x2), some (vi x3), none, none] [] h Q
def pX11_makeLeast_60 (G : az_G) (d : Nat) (x0 : Nat) (x1 : Int) (x3 : Int) (x4 : Int) (x5 : Int) (h : az_H) (Q : Option az_V → az_H → Prop) : Prop := ez G mX11_makeLeast (d + 1) 0 0 60 [some (vo x0), some (vi x1), none, some (vi x3), some (vi x4), some (vi x5)] [] h Q
theorem vX11_makeLeast_60 {G : az_G} {d : Nat} {x0 : Nat} {x1 : Int} {x3 : Int} {x4 : Int} {x5 : Int} {h : az_H} {Q : Option az_V → az_H → Prop} (hF : rdI h x0 11 48 (fun f1 => (if f1 ≤ w32 (x5 + 1) then wrF h x0 11 48 (.int) (vi (w32 (x4 + 1))) (fun h2 => pX11_makeLeast_27 G d x0 x1 1 (w32 (x3 + (-1))) h2 Q) else rdO h x0 11 49 (fun o3 => rdO h x0 11 49 (fun o4 => ldI h o4 (.int) (w32 (x5 + 1)) (fun e5 => stI h o3 .int x5 e5 (fun h6 => pX11_makeLeast_60 G d x0 x1 x3 x4 (w32 (x5 + 1)) h6 Q))))))) : pX11_makeLeast_60 G d x0 x1 x3 x4 x5 h Q := by
  unfold pX11_makeLeast_60
  refine rz_iload dX11_makeLeast_60 (show _ = some (some (vi x5)) from rfl) ?_
  refine rz_iconst dX11_makeLeast_62 rfl (by decide) ?_
  refine rz_iadd dX11_makeLeast_63 ?_
  refine rz_aload_n dX11_makeLeast_64 rfl (show _ = some (some (vo x0)) from rfl) ?_
  replace hF := rdI_e hF
  obtain ⟨fs, f1, hg, hv, hF⟩ := hF
  refine rz_getf dX11_makeLeast_65 fl_X11_346 hg hv ?_
  refine rz_icmp_ge (tgt := 93) dX11_makeLeast_68 (by decide) (fun c => ?_) (fun c => ?_)
  · replace hF := ite_t hF c
    refine rz_aload_n dX11_makeLeast_93 rfl (show _ = some (some (vo x0)) from rfl) ?_
    refine rz_iload dX11_makeLeast_94 (show _ = some (some (vi x4)) from rfl) ?_
    refine rz_iconst dX11_makeLeast_96 rfl (by decide) ?_
    refine rz_iadd dX11_makeLeast_97 ?_
    replace hF := wrF_e hF
    obtain ⟨fs, hg, hv, hF⟩ := hF
    refine rz_putf dX11_makeLeast_98 fl_X11_346 (Or.inl rfl) hg hv ?_
    refine rz_iconst dX11_makeLeast_101 rfl (by decide) ?_
    refine rz_istore_n (ls' := [some (vo x0), some (vi x1), some (vi 1), some (vi x3), some (vi x4), some (vi x5)]) dX11_makeLeast_102 rfl (Nat.le_of_ble_eq_true rfl) rfl ?_
    refine rz_iinc (ls' := [some (vo x0), some (vi x1), some (vi 1), some (vi (w32 (x3 + (-1)))), some (vi x4), some (vi x5)]) dX11_makeLeast_103 rfl (Nat.le_of_ble_eq_true rfl) rfl ?_
    refine rz_goto (tgt := 27) dX11_makeLeast_106 (by decide) ?_
    refine ez_kp [true, true, true, true, false, false] rfl ?_
    exact hF
  · replace hF := ite_f hF c
    refine rz_aload_n dX11_makeLeast_71 rfl (show _ = some (some (vo x0)) from rfl) ?_
    replace hF := rdO_e hF
    obtain ⟨fs, o3, hg, hv, hF⟩ := hF
    refine rz_getf dX11_makeLeast_72 fl_X11_92 hg hv ?_
    refine rz_iload dX11_makeLeast_75 (show _ = some (some (vi x5)) from rfl) ?_
    refine rz_aload_n dX11_makeLeast_77 rfl (show _ = some (some (vo x0)) from rfl) ?_
    replace hF := rdO_e hF
    obtain ⟨fs, o4, hg, hv, hF⟩ := hF
    refine rz_getf dX11_makeLeast_78 fl_X11_92 hg hv ?_
    refine rz_iload dX11_makeLeast_81 (show _ = some (some (vi x5)) from rfl) ?_
    refine rz_iconst dX11_makeLeast_83 rfl (by decide) ?_
    refine rz_iadd dX11_makeLeast_84 ?_
    replace hF := ldI_e hF
    obtain ⟨xs, hg, h0, h1, hF⟩ := hF
    refine rz_iald dX11_makeLeast_85 hg h0 h1 ?_
    generalize xs.getD _ 0 = e5 at hF ⊢
    replace hF := stI_e hF
    obtain ⟨xs, hg, h0, h1, hF⟩ := hF
    refine rz_iast dX11_makeLeast_86 hg h0 h1 ?_
    refine rz_iinc (ls' := [some (vo x0), some (vi x1), none, some (vi x3), some (vi x4), some (vi (w32 (x5 + 1)))]) dX11_makeLeast_87 rfl (Nat.le_of_ble_eq_true rfl) rfl ?_
    refine rz_goto (tgt := 60) dX11_makeLeast_90 (by decide) ?_
    exact hF
theorem vX11_makeLeast_27 {G : az_G} {d : Nat} {x0 : Nat} {x1 : Int} {x2 : Int} {x3 : Int} {h : az_H} {Q : Option az_V → az_H → Prop} (hF : (if x3 < 0 then pX11_makeLeast_14 G d x0 x1 x2 h Q else rdI h x0 11 48 (fun f1 => (if f1 ≤ x3 then pX11_makeLeast_27 G d x0 x1 x2 (w32 (x3 + (-1))) h Q else rcv h x0 11 (cz G mX11_breaksAt d 0 0 [vo x0, vi x1, vi x3] h (fun v h2 => atI v (fun r3 => (if r3 < 0 then pX11_makeLeast_27 G d x0 x1 x2 (w32 (x3 + (-1))) h2 Q else pX11_makeLeast_60 G d x0 x1 x3 r3 x3 h2 Q)))))))) : pX11_makeLeast_27 G d x0 x1 x2 x3 h Q := by
  unfold pX11_makeLeast_27
  refine rz_iload_n dX11_makeLeast_27 rfl (show _ = some (some (vi x3)) from rfl) ?_
  refine rz_if_lt (tgt := 109) dX11_makeLeast_28 (by decide) (fun c => ?_) (fun c => ?_)
  · replace hF := ite_t hF c
    refine rz_goto (tgt := 14) dX11_makeLeast_109 (by decide) ?_
    refine ez_kp [true, true, true, false, false, false] rfl ?_
    exact hF
  · replace hF := ite_f hF c
    refine rz_iload_n dX11_makeLeast_31 rfl (show _ = some (some (vi x3)) from rfl) ?_
    refine rz_aload_n dX11_makeLeast_32 rfl (show _ = some (some (vo x0)) from rfl) ?_
    replace hF := rdI_e hF
    obtain ⟨fs, f1, hg, hv, hF⟩ := hF
    refine rz_getf dX11_makeLeast_33 fl_X11_346 hg hv ?_
    refine rz_icmp_ge (tgt := 48) dX11_makeLeast_36 (by decide) (fun c => ?_) (fun c => ?_)
    · replace hF := ite_t hF c
      refine rz_bipush (v := (-2)) dX11_makeLeast_48 (by decide) (by decide) ?_
      refine rz_istore (ls' := [some (vo x0), some (vi x1), some (vi x2), some (vi x3), some (vi ((-2))), none]) dX11_makeLeast_50 (Nat.le_of_ble_eq_true rfl) rfl ?_
      refine rz_iload dX11_makeLeast_52 (show _ = some (some (vi ((-2)))) from rfl) ?_
      refine rz_if_lt (tgt := 103) dX11_makeLeast_54 (by decide) (fun c => ?_) (fun c => absurd c (by decide))
      refine rz_iinc (ls' := [some (vo x0), some (vi x1), some (vi x2), some (vi (w32 (x3 + (-1)))), some (vi ((-2))), none]) dX11_makeLeast_103 rfl (Nat.le_of_ble_eq_true rfl) rfl ?_
      refine rz_goto (tgt := 27) dX11_makeLeast_106 (by decide) ?_
      refine ez_kp [true, true, true, true, false, false] rfl ?_
      exact hF
    · replace hF := ite_f hF c
      refine rz_aload_n dX11_makeLeast_39 rfl (show _ = some (some (vo x0)) from rfl) ?_
      refine rz_iload_n dX11_makeLeast_40 rfl (show _ = some (some (vi x1)) from rfl) ?_
      refine rz_iload_n dX11_makeLeast_41 rfl (show _ = some (some (vi x3)) from rfl) ?_
      replace hF := rcv_e hF
      obtain ⟨fs, hg, hF⟩ := hF
      refine rz_callV (mc' := 0) (ms' := 0) (mc := 0) (ms := 0) (st := []) dX11_makeLeast_42 cV_X11_352 rfl hg ⟨_, _, rfl⟩ rfl (Nat.le_of_ble_eq_true rfl) hF (fun v h2 hG => ?_)
      clear hF
      revert hG
      intro hF
      replace hF := atI_e hF
      obtain ⟨r3, rfl, hF⟩ := hF
      refine rz_goto (tgt := 50) dX11_makeLeast_45 (by decide) ?_
      refine rz_istore (ls' := [some (vo x0), some (vi x1), some (vi x2), some (vi x3), some (vi r3), none]) dX11_makeLeast_50 (Nat.le_of_ble_eq_true rfl) rfl ?_
      refine rz_iload dX11_makeLeast_52 (show _ = some (some (vi r3)) from rfl) ?_
      refine rz_if_lt (tgt := 103) dX11_makeLeast_54 (by decide) (fun c => ?_) (fun c => ?_)
      · replace hF := ite_t hF c
        refine rz_iinc (ls' := [some (vo x0), some (vi x1), some (vi x2), some (vi (w32 (x3 + (-1)))), some (vi r3), none]) dX11_makeLeast_103 rfl (Nat.le_of_ble_eq_true rfl) rfl ?_
        refine rz_goto (tgt := 27) dX11_makeLeast_106 (by decide) ?_
        refine ez_kp [true, true, true, true, false, false] rfl ?_
        exact hF
      · replace hF := ite_f hF c
        refine rz_iload_n dX11_makeLeast_57 rfl (show _ = some (some (vi x3)) from rfl) ?_
        refine rz_istore (ls' := [some (vo x0), some (vi x1), some (vi x2), some (vi x3), some (vi r3), some (vi x3)]) dX11_makeLeast_58 (Nat.le_of_ble_eq_true rfl) rfl ?_
        refine ez_kp [true, true, false, true, true, true] rfl ?_
        exact hF
theorem vX11_makeLeast_14 {G : az_G} {d : Nat} {x0 : Nat} {x1 : Int} {x2 : Int} {h : az_H} {Q : Option az_V → az_H → Prop} (hF : (if x2 = 0 then Q none h else rdI h x0 11 48 (fun f1 => pX11_makeLeast_27 G d x0 x1 0 (w32 (f1 - 1)) h Q))) : pX11_makeLeast_14 G d x0 x1 x2 h Q := by
  unfold pX11_makeLeast_14
  refine rz_iload_n dX11_makeLeast_14 rfl (show _ = some (some (vi x2)) from rfl) ?_
  refine rz_if_eq (tgt := 112) dX11_makeLeast_15 (by decide) (fun c => ?_) (fun c => ?_)
  · replace hF := ite_t hF c
    exact rz_vret dX11_makeLeast_112 trivial hF
  · replace hF := ite_f hF c
    refine rz_iconst dX11_makeLeast_18 rfl (by decide) ?_
    refine rz_istore_n (ls' := [some (vo x0), some (vi x1), some (vi 0), none, none, none]) dX11_makeLeast_19 rfl (Nat.le_of_ble_eq_true rfl) rfl ?_
    refine rz_aload_n dX11_makeLeast_20 rfl (show _ = some (some (vo x0)) from rfl) ?_
    replace hF := rdI_e hF
    obtain ⟨fs, f1, hg, hv, hF⟩ := hF
    refine rz_getf dX11_makeLeast_21 fl_X11_346 hg hv ?_
    refine rz_iconst dX11_makeLeast_24 rfl (by decide) ?_
    refine rz_isub dX11_makeLeast_25 ?_
    refine rz_istore_n (ls' := [some (vo x0), some (vi x1), some (vi 0), some (vi (w32 (f1 - 1))), none, none]) dX11_makeLeast_26 rfl (Nat.le_of_ble_eq_true rfl) rfl ?_
    exact hF
theorem vX11_makeLeast {G : az_G} {d : Nat} {x0 : Nat} {x1 : Int} {h : az_H} {Q : Option az_V → az_H → Prop} (hF : rcv h x0 11 (cz G mX11_breaksAt d 0 0 [vo x0, vi x1, vi ((-1))] h (fun v h1 => atI v (fun r2 => wrF h1 x0 11 48 (.int) (vi (w32 (r2 + 1))) (fun h3 => pX11_makeLeast_14 G d x0 x1 1 h3 Q))))) : cz G mX11_makeLeast (d + 1) 0 0 [vo x0, vi x1] h Q := by
  refine cz_of (ls := [some (vo x0), some (vi x1), none, none, none, none]) (by decide +kernel) (Nat.le_of_ble_eq_true rfl) rfl ?_
  refine rz_aload_n dX11_makeLeast_0 rfl (show _ = some (some (vo x0)) from rfl) ?_
  refine rz_aload_n dX11_makeLeast_1 rfl (show _ = some (some (vo x0)) from rfl) ?_
  refine rz_iload_n dX11_makeLeast_2 rfl (show _ = some (some (vi x1)) from rfl) ?_
  refine rz_iconst dX11_makeLeast_3 rfl (by decide) ?_
  replace hF := rcv_e hF
  obtain ⟨fs, hg, hF⟩ := hF
  refine rz_callV (mc' := 0) (ms' := 0) (mc := 0) (ms := 0) (st := [vo x0]) dX11_makeLeast_4 cV_X11_352 rfl hg ⟨_, _, rfl⟩ rfl (Nat.le_of_ble_eq_true rfl) hF (fun v h1 hG => ?_)
  clear hF
  revert hG
  intro hF
  replace hF := atI_e hF
  obtain ⟨r2, rfl, hF⟩ := hF
  refine rz_iconst dX11_makeLeast_7 rfl (by decide) ?_
  refine rz_iadd dX11_makeLeast_8 ?_
  replace hF := wrF_e hF
  obtain ⟨fs, hg, hv, hF⟩ := hF
  refine rz_putf dX11_makeLeast_9 fl_X11_346 (Or.inl rfl) hg hv ?_
  refine rz_iconst dX11_makeLeast_12 rfl (by decide) ?_
  refine rz_istore_n (ls' := [some (vo x0), some (vi x1), some (vi 1), none, none, none]) dX11_makeLeast_13 rfl (Nat.le_of_ble_eq_true rfl) rfl ?_
  exact hF
def pX11_isThere_2 (G : az_G) (d : Nat) (x0 : Nat) (x1 : Int) (x2 : Int) (h : az_H) (Q : Option az_V → az_H → Prop) : Prop := ez G mX11_isThere d 0 0 2 [some (vo x0), some (vi x1), some (vi x2), none, none] [] h Q
def pX11_isThere_12 (G : az_G) (d : Nat) (x0 : Nat) (x1 : Int) (x2 : Int) (x3 : Int) (x4 : Int) (h : az_H) (Q : Option az_V → az_H → Prop) : Prop := ez G mX11_isThere d 0 0 12 [some (vo x0), some (vi x1), some (vi x2), some (vi x3), some (vi x4)] [] h Q
theorem vX11_isThere_12 {G : az_G} {d : Nat} {x0 : Nat} {x1 : Int} {x2 : Int} {x3 : Int} {x4 : Int} {h : az_H} {Q : Option az_V → az_H → Prop} (hF : (if 19 ≤ x4 then (if x3 = 0 then pX11_isThere_2 G d x0 x1 (w32 (x2 + 1)) h Q else Q (some (vi 1)) h) else (if x3 = 0 then (if x3 = 0 then pX11_isThere_2 G d x0 x1 (w32 (x2 + 1)) h Q else Q (some (vi 1)) h) else rdO h x0 11 54 (fun o1 => ldI h o1 (.int) (w32 ((w32 (19 * x2)) + x4)) (fun e2 => rdO h x0 11 22 (fun o3 => ldI h o3 (.int) x4 (fun e4 => (if e2 = e4 then pX11_isThere_12 G d x0 x1 x2 1 (w32 (x4 + 1)) h Q else pX11_isThere_12 G d x0 x1 x2 0 (w32 (x4 + 1)) h Q)))))))) : pX11_isThere_12 G d x0 x1 x2 x3 x4 h Q := by
  unfold pX11_isThere_12
  refine rz_iload dX11_isThere_12 (show _ = some (some (vi x4)) from rfl) ?_
  refine rz_bipush (v := 19) dX11_isThere_14 (by decide) (by decide) ?_
  refine rz_icmp_ge (tgt := 57) dX11_isThere_16 (by decide) (fun c => ?_) (fun c => ?_)
  · replace hF := ite_t hF c
    refine rz_iload_n dX11_isThere_57 rfl (show _ = some (some (vi x3)) from rfl) ?_
    refine rz_if_eq (tgt := 63) dX11_isThere_58 (by decide) (fun c => ?_) (fun c => ?_)
    · replace hF := ite_t hF c
      refine rz_iinc (ls' := [some (vo x0), some (vi x1), some (vi (w32 (x2 + 1))), some (vi x3), some (vi x4)]) dX11_isThere_63 rfl (Nat.le_of_ble_eq_true rfl) rfl ?_
      refine rz_goto (tgt := 2) dX11_isThere_66 (by decide) ?_
      refine ez_kp [true, true, true, false, false] rfl ?_
      exact hF
    · replace hF := ite_f hF c
      refine rz_iconst dX11_isThere_61 rfl (by decide) ?_
      exact rz_iret dX11_isThere_62 (Or.inr rfl) hF
  · replace hF := ite_f hF c
    refine rz_iload_n dX11_isThere_19 rfl (show _ = some (some (vi x3)) from rfl) ?_
    refine rz_if_eq (tgt := 57) dX11_isThere_20 (by decide) (fun c => ?_) (fun c => ?_)
    · replace hF := ite_t hF c
      refine rz_iload_n dX11_isThere_57 rfl (show _ = some (some (vi x3)) from rfl) ?_
      refine rz_if_eq (tgt := 63) dX11_isThere_58 (by decide) (fun c => ?_) (fun c => ?_)
      · replace hF := ite_t hF c
        refine rz_iinc (ls' := [some (vo x0), some (vi x1), some (vi (w32 (x2 + 1))), some (vi x3), some (vi x4)]) dX11_isThere_63 rfl (Nat.le_of_ble_eq_true rfl) rfl ?_
        refine rz_goto (tgt := 2) dX11_isThere_66 (by decide) ?_
        refine ez_kp [true, true, true, false, false] rfl ?_
        exact hF
      · replace hF := ite_f hF c
        refine rz_iconst dX11_isThere_61 rfl (by decide) ?_
        exact rz_iret dX11_isThere_62 (Or.inr rfl) hF
    · replace hF := ite_f hF c
      refine rz_aload_n dX11_isThere_23 rfl (show _ = some (some (vo x0)) from rfl) ?_
      replace hF := rdO_e hF
      obtain ⟨fs, o1, hg, hv, hF⟩ := hF
      refine rz_getf dX11_isThere_24 fl_X11_101 hg hv ?_
      refine rz_bipush (v := 19) dX11_isThere_27 (by decide) (by decide) ?_
      refine rz_iload_n dX11_isThere_29 rfl (show _ = some (some (vi x2)) from rfl) ?_
      refine rz_imul dX11_isThere_30 ?_
      refine rz_iload dX11_isThere_31 (show _ = some (some (vi x4)) from rfl) ?_
      refine rz_iadd dX11_isThere_33 ?_
      replace hF := ldI_e hF
      obtain ⟨xs, hg, h0, h1, hF⟩ := hF
      refine rz_iald dX11_isThere_34 hg h0 h1 ?_
      generalize xs.getD _ 0 = e2 at hF ⊢
      refine rz_aload_n dX11_isThere_35 rfl (show _ = some (some (vo x0)) from rfl) ?_
      replace hF := rdO_e hF
      obtain ⟨fs, o3, hg, hv, hF⟩ := hF
      refine rz_getf dX11_isThere_36 fl_X11_38 hg hv ?_
      refine rz_iload dX11_isThere_39 (show _ = some (some (vi x4)) from rfl) ?_
      replace hF := ldI_e hF
      obtain ⟨xs, hg, h0, h1, hF⟩ := hF
      refine rz_iald dX11_isThere_41 hg h0 h1 ?_
      generalize xs.getD _ 0 = e4 at hF ⊢
      refine rz_icmp_ne (tgt := 49) dX11_isThere_42 (by decide) (fun c => ?_) (fun c => ?_)
      · replace hF := ite_f hF c
        refine rz_iconst dX11_isThere_49 rfl (by decide) ?_
        refine rz_istore_n (ls' := [some (vo x0), some (vi x1), some (vi x2), some (vi 0), some (vi x4)]) dX11_isThere_50 rfl (Nat.le_of_ble_eq_true rfl) rfl ?_
        refine rz_iinc (ls' := [some (vo x0), some (vi x1), some (vi x2), some (vi 0), some (vi (w32 (x4 + 1)))]) dX11_isThere_51 rfl (Nat.le_of_ble_eq_true rfl) rfl ?_
        refine rz_goto (tgt := 12) dX11_isThere_54 (by decide) ?_
        exact hF
      · replace hF := ite_t hF c
        refine rz_iconst dX11_isThere_45 rfl (by decide) ?_
        refine rz_goto (tgt := 50) dX11_isThere_46 (by decide) ?_
        refine rz_istore_n (ls' := [some (vo x0), some (vi x1), some (vi x2), some (vi 1), some (vi x4)]) dX11_isThere_50 rfl (Nat.le_of_ble_eq_true rfl) rfl ?_
        refine rz_iinc (ls' := [some (vo x0), some (vi x1), some (vi x2), some (vi 1), some (vi (w32 (x4 + 1)))]) dX11_isThere_51 rfl (Nat.le_of_ble_eq_true rfl) rfl ?_
        refine rz_goto (tgt := 12) dX11_isThere_54 (by decide) ?_
        exact hF
theorem vX11_isThere_2 {G : az_G} {d : Nat} {x0 : Nat} {x1 : Int} {x2 : Int} {h : az_H} {Q : Option az_V → az_H → Prop} (hF : (if x1 ≤ x2 then Q (some (vi 0)) h else pX11_isThere_12 G d x0 x1 x2 1 0 h Q)) : pX11_isThere_2 G d x0 x1 x2 h Q := by
  unfold pX11_isThere_2
  refine rz_iload_n dX11_isThere_2 rfl (show _ = some (some (vi x2)) from rfl) ?_
  refine rz_iload_n dX11_isThere_3 rfl (show _ = some (some (vi x1)) from rfl) ?_
  refine rz_icmp_ge (tgt := 69) dX11_isThere_4 (by decide) (fun c => ?_) (fun c => ?_)
  · replace hF := ite_t hF c
    refine rz_iconst dX11_isThere_69 rfl (by decide) ?_
    exact rz_iret dX11_isThere_70 (Or.inl rfl) hF
  · replace hF := ite_f hF c
    refine rz_iconst dX11_isThere_7 rfl (by decide) ?_
    refine rz_istore_n (ls' := [some (vo x0), some (vi x1), some (vi x2), some (vi 1), none]) dX11_isThere_8 rfl (Nat.le_of_ble_eq_true rfl) rfl ?_
    refine rz_iconst dX11_isThere_9 rfl (by decide) ?_
    refine rz_istore (ls' := [some (vo x0), some (vi x1), some (vi x2), some (vi 1), some (vi 0)]) dX11_isThere_10 (Nat.le_of_ble_eq_true rfl) rfl ?_
    exact hF
theorem vX11_isThere {G : az_G} {d : Nat} {x0 : Nat} {x1 : Int} {h : az_H} {Q : Option az_V → az_H → Prop} (hF : pX11_isThere_2 G d x0 x1 0 h Q) : cz G mX11_isThere d 0 0 [vo x0, vi x1] h Q := by
  refine cz_of (ls := [some (vo x0), some (vi x1), none, none, none]) (by decide +kernel) (Nat.le_of_ble_eq_true rfl) rfl ?_
  refine rz_iconst dX11_isThere_0 rfl (by decide) ?_
  refine rz_istore_n (ls' := [some (vo x0), some (vi x1), some (vi 0), none, none]) dX11_isThere_1 rfl (Nat.le_of_ble_eq_true rfl) rfl ?_
  exact hF
def pX11_rowTo_34 (G : az_G) (d : Nat) (x0 : Nat) (x3 : Int) (x4 : Int) (h : az_H) (Q : Option az_V → az_H → Prop) : Prop := ez G mX11_rowTo (d + 1) 0 0 34 [some (vo x0), none, none, some (vi x3), some (vi x4)] [] h Q
theorem vX11_rowTo_34 {G : az_G} {d : Nat} {x0 : Nat} {x3 : Int} {x4 : Int} {h : az_H} {Q : Option az_V → az_H → Prop} (hF : (if x4 < 0 then rcv h x0 11 (cz G mX11_keepRow d 0 0 [vo x0] h (fun v h1 => atI v (fun r2 => Q (some (vi r2)) h1))) else rdO h x0 11 49 (fun o3 => rdO h x0 11 56 (fun o4 => ldI h o4 (.int) x3 (fun e5 => stI h o3 .int x4 e5 (fun h6 => rdO h6 x0 11 55 (fun o7 => ldI h6 o7 (.int) x3 (fun e8 => pX11_rowTo_34 G d x0 e8 (w32 (x4 + (-1))) h6 Q)))))))) : pX11_rowTo_34 G d x0 x3 x4 h Q := by
  unfold pX11_rowTo_34
  refine rz_iload dX11_rowTo_34 (show _ = some (some (vi x4)) from rfl) ?_
  refine rz_if_lt (tgt := 65) dX11_rowTo_36 (by decide) (fun c => ?_) (fun c => ?_)
  · replace hF := ite_t hF c
    refine rz_aload_n dX11_rowTo_65 rfl (show _ = some (some (vo x0)) from rfl) ?_
    replace hF := rcv_e hF
    obtain ⟨fs, hg, hF⟩ := hF
    refine rz_callV (mc' := 0) (ms' := 0) (mc := 0) (ms := 0) (st := []) dX11_rowTo_66 cV_X11_367 rfl hg ⟨_, _, rfl⟩ rfl (Nat.le_of_ble_eq_true rfl) hF (fun v h1 hG => ?_)
    clear hF
    revert hG
    intro hF
    replace hF := atI_e hF
    obtain ⟨r2, rfl, hF⟩ := hF
    exact rz_iret dX11_rowTo_69 trivial hF
  · replace hF := ite_f hF c
    refine rz_aload_n dX11_rowTo_39 rfl (show _ = some (some (vo x0)) from rfl) ?_
    replace hF := rdO_e hF
    obtain ⟨fs, o3, hg, hv, hF⟩ := hF
    refine rz_getf dX11_rowTo_40 fl_X11_92 hg hv ?_
    refine rz_iload dX11_rowTo_43 (show _ = some (some (vi x4)) from rfl) ?_
    refine rz_aload_n dX11_rowTo_45 rfl (show _ = some (some (vo x0)) from rfl) ?_
    replace hF := rdO_e hF
    obtain ⟨fs, o4, hg, hv, hF⟩ := hF
    refine rz_getf dX11_rowTo_46 fl_X11_107 hg hv ?_
    refine rz_iload_n dX11_rowTo_49 rfl (show _ = some (some (vi x3)) from rfl) ?_
    replace hF := ldI_e hF
    obtain ⟨xs, hg, h0, h1, hF⟩ := hF
    refine rz_iald dX11_rowTo_50 hg h0 h1 ?_
    generalize xs.getD _ 0 = e5 at hF ⊢
    replace hF := stI_e hF
    obtain ⟨xs, hg, h0, h1, hF⟩ := hF
    refine rz_iast dX11_rowTo_51 hg h0 h1 ?_
    refine rz_aload_n dX11_rowTo_52 rfl (show _ = some (some (vo x0)) from rfl) ?_
    replace hF := rdO_e hF
    obtain ⟨fs, o7, hg, hv, hF⟩ := hF
    refine rz_getf dX11_rowTo_53 fl_X11_104 hg hv ?_
    refine rz_iload_n dX11_rowTo_56 rfl (show _ = some (some (vi x3)) from rfl) ?_
    replace hF := ldI_e hF
    obtain ⟨xs, hg, h0, h1, hF⟩ := hF
    refine rz_iald dX11_rowTo_57 hg h0 h1 ?_
    generalize xs.getD _ 0 = e8 at hF ⊢
    refine rz_istore_n (ls' := [some (vo x0), none, none, some (vi e8), some (vi x4)]) dX11_rowTo_58 rfl (Nat.le_of_ble_eq_true rfl) rfl ?_
    refine rz_iinc (ls' := [some (vo x0), none, none, some (vi e8), some (vi (w32 (x4 + (-1))))]) dX11_rowTo_59 rfl (Nat.le_of_ble_eq_true rfl) rfl ?_
    refine rz_goto (tgt := 34) dX11_rowTo_62 (by decide) ?_
    exact hF
theorem vX11_rowTo {G : az_G} {d : Nat} {x0 : Nat} {x1 : Int} {x2 : Int} {h : az_H} {Q : Option az_V → az_H → Prop} (hF : rdO h x0 11 57 (fun o1 => ldI h o1 (.int) x1 (fun e2 => wrF h x0 11 48 (.int) (vi (w32 (e2 + 1))) (fun h3 => rdO h3 x0 11 49 (fun o4 => rdI h3 x0 11 48 (fun f5 => stI h3 o4 .int (w32 (f5 - 1)) x2 (fun h6 => rdI h6 x0 11 48 (fun f7 => pX11_rowTo_34 G d x0 x1 (w32 (f7 - 2)) h6 Q)))))))) : cz G mX11_rowTo (d + 1) 0 0 [vo x0, vi x1, vi x2] h Q := by
  refine cz_of (ls := [some (vo x0), some (vi x1), some (vi x2), none, none]) (by decide +kernel) (Nat.le_of_ble_eq_true rfl) rfl ?_
  refine rz_aload_n dX11_rowTo_0 rfl (show _ = some (some (vo x0)) from rfl) ?_
  refine rz_aload_n dX11_rowTo_1 rfl (show _ = some (some (vo x0)) from rfl) ?_
  replace hF := rdO_e hF
  obtain ⟨fs, o1, hg, hv, hF⟩ := hF
  refine rz_getf dX11_rowTo_2 fl_X11_110 hg hv ?_
  refine rz_iload_n dX11_rowTo_5 rfl (show _ = some (some (vi x1)) from rfl) ?_
  replace hF := ldI_e hF
  obtain ⟨xs, hg, h0, h1, hF⟩ := hF
  refine rz_iald dX11_rowTo_6 hg h0 h1 ?_
  generalize xs.getD _ 0 = e2 at hF ⊢
  refine rz_iconst dX11_rowTo_7 rfl (by decide) ?_
  refine rz_iadd dX11_rowTo_8 ?_
  replace hF := wrF_e hF
  obtain ⟨fs, hg, hv, hF⟩ := hF
  refine rz_putf dX11_rowTo_9 fl_X11_346 (Or.inl rfl) hg hv ?_
  refine rz_aload_n dX11_rowTo_12 rfl (show _ = some (some (vo x0)) from rfl) ?_
  replace hF := rdO_e hF
  obtain ⟨fs, o4, hg, hv, hF⟩ := hF
  refine rz_getf dX11_rowTo_13 fl_X11_92 hg hv ?_
  refine rz_aload_n dX11_rowTo_16 rfl (show _ = some (some (vo x0)) from rfl) ?_
  replace hF := rdI_e hF
  obtain ⟨fs, f5, hg, hv, hF⟩ := hF
  refine rz_getf dX11_rowTo_17 fl_X11_346 hg hv ?_
  refine rz_iconst dX11_rowTo_20 rfl (by decide) ?_
  refine rz_isub dX11_rowTo_21 ?_
  refine rz_iload_n dX11_rowTo_22 rfl (show _ = some (some (vi x2)) from rfl) ?_
  replace hF := stI_e hF
  obtain ⟨xs, hg, h0, h1, hF⟩ := hF
  refine rz_iast dX11_rowTo_23 hg h0 h1 ?_
  refine rz_iload_n dX11_rowTo_24 rfl (show _ = some (some (vi x1)) from rfl) ?_
  refine rz_istore_n (ls' := [some (vo x0), some (vi x1), some (vi x2), some (vi x1), none]) dX11_rowTo_25 rfl (Nat.le_of_ble_eq_true rfl) rfl ?_
  refine rz_aload_n dX11_rowTo_26 rfl (show _ = some (some (vo x0)) from rfl) ?_
  replace hF := rdI_e hF
  obtain ⟨fs, f7, hg, hv, hF⟩ := hF
  refine rz_getf dX11_rowTo_27 fl_X11_346 hg hv ?_
  refine rz_iconst dX11_rowTo_30 rfl (by decide) ?_
  refine rz_isub dX11_rowTo_31 ?_
  refine rz_istore (ls' := [some (vo x0), some (vi x1), some (vi x2), some (vi x1), some (vi (w32 (f7 - 2)))]) dX11_rowTo_32 (Nat.le_of_ble_eq_true rfl) rfl ?_
  refine ez_kp [true, false, false, true, true] rfl ?_
  exact hF
def pX11_every_61 (G : az_G) (d : Nat) (x0 : Nat) (x1 : Int) (x2 : Int) (x3 : Int) (h : az_H) (Q : Option az_V → az_H → Prop) : Prop := ez G mX11_every (d + 1) 0 0 61 [some (vo x0), some (vi x1), some (vi x2), some (vi x3), none] [] h Q
def pX11_every_72 (G : az_G) (d : Nat) (x0 : Nat) (x1 : Int) (x2 : Int) (x3 : Int) (x4 : Int) (h : az_H) (Q : Option az_V → az_H → Prop) : Prop := ez G mX11_every (d + 1) 0 0 72 [some (vo x0), some (vi x1), some (vi x2), some (vi x3), some (vi x4)] [] h Q
theorem vX11_every_72 {G : az_G} {d : Nat} {x0 : Nat} {x1 : Int} {x2 : Int} {x3 : Int} {x4 : Int} {h : az_H} {Q : Option az_V → az_H → Prop} (hF : rdI h x0 11 40 (fun f1 => (if f1 ≤ x4 then pX11_every_61 G d x0 x1 x2 (w32 (x3 + 1)) h Q else rdO h x0 11 54 (fun o2 => rcv h x0 11 (cz G mX11_load d 0 0 [vo x0, vo o2, vi x3] h (fun v h3 => atV v (rcv h3 x0 11 (cz G mX11_choose d 0 0 [vo x0, vi x4] h3 (fun v h4 => atV v (rcv h4 x0 11 (cz G mX11_isBroken d 0 0 [vo x0, vi x1] h4 (fun v h5 => atI v (fun r6 => (if r6 = 0 then rdO h5 x0 11 57 (fun o7 => ldI h5 o7 (.int) x3 (fun e8 => (if x2 ≤ w32 (e8 + 1) then pX11_every_72 G d x0 x1 x2 x3 (w32 (x4 + 1)) h5 Q else rdI h5 x0 11 53 (fun f9 => rcv h5 x0 11 (cz G mX11_isThere d 0 0 [vo x0, vi f9] h5 (fun v h10 => atI v (fun r11 => (if r11 = 0 then rdI h10 x0 11 53 (fun f12 => (if f12 = 400 then wrF h10 x0 11 53 (.int) (vi 401) (fun h29 => Q (some (vi ((-2)))) h29) else rdO h10 x0 11 54 (fun o13 => rdI h10 x0 11 53 (fun f14 => rcv h10 x0 11 (cz G mX11_save d 0 0 [vo x0, vo o13, vi f14] h10 (fun v h15 => atV v (rdO h15 x0 11 55 (fun o16 => rdI h15 x0 11 53 (fun f17 => stI h15 o16 .int f17 x3 (fun h18 => rdO h18 x0 11 56 (fun o19 => rdI h18 x0 11 53 (fun f20 => stI h18 o19 .int f20 x4 (fun h21 => rdO h21 x0 11 57 (fun o22 => rdI h21 x0 11 53 (fun f23 => rdO h21 x0 11 57 (fun o24 => ldI h21 o24 (.int) x3 (fun e25 => stI h21 o22 .int f23 (w32 (e25 + 1)) (fun h26 => rdI h26 x0 11 53 (fun f27 => wrF h26 x0 11 53 (.int) (vi (w32 (f27 + 1))) (fun h28 => pX11_every_72 G d x0 x1 x2 x3 (w32 (x4 + 1)) h28 Q)))))))))))))))))))) else pX11_every_72 G d x0 x1 x2 x3 (w32 (x4 + 1)) h10 Q)))))))) else rcv h5 x0 11 (cz G mX11_rowTo d 0 0 [vo x0, vi x3, vi x4] h5 (fun v h30 => atI v (fun r31 => Q (some (vi (w32 (((-10)) - r31)))) h30))))))))))))))))) : pX11_every_72 G d x0 x1 x2 x3 x4 h Q := by
  unfold pX11_every_72
  refine rz_iload dX11_every_72 (show _ = some (some (vi x4)) from rfl) ?_
  refine rz_aload_n dX11_every_74 rfl (show _ = some (some (vo x0)) from rfl) ?_
  replace hF := rdI_e hF
  obtain ⟨fs, f1, hg, hv, hF⟩ := hF
  refine rz_getf dX11_every_75 fl_X11_337 hg hv ?_
  refine rz_icmp_ge (tgt := 224) dX11_every_78 (by decide) (fun c => ?_) (fun c => ?_)
  · replace hF := ite_t hF c
    refine rz_iinc (ls' := [some (vo x0), some (vi x1), some (vi x2), some (vi (w32 (x3 + 1))), some (vi x4)]) dX11_every_224 rfl (Nat.le_of_ble_eq_true rfl) rfl ?_
    refine rz_goto (tgt := 61) dX11_every_227 (by decide) ?_
    refine ez_kp [true, true, true, true, false] rfl ?_
    exact hF
  · replace hF := ite_f hF c
    refine rz_aload_n dX11_every_81 rfl (show _ = some (some (vo x0)) from rfl) ?_
    refine rz_aload_n dX11_every_82 rfl (show _ = some (some (vo x0)) from rfl) ?_
    replace hF := rdO_e hF
    obtain ⟨fs, o2, hg, hv, hF⟩ := hF
    refine rz_getf dX11_every_83 fl_X11_101 hg hv ?_
    refine rz_iload_n dX11_every_86 rfl (show _ = some (some (vi x3)) from rfl) ?_
    replace hF := rcv_e hF
    obtain ⟨fs, hg, hF⟩ := hF
    refine rz_callV (mc' := 0) (ms' := 0) (mc := 0) (ms := 0) (st := []) dX11_every_87 cV_X11_280 rfl hg ⟨_, _, rfl⟩ rfl (Nat.le_of_ble_eq_true rfl) hF (fun v h3 hG => ?_)
    clear hF
    revert hG
    intro hF
    replace hF := atV_e hF
    obtain ⟨rfl, hF⟩ := hF
    refine rz_aload_n dX11_every_90 rfl (show _ = some (some (vo x0)) from rfl) ?_
    refine rz_iload dX11_every_91 (show _ = some (some (vi x4)) from rfl) ?_
    replace hF := rcv_e hF
    obtain ⟨fs, hg, hF⟩ := hF
    refine rz_callV (mc' := 0) (ms' := 0) (mc := 0) (ms := 0) (st := []) dX11_every_93 cV_X11_349 rfl hg ⟨_, _, rfl⟩ rfl (Nat.le_of_ble_eq_true rfl) hF (fun v h4 hG => ?_)
    clear hF
    revert hG
    intro hF
    replace hF := atV_e hF
    obtain ⟨rfl, hF⟩ := hF
    refine rz_aload_n dX11_every_96 rfl (show _ = some (some (vo x0)) from rfl) ?_
    refine rz_iload_n dX11_every_97 rfl (show _ = some (some (vi x1)) from rfl) ?_
    replace hF := rcv_e hF
    obtain ⟨fs, hg, hF⟩ := hF
    refine rz_callV (mc' := 0) (ms' := 0) (mc := 0) (ms := 0) (st := []) dX11_every_98 cV_X11_334 rfl hg ⟨_, _, rfl⟩ rfl (Nat.le_of_ble_eq_true rfl) hF (fun v h5 hG => ?_)
    clear hF
    revert hG
    intro hF
    replace hF := atI_e hF
    obtain ⟨r6, rfl, hF⟩ := hF
    refine rz_if_eq (tgt := 115) dX11_every_101 (by decide) (fun c => ?_) (fun c => ?_)
    · replace hF := ite_t hF c
      refine rz_aload_n dX11_every_115 rfl (show _ = some (some (vo x0)) from rfl) ?_
      replace hF := rdO_e hF
      obtain ⟨fs, o7, hg, hv, hF⟩ := hF
      refine rz_getf dX11_every_116 fl_X11_110 hg hv ?_
      refine rz_iload_n dX11_every_119 rfl (show _ = some (some (vi x3)) from rfl) ?_
      replace hF := ldI_e hF
      obtain ⟨xs, hg, h0, h1, hF⟩ := hF
      refine rz_iald dX11_every_120 hg h0 h1 ?_
      generalize xs.getD _ 0 = e8 at hF ⊢
      refine rz_iconst dX11_every_121 rfl (by decide) ?_
      refine rz_iadd dX11_every_122 ?_
      refine rz_iload_n dX11_every_123 rfl (show _ = some (some (vi x2)) from rfl) ?_
      refine rz_icmp_ge (tgt := 218) dX11_every_124 (by decide) (fun c => ?_) (fun c => ?_)
      · replace hF := ite_t hF c
        refine rz_iinc (ls' := [some (vo x0), some (vi x1), some (vi x2), some (vi x3), some (vi (w32 (x4 + 1)))]) dX11_every_218 rfl (Nat.le_of_ble_eq_true rfl) rfl ?_
        refine rz_goto (tgt := 72) dX11_every_221 (by decide) ?_
        exact hF
      · replace hF := ite_f hF c
        refine rz_aload_n dX11_every_127 rfl (show _ = some (some (vo x0)) from rfl) ?_
        refine rz_aload_n dX11_every_128 rfl (show _ = some (some (vo x0)) from rfl) ?_
        replace hF := rdI_e hF
        obtain ⟨fs, f9, hg, hv, hF⟩ := hF
        refine rz_getf dX11_every_129 fl_X11_358 hg hv ?_
        replace hF := rcv_e hF
        obtain ⟨fs, hg, hF⟩ := hF
        refine rz_callV (mc' := 0) (ms' := 0) (mc := 0) (ms := 0) (st := []) dX11_every_132 cV_X11_364 rfl hg ⟨_, _, rfl⟩ rfl (Nat.le_of_ble_eq_true rfl) hF (fun v h10 hG => ?_)
        clear hF
        revert hG
        intro hF
        replace hF := atI_e hF
        obtain ⟨r11, rfl, hF⟩ := hF
        refine rz_if_ne (tgt := 218) dX11_every_135 (by decide) (fun c => ?_) (fun c => ?_)
        · replace hF := ite_f hF c
          refine rz_iinc (ls' := [some (vo x0), some (vi x1), some (vi x2), some (vi x3), some (vi (w32 (x4 + 1)))]) dX11_every_218 rfl (Nat.le_of_ble_eq_true rfl) rfl ?_
          refine rz_goto (tgt := 72) dX11_every_221 (by decide) ?_
          exact hF
        · replace hF := ite_t hF c
          refine rz_aload_n dX11_every_138 rfl (show _ = some (some (vo x0)) from rfl) ?_
          replace hF := rdI_e hF
          obtain ⟨fs, f12, hg, hv, hF⟩ := hF
          refine rz_getf dX11_every_139 fl_X11_358 hg hv ?_
          refine rz_sipush (v := 400) dX11_every_142 (by decide) (by decide) ?_
          refine rz_icmp_ne (tgt := 158) dX11_every_145 (by decide) (fun c => ?_) (fun c => ?_)
          · replace hF := ite_f hF c
            refine rz_aload_n dX11_every_158 rfl (show _ = some (some (vo x0)) from rfl) ?_
            refine rz_aload_n dX11_every_159 rfl (show _ = some (some (vo x0)) from rfl) ?_
            replace hF := rdO_e hF
            obtain ⟨fs, o13, hg, hv, hF⟩ := hF
            refine rz_getf dX11_every_160 fl_X11_101 hg hv ?_
            refine rz_aload_n dX11_every_163 rfl (show _ = some (some (vo x0)) from rfl) ?_
            replace hF := rdI_e hF
            obtain ⟨fs, f14, hg, hv, hF⟩ := hF
            refine rz_getf dX11_every_164 fl_X11_358 hg hv ?_
            replace hF := rcv_e hF
            obtain ⟨fs, hg, hF⟩ := hF
            refine rz_callV (mc' := 0) (ms' := 0) (mc := 0) (ms := 0) (st := []) dX11_every_167 cV_X11_276 rfl hg ⟨_, _, rfl⟩ rfl (Nat.le_of_ble_eq_true rfl) hF (fun v h15 hG => ?_)
            clear hF
            revert hG
            intro hF
            replace hF := atV_e hF
            obtain ⟨rfl, hF⟩ := hF
            refine rz_aload_n dX11_every_170 rfl (show _ = some (some (vo x0)) from rfl) ?_
            replace hF := rdO_e hF
            obtain ⟨fs, o16, hg, hv, hF⟩ := hF
            refine rz_getf dX11_every_171 fl_X11_104 hg hv ?_
            refine rz_aload_n dX11_every_174 rfl (show _ = some (some (vo x0)) from rfl) ?_
            replace hF := rdI_e hF
            obtain ⟨fs, f17, hg, hv, hF⟩ := hF
            refine rz_getf dX11_every_175 fl_X11_358 hg hv ?_
            refine rz_iload_n dX11_every_178 rfl (show _ = some (some (vi x3)) from rfl) ?_
            replace hF := stI_e hF
            obtain ⟨xs, hg, h0, h1, hF⟩ := hF
            refine rz_iast dX11_every_179 hg h0 h1 ?_
            refine rz_aload_n dX11_every_180 rfl (show _ = some (some (vo x0)) from rfl) ?_
            replace hF := rdO_e hF
            obtain ⟨fs, o19, hg, hv, hF⟩ := hF
            refine rz_getf dX11_every_181 fl_X11_107 hg hv ?_
            refine rz_aload_n dX11_every_184 rfl (show _ = some (some (vo x0)) from rfl) ?_
            replace hF := rdI_e hF
            obtain ⟨fs, f20, hg, hv, hF⟩ := hF
            refine rz_getf dX11_every_185 fl_X11_358 hg hv ?_
            refine rz_iload dX11_every_188 (show _ = some (some (vi x4)) from rfl) ?_
            replace hF := stI_e hF
            obtain ⟨xs, hg, h0, h1, hF⟩ := hF
            refine rz_iast dX11_every_190 hg h0 h1 ?_
            refine rz_aload_n dX11_every_191 rfl (show _ = some (some (vo x0)) from rfl) ?_
            replace hF := rdO_e hF
            obtain ⟨fs, o22, hg, hv, hF⟩ := hF
            refine rz_getf dX11_every_192 fl_X11_110 hg hv ?_
            refine rz_aload_n dX11_every_195 rfl (show _ = some (some (vo x0)) from rfl) ?_
            replace hF := rdI_e hF
            obtain ⟨fs, f23, hg, hv, hF⟩ := hF
            refine rz_getf dX11_every_196 fl_X11_358 hg hv ?_
            refine rz_aload_n dX11_every_199 rfl (show _ = some (some (vo x0)) from rfl) ?_
            replace hF := rdO_e hF
            obtain ⟨fs, o24, hg, hv, hF⟩ := hF
            refine rz_getf dX11_every_200 fl_X11_110 hg hv ?_
            refine rz_iload_n dX11_every_203 rfl (show _ = some (some (vi x3)) from rfl) ?_
            replace hF := ldI_e hF
            obtain ⟨xs, hg, h0, h1, hF⟩ := hF
            refine rz_iald dX11_every_204 hg h0 h1 ?_
            generalize xs.getD _ 0 = e25 at hF ⊢
            refine rz_iconst dX11_every_205 rfl (by decide) ?_
            refine rz_iadd dX11_every_206 ?_
            replace hF := stI_e hF
            obtain ⟨xs, hg, h0, h1, hF⟩ := hF
            refine rz_iast dX11_every_207 hg h0 h1 ?_
            refine rz_aload_n dX11_every_208 rfl (show _ = some (some (vo x0)) from rfl) ?_
            refine rz_dup dX11_every_209 (by rintro ⟨_, q⟩; cases q) ?_
            replace hF := rdI_e hF
            obtain ⟨fs, f27, hg, hv, hF⟩ := hF
            refine rz_getf dX11_every_210 fl_X11_358 hg hv ?_
            refine rz_iconst dX11_every_213 rfl (by decide) ?_
            refine rz_iadd dX11_every_214 ?_
            replace hF := wrF_e hF
            obtain ⟨fs, hg, hv, hF⟩ := hF
            refine rz_putf dX11_every_215 fl_X11_358 (Or.inl rfl) hg hv ?_
            refine rz_iinc (ls' := [some (vo x0), some (vi x1), some (vi x2), some (vi x3), some (vi (w32 (x4 + 1)))]) dX11_every_218 rfl (Nat.le_of_ble_eq_true rfl) rfl ?_
            refine rz_goto (tgt := 72) dX11_every_221 (by decide) ?_
            exact hF
          · replace hF := ite_t hF c
            refine rz_aload_n dX11_every_148 rfl (show _ = some (some (vo x0)) from rfl) ?_
            refine rz_sipush (v := 401) dX11_every_149 (by decide) (by decide) ?_
            replace hF := wrF_e hF
            obtain ⟨fs, hg, hv, hF⟩ := hF
            refine rz_putf dX11_every_152 fl_X11_358 (Or.inl rfl) hg hv ?_
            refine rz_bipush (v := (-2)) dX11_every_155 (by decide) (by decide) ?_
            exact rz_iret dX11_every_157 trivial hF
    · replace hF := ite_f hF c
      refine rz_bipush (v := (-10)) dX11_every_104 (by decide) (by decide) ?_
      refine rz_aload_n dX11_every_106 rfl (show _ = some (some (vo x0)) from rfl) ?_
      refine rz_iload_n dX11_every_107 rfl (show _ = some (some (vi x3)) from rfl) ?_
      refine rz_iload dX11_every_108 (show _ = some (some (vi x4)) from rfl) ?_
      replace hF := rcv_e hF
      obtain ⟨fs, hg, hF⟩ := hF
      refine rz_callV (mc' := 0) (ms' := 0) (mc := 0) (ms := 0) (st := [vi ((-10))]) dX11_every_110 cV_X11_361 rfl hg ⟨_, _, rfl⟩ rfl (Nat.le_of_ble_eq_true rfl) hF (fun v h30 hG => ?_)
      clear hF
      revert hG
      intro hF
      replace hF := atI_e hF
      obtain ⟨r31, rfl, hF⟩ := hF
      refine rz_isub dX11_every_113 ?_
      exact rz_iret dX11_every_114 trivial hF
theorem vX11_every_61 {G : az_G} {d : Nat} {x0 : Nat} {x1 : Int} {x2 : Int} {x3 : Int} {h : az_H} {Q : Option az_V → az_H → Prop} (hF : rdI h x0 11 53 (fun f1 => (if f1 ≤ x3 then Q (some (vi 1)) h else pX11_every_72 G d x0 x1 x2 x3 0 h Q))) : pX11_every_61 G d x0 x1 x2 x3 h Q := by
  unfold pX11_every_61
  refine rz_iload_n dX11_every_61 rfl (show _ = some (some (vi x3)) from rfl) ?_
  refine rz_aload_n dX11_every_62 rfl (show _ = some (some (vo x0)) from rfl) ?_
  replace hF := rdI_e hF
  obtain ⟨fs, f1, hg, hv, hF⟩ := hF
  refine rz_getf dX11_every_63 fl_X11_358 hg hv ?_
  refine rz_icmp_ge (tgt := 230) dX11_every_66 (by decide) (fun c => ?_) (fun c => ?_)
  · replace hF := ite_t hF c
    refine rz_iconst dX11_every_230 rfl (by decide) ?_
    exact rz_iret dX11_every_231 trivial hF
  · replace hF := ite_f hF c
    refine rz_iconst dX11_every_69 rfl (by decide) ?_
    refine rz_istore (ls' := [some (vo x0), some (vi x1), some (vi x2), some (vi x3), some (vi 0)]) dX11_every_70 (Nat.le_of_ble_eq_true rfl) rfl ?_
    exact hF
theorem vX11_every {G : az_G} {d : Nat} {x0 : Nat} {x1 : Int} {x2 : Int} {h : az_H} {Q : Option az_V → az_H → Prop} (hF : rcv h x0 11 (cz G mX11_isRule d 0 0 [vo x0, vi x1] h (fun v h1 => atI v (fun r2 => (if r2 = 0 then Q (some (vi ((-1)))) h1 else cz G mX11_in d 0 0 [vl x2, vl 1, vl 12] h1 (fun v h3 => atI v (fun r4 => (if r4 = 0 then Q (some (vi ((-1)))) h3 else rdI h3 x0 11 45 (fun f5 => (if f5 = 20 then Q (some (vi ((-3)))) h3 else rcv h3 x0 11 (cz G mX11_toStart d 0 0 [vo x0] h3 (fun v h6 => atV v (rdO h6 x0 11 54 (fun o7 => rcv h6 x0 11 (cz G mX11_save d 0 0 [vo x0, vo o7, vi 0] h6 (fun v h8 => atV v (rdO h8 x0 11 57 (fun o9 => stI h8 o9 .int 0 0 (fun h10 => wrF h10 x0 11 53 (.int) (vi 1) (fun h11 => pX11_every_61 G d x0 x1 x2 0 h11 Q)))))))))))))))))))) : cz G mX11_every (d + 1) 0 0 [vo x0, vi x1, vi x2] h Q := by
  refine cz_of (ls := [some (vo x0), some (vi x1), some (vi x2), none, none]) (by decide +kernel) (Nat.le_of_ble_eq_true rfl) rfl ?_
  refine rz_aload_n dX11_every_0 rfl (show _ = some (some (vo x0)) from rfl) ?_
  refine rz_iload_n dX11_every_1 rfl (show _ = some (some (vi x1)) from rfl) ?_
  replace hF := rcv_e hF
  obtain ⟨fs, hg, hF⟩ := hF
  refine rz_callV (mc' := 0) (ms' := 0) (mc := 0) (ms := 0) (st := []) dX11_every_2 cV_X11_331 rfl hg ⟨_, _, rfl⟩ rfl (Nat.le_of_ble_eq_true rfl) hF (fun v h1 hG => ?_)
  clear hF
  revert hG
  intro hF
  replace hF := atI_e hF
  obtain ⟨r2, rfl, hF⟩ := hF
  refine rz_if_eq (tgt := 20) dX11_every_5 (by decide) (fun c => ?_) (fun c => ?_)
  · replace hF := ite_t hF c
    refine rz_iconst dX11_every_20 rfl (by decide) ?_
    exact rz_iret dX11_every_21 trivial hF
  · replace hF := ite_f hF c
    refine rz_iload_n dX11_every_8 rfl (show _ = some (some (vi x2)) from rfl) ?_
    refine rz_i2l dX11_every_9 ?_
    refine rz_lconst (v := 1) dX11_every_10 (by decide) (by decide) ?_
    refine rz_ldc2 (v := 12) dX11_every_11 k_1446 (by decide) ?_
    refine rz_callS (mc' := 0) (ms' := 0) (mc := 0) (ms := 0) (st := []) dX11_every_14 cS_X11_117 rfl rfl (Nat.le_of_ble_eq_true rfl) hF (fun v h3 hG => ?_)
    clear hF
    revert hG
    intro hF
    replace hF := atI_e hF
    obtain ⟨r4, rfl, hF⟩ := hF
    refine rz_if_ne (tgt := 22) dX11_every_17 (by decide) (fun c => ?_) (fun c => ?_)
    · replace hF := ite_f hF c
      refine rz_aload_n dX11_every_22 rfl (show _ = some (some (vo x0)) from rfl) ?_
      replace hF := rdI_e hF
      obtain ⟨fs, f5, hg, hv, hF⟩ := hF
      refine rz_getf dX11_every_23 fl_X11_340 hg hv ?_
      refine rz_bipush (v := 20) dX11_every_26 (by decide) (by decide) ?_
      refine rz_icmp_ne (tgt := 34) dX11_every_28 (by decide) (fun c => ?_) (fun c => ?_)
      · replace hF := ite_f hF c
        refine rz_aload_n dX11_every_34 rfl (show _ = some (some (vo x0)) from rfl) ?_
        replace hF := rcv_e hF
        obtain ⟨fs, hg, hF⟩ := hF
        refine rz_callV (mc' := 0) (ms' := 0) (mc := 0) (ms := 0) (st := []) dX11_every_35 cV_X11_317 rfl hg ⟨_, _, rfl⟩ rfl (Nat.le_of_ble_eq_true rfl) hF (fun v h6 hG => ?_)
        clear hF
        revert hG
        intro hF
        replace hF := atV_e hF
        obtain ⟨rfl, hF⟩ := hF
        refine rz_aload_n dX11_every_38 rfl (show _ = some (some (vo x0)) from rfl) ?_
        refine rz_aload_n dX11_every_39 rfl (show _ = some (some (vo x0)) from rfl) ?_
        replace hF := rdO_e hF
        obtain ⟨fs, o7, hg, hv, hF⟩ := hF
        refine rz_getf dX11_every_40 fl_X11_101 hg hv ?_
        refine rz_iconst dX11_every_43 rfl (by decide) ?_
        replace hF := rcv_e hF
        obtain ⟨fs, hg, hF⟩ := hF
        refine rz_callV (mc' := 0) (ms' := 0) (mc := 0) (ms := 0) (st := []) dX11_every_44 cV_X11_276 rfl hg ⟨_, _, rfl⟩ rfl (Nat.le_of_ble_eq_true rfl) hF (fun v h8 hG => ?_)
        clear hF
        revert hG
        intro hF
        replace hF := atV_e hF
        obtain ⟨rfl, hF⟩ := hF
        refine rz_aload_n dX11_every_47 rfl (show _ = some (some (vo x0)) from rfl) ?_
        replace hF := rdO_e hF
        obtain ⟨fs, o9, hg, hv, hF⟩ := hF
        refine rz_getf dX11_every_48 fl_X11_110 hg hv ?_
        refine rz_iconst dX11_every_51 rfl (by decide) ?_
        refine rz_iconst dX11_every_52 rfl (by decide) ?_
        replace hF := stI_e hF
        obtain ⟨xs, hg, h0, h1, hF⟩ := hF
        refine rz_iast dX11_every_53 hg h0 h1 ?_
        refine rz_aload_n dX11_every_54 rfl (show _ = some (some (vo x0)) from rfl) ?_
        refine rz_iconst dX11_every_55 rfl (by decide) ?_
        replace hF := wrF_e hF
        obtain ⟨fs, hg, hv, hF⟩ := hF
        refine rz_putf dX11_every_56 fl_X11_358 (Or.inl rfl) hg hv ?_
        refine rz_iconst dX11_every_59 rfl (by decide) ?_
        refine rz_istore_n (ls' := [some (vo x0), some (vi x1), some (vi x2), some (vi 0), none]) dX11_every_60 rfl (Nat.le_of_ble_eq_true rfl) rfl ?_
        exact hF
      · replace hF := ite_t hF c
        refine rz_bipush (v := (-3)) dX11_every_31 (by decide) (by decide) ?_
        exact rz_iret dX11_every_33 trivial hF
    · replace hF := ite_t hF c
      refine rz_iconst dX11_every_20 rfl (by decide) ?_
      exact rz_iret dX11_every_21 trivial hF
