def pL_law_18 (G : az_G) (d : Nat) (mc ms : Nat) (x1 : Nat) (x2 : Nat) (x3 : Int) (h : az_H) (Q : Option az_V → az_H → Prop) : Prop := ez G mL_law (d + 1) mc ms 18 [some (vo 0), some (vo x1), some (vo x2), some (vi x3)] [] h Q
theorem vL_law_18 {G : az_G} {d : Nat} {mc ms : Nat} {x1 : Nat} {x2 : Nat} {x3 : Int} {h : az_H} {Q : Option az_V → az_H → Prop} (hF : scL h (fun n1 => (if w32 (n1 - 5) < x3 then Q (some (vi 1)) h else ldI h 0 .float x3 (fun e2 => (if bAnd e2 31 = 0 then ldI h 0 .float (w32 (x3 + 1)) (fun e3 => ldI h 0 .float (w32 (x3 + 2)) (fun e4 => ldI h 0 .float (w32 (x3 + 3)) (fun e5 => ldI h 0 .float (w32 (x3 + 4)) (fun e6 => rcv h x1 10 (cz G mX10_feed d 0 0 [vo x1, vi e3, vi e4, vi e5, vi e6] h (fun v h7 => atI v (fun r8 => ldI h7 0 .float (w32 (x3 + 1)) (fun e9 => ldI h7 0 .float (w32 (x3 + 2)) (fun e10 => ldI h7 0 .float (w32 (x3 + 3)) (fun e11 => ldI h7 0 .float (w32 (x3 + 4)) (fun e12 => rcv h7 x2 11 (cz G mX11_feed d 0 0 [vo x2, vi e9, vi e10, vi e11, vi e12] h7 (fun v h13 => atI v (fun r14 => (if r8 = r14 then pL_law_18 G d mc ms x1 x2 (w32 (x3 + 5)) h13 Q else Q (some (vi 0)) h13))))))))))))))) else (if bAnd e2 31 = 1 then ldI h 0 .float (w32 (x3 + 1)) (fun e16 => rcv h x1 10 (cz G mX10_cut d 0 0 [vo x1, vi e16] h (fun v h17 => atI v (fun r18 => ldI h17 0 .float (w32 (x3 + 1)) (fun e19 => rcv h17 x2 11 (cz G mX11_cut d 0 0 [vo x2, vi e19] h17 (fun v h20 => atI v (fun r21 => (if r18 = r21 then pL_law_18 G d mc ms x1 x2 (w32 (x3 + 5)) h20 Q else Q (some (vi 0)) h20))))))))) else (if bAnd e2 31 = 2 then ldI h 0 .float (w32 (x3 + 1)) (fun e23 => rcv h x1 10 (cz G mX10_method d 3 421 [vo x1, vi e23] h (fun v h24 => atI v (fun r25 => ldI h24 0 .float (w32 (x3 + 1)) (fun e26 => rcv h24 x2 11 (cz G mX11_method d 0 0 [vo x2, vi e26] h24 (fun v h27 => atI v (fun r28 => (if r25 = r28 then pL_law_18 G d mc ms x1 x2 (w32 (x3 + 5)) h27 Q else Q (some (vi 0)) h27))))))))) else (if bAnd e2 31 = 3 then rcv h x1 10 (cz G mX10_rule d 3 421 [vo x1] h (fun v h30 => atI v (fun r31 => rcv h30 x2 11 (cz G mX11_rule d 0 0 [vo x2] h30 (fun v h32 => atI v (fun r33 => (if r31 = r33 then pL_law_18 G d mc ms x1 x2 (w32 (x3 + 5)) h32 Q else Q (some (vi 0)) h32))))))) else (if bAnd e2 31 = 4 then ldI h 0 .float (w32 (x3 + 1)) (fun e35 => ldI h 0 .float (w32 (x3 + 2)) (fun e36 => ldI h 0 .float (w32 (x3 + 3)) (fun e37 => ldI h 0 .float (w32 (x3 + 4)) (fun e38 => rcv h x1 10 (cz G mX10_actor d 1 4 [vo x1, vi e35, vi e36, vi e37, vi e38] h (fun v h39 => atI v (fun r40 => ldI h39 0 .float (w32 (x3 + 1)) (fun e41 => ldI h39 0 .float (w32 (x3 + 2)) (fun e42 => ldI h39 0 .float (w32 (x3 + 3)) (fun e43 => ldI h39 0 .float (w32 (x3 + 4)) (fun e44 => rcv h39 x2 11 (cz G mX11_actor d 0 0 [vo x2, vi e41, vi e42, vi e43, vi e44] h39 (fun v h45 => atI v (fun r46 => (if r40 = r46 then pL_law_18 G d mc ms x1 x2 (w32 (x3 + 5)) h45 Q else Q (some (vi 0)) h45))))))))))))))) else (if bAnd e2 31 = 5 then ldI h 0 .float (w32 (x3 + 1)) (fun e48 => ldI h 0 .float (w32 (x3 + 2)) (fun e49 => ldI h 0 .float (w32 (x3 + 3)) (fun e50 => ldI h 0 .float (w32 (x3 + 4)) (fun e51 => rcv h x1 10 (cz G mX10_call d 1 4 [vo x1, vi e48, vi e49, vi e50, vi e51] h (fun v h52 => atI v (fun r53 => ldI h52 0 .float (w32 (x3 + 1)) (fun e54 => ldI h52 0 .float (w32 (x3 + 2)) (fun e55 => ldI h52 0 .float (w32 (x3 + 3)) (fun e56 => ldI h52 0 .float (w32 (x3 + 4)) (fun e57 => rcv h52 x2 11 (cz G mX11_call d 0 0 [vo x2, vi e54, vi e55, vi e56, vi e57] h52 (fun v h58 => atI v (fun r59 => (if r53 = r59 then pL_law_18 G d mc ms x1 x2 (w32 (x3 + 5)) h58 Q else Q (some (vi 0)) h58))))))))))))))) else (if bAnd e2 31 = 6 then rcv h x1 10 (cz G mX10_start d 0 0 [vo x1] h (fun v h61 => atI v (fun r62 => rcv h61 x2 11 (cz G mX11_start d 0 0 [vo x2] h61 (fun v h63 => atI v (fun r64 => (if r62 = r64 then pL_law_18 G d mc ms x1 x2 (w32 (x3 + 5)) h63 Q else Q (some (vi 0)) h63))))))) else (if bAnd e2 31 = 7 then ldI h 0 .float (w32 (x3 + 1)) (fun e66 => rcv h x1 10 (cz G mX10_state d 0 0 [vo x1, vi e66] h (fun v h67 => atI v (fun r68 => ldI h67 0 .float (w32 (x3 + 1)) (fun e69 => rcv h67 x2 11 (cz G mX11_state d 0 0 [vo x2, vi e69] h67 (fun v h70 => atI v (fun r71 => (if r68 = r71 then pL_law_18 G d mc ms x1 x2 (w32 (x3 + 5)) h70 Q else Q (some (vi 0)) h70))))))))) else (if bAnd e2 31 = 8 then ldI h 0 .float (w32 (x3 + 1)) (fun e73 => rcv h x1 10 (cz G mX10_holds d 0 0 [vo x1, vi e73] h (fun v h74 => atI v (fun r75 => ldI h74 0 .float (w32 (x3 + 1)) (fun e76 => rcv h74 x2 11 (cz G mX11_holds d 0 0 [vo x2, vi e76] h74 (fun v h77 => atI v (fun r78 => (if r75 = r78 then pL_law_18 G d mc ms x1 x2 (w32 (x3 + 5)) h77 Q else Q (some (vi 0)) h77))))))))) else (if bAnd e2 31 = 9 then ldI h 0 .float (w32 (x3 + 1)) (fun e80 => ldI h 0 .float (w32 (x3 + 2)) (fun e81 => ldI h 0 .float (w32 (x3 + 3)) (fun e82 => ldI h 0 .float (w32 (x3 + 4)) (fun e83 => rcv h x1 10 (cz G mX10_choice d 1 4 [vo x1, vi e80, vi e81, vi e82, vi e83] h (fun v h84 => atI v (fun r85 => ldI h84 0 .float (w32 (x3 + 1)) (fun e86 => ldI h84 0 .float (w32 (x3 + 2)) (fun e87 => ldI h84 0 .float (w32 (x3 + 3)) (fun e88 => ldI h84 0 .float (w32 (x3 + 4)) (fun e89 => rcv h84 x2 11 (cz G mX11_choice d 0 0 [vo x2, vi e86, vi e87, vi e88, vi e89] h84 (fun v h90 => atI v (fun r91 => (if r85 = r91 then pL_law_18 G d mc ms x1 x2 (w32 (x3 + 5)) h90 Q else Q (some (vi 0)) h90))))))))))))))) else (if bAnd e2 31 = 10 then rcv h x1 10 (cz G mX10_fresh d 0 0 [vo x1] h (fun v h93 => atI v (fun r94 => rcv h93 x2 11 (cz G mX11_fresh d 0 0 [vo x2] h93 (fun v h95 => atI v (fun r96 => (if r94 = r96 then pL_law_18 G d mc ms x1 x2 (w32 (x3 + 5)) h95 Q else Q (some (vi 0)) h95))))))) else (if bAnd e2 31 = 11 then ldI h 0 .float (w32 (x3 + 1)) (fun e98 => ldI h 0 .float (w32 (x3 + 2)) (fun e99 => rcv h x1 10 (cz G mX10_every d 0 0 [vo x1, vi e98, vi e99] h (fun v h100 => atI v (fun r101 => ldI h100 0 .float (w32 (x3 + 1)) (fun e102 => ldI h100 0 .float (w32 (x3 + 2)) (fun e103 => rcv h100 x2 11 (cz G mX11_every d 0 0 [vo x2, vi e102, vi e103] h100 (fun v h104 => atI v (fun r105 => (if r101 = r105 then pL_law_18 G d mc ms x1 x2 (w32 (x3 + 5)) h104 Q else Q (some (vi 0)) h104))))))))))) else (if bAnd e2 31 = 12 then rcv h x1 10 (cz G mX10_states d 0 0 [vo x1] h (fun v h107 => atI v (fun r108 => rcv h107 x2 11 (cz G mX11_states d 0 0 [vo x2] h107 (fun v h109 => atI v (fun r110 => (if r108 = r110 then pL_law_18 G d mc ms x1 x2 (w32 (x3 + 5)) h109 Q else Q (some (vi 0)) h109))))))) else (if bAnd e2 31 = 13 then ldI h 0 .float (w32 (x3 + 1)) (fun e112 => ldI h 0 .float (w32 (x3 + 2)) (fun e113 => ldI h 0 .float (w32 (x3 + 3)) (fun e114 => rcv h x1 10 (cz G mX10_draw d 0 0 [vo x1, vi e112, vi e113, vi e114] h (fun v h115 => atI v (fun r116 => ldI h115 0 .float (w32 (x3 + 1)) (fun e117 => ldI h115 0 .float (w32 (x3 + 2)) (fun e118 => ldI h115 0 .float (w32 (x3 + 3)) (fun e119 => rcv h115 x2 11 (cz G mX11_draw d 0 0 [vo x2, vi e117, vi e118, vi e119] h115 (fun v h120 => atI v (fun r121 => (if r116 = r121 then pL_law_18 G d mc ms x1 x2 (w32 (x3 + 5)) h120 Q else Q (some (vi 0)) h120))))))))))))) else (if bAnd e2 31 = 14 then ldI h 0 .float (w32 (x3 + 1)) (fun e123 => ldI h 0 .float (w32 (x3 + 2)) (fun e124 => ldI h 0 .float (w32 (x3 + 3)) (fun e125 => rcv h x1 10 (cz G mX10_row d 0 0 [vo x1, vl (lOr (lShl e123 32) (lAnd e124 4294967295)), vi e125] h (fun v h126 => atI v (fun r127 => ldI h126 0 .float (w32 (x3 + 1)) (fun e128 => ldI h126 0 .float (w32 (x3 + 2)) (fun e129 => ldI h126 0 .float (w32 (x3 + 3)) (fun e130 => rcv h126 x2 11 (cz G mX11_row d 0 0 [vo x2, vl (lOr (lShl e128 32) (lAnd e129 4294967295)), vi e130] h126 (fun v h131 => atI v (fun r132 => (if r127 = r132 then pL_law_18 G d mc ms x1 x2 (w32 (x3 + 5)) h131 Q else Q (some (vi 0)) h131))))))))))))) else (if bAnd e2 31 = 15 then ldI h 0 .float (w32 (x3 + 1)) (fun e134 => ldI h 0 .float (w32 (x3 + 2)) (fun e135 => rcv h x1 10 (cz G mX10_least d 0 0 [vo x1, vi e134, vi e135] h (fun v h136 => atI v (fun r137 => ldI h136 0 .float (w32 (x3 + 1)) (fun e138 => ldI h136 0 .float (w32 (x3 + 2)) (fun e139 => rcv h136 x2 11 (cz G mX11_least d 0 0 [vo x2, vi e138, vi e139] h136 (fun v h140 => atI v (fun r141 => (if r137 = r141 then pL_law_18 G d mc ms x1 x2 (w32 (x3 + 5)) h140 Q else Q (some (vi 0)) h140))))))))))) else (if bAnd e2 31 = 16 then ldI h 0 .float (w32 (x3 + 1)) (fun e143 => ldI h 0 .float (w32 (x3 + 2)) (fun e144 => rcv h x1 10 (cz G mX10_at d 0 0 [vo x1, vi e143, vi e144] h (fun v h145 => atI v (fun r146 => ldI h145 0 .float (w32 (x3 + 1)) (fun e147 => ldI h145 0 .float (w32 (x3 + 2)) (fun e148 => rcv h145 x2 11 (cz G mX11_at_ d 0 0 [vo x2, vi e147, vi e148] h145 (fun v h149 => atI v (fun r150 => (if r146 = r150 then pL_law_18 G d mc ms x1 x2 (w32 (x3 + 5)) h149 Q else Q (some (vi 0)) h149))))))))))) else (if bAnd e2 31 = 17 then ldI h 0 .float (w32 (x3 + 1)) (fun e152 => ldI h 0 .float (w32 (x3 + 2)) (fun e153 => rcv h x1 10 (cz G mX10_breaks d 0 0 [vo x1, vi e152, vi e153] h (fun v h154 => atI v (fun r155 => ldI h154 0 .float (w32 (x3 + 1)) (fun e156 => ldI h154 0 .float (w32 (x3 + 2)) (fun e157 => rcv h154 x2 11 (cz G mX11_breaks d 0 0 [vo x2, vi e156, vi e157] h154 (fun v h158 => atI v (fun r159 => (if r155 = r159 then pL_law_18 G d mc ms x1 x2 (w32 (x3 + 5)) h158 Q else Q (some (vi 0)) h158))))))))))) else (if bAnd e2 31 = 18 then ldI h 0 .float (w32 (x3 + 1)) (fun e161 => ldI h 0 .float (w32 (x3 + 2)) (fun e162 => rcv h x1 10 (cz G mX10_profit d 0 0 [vo x1, vi e161, vi e162] h (fun v h163 => atI v (fun r164 => ldI h163 0 .float (w32 (x3 + 1)) (fun e165 => ldI h163 0 .float (w32 (x3 + 2)) (fun e166 => rcv h163 x2 11 (cz G mX11_profit d 0 0 [vo x2, vi e165, vi e166] h163 (fun v h167 => atI v (fun r168 => (if r164 = r168 then pL_law_18 G d mc ms x1 x2 (w32 (x3 + 5)) h167 Q else Q (some (vi 0)) h167))))))))))) else (if bAnd e2 31 = 19 then ldI h 0 .float (w32 (x3 + 1)) (fun e170 => ldI h 0 .float (w32 (x3 + 2)) (fun e171 => rcv h x1 10 (cz G mX10_met d 0 0 [vo x1, vi e170, vi e171] h (fun v h172 => atI v (fun r173 => ldI h172 0 .float (w32 (x3 + 1)) (fun e174 => ldI h172 0 .float (w32 (x3 + 2)) (fun e175 => rcv h172 x2 11 (cz G mX11_met d 0 0 [vo x2, vi e174, vi e175] h172 (fun v h176 => atI v (fun r177 => (if r173 = r177 then pL_law_18 G d mc ms x1 x2 (w32 (x3 + 5)) h176 Q else Q (some (vi 0)) h176))))))))))) else (if bAnd e2 31 = 20 then ldI h 0 .float (w32 (x3 + 1)) (fun e179 => ldI h 0 .float (w32 (x3 + 2)) (fun e180 => rcv h x1 10 (cz G mX10_kept d 0 0 [vo x1, vi e179, vi e180] h (fun v h181 => atI v (fun r182 => ldI h181 0 .float (w32 (x3 + 1)) (fun e183 => ldI h181 0 .float (w32 (x3 + 2)) (fun e184 => rcv h181 x2 11 (cz G mX11_kept d 0 0 [vo x2, vi e183, vi e184] h181 (fun v h185 => atI v (fun r186 => (if r182 = r186 then pL_law_18 G d mc ms x1 x2 (w32 (x3 + 5)) h185 Q else Q (some (vi 0)) h185))))))))))) else (if bAnd e2 31 = 21 then ldI h 0 .float (w32 (x3 + 1)) (fun e188 => rcv h x1 10 (cz G mX10_told d 0 0 [vo x1, vi e188] h (fun v h189 => atI v (fun r190 => ldI h189 0 .float (w32 (x3 + 1)) (fun e191 => rcv h189 x2 11 (cz G mX11_told d 0 0 [vo x2, vi e191] h189 (fun v h192 => atI v (fun r193 => (if r190 = r193 then pL_law_18 G d mc ms x1 x2 (w32 (x3 + 5)) h192 Q else Q (some (vi 0)) h192))))))))) else pL_law_18 G d mc ms x1 x2 (w32 (x3 + 5)) h Q)))))))))))))))))))))))))) : pL_law_18 G d (mc + 3) (ms + 421) x1 x2 x3 h Q := by
  unfold pL_law_18
  refine rz_iload_n dL_law_18 rfl (show _ = some (some (vi x3)) from rfl) ?_
  refine rz_aload_n dL_law_19 rfl (show _ = some (some (vo 0)) from rfl) ?_
  replace hF := scL_e hF
  obtain ⟨xs, n1, hg, hn, hF⟩ := hF
  refine rz_slen dL_law_20 hg hn ?_
  refine rz_iconst dL_law_21 rfl (by decide) ?_
  refine rz_isub dL_law_22 ?_
  refine rz_icmp_gt (tgt := 858) dL_law_23 (by decide) (fun c => ?_) (fun c => ?_)
  · replace hF := ite_t hF c
    refine rz_iconst dL_law_858 rfl (by decide) ?_
    exact rz_iret dL_law_859 (Or.inr rfl) hF
  · replace hF := ite_f hF c
    refine rz_aload_n dL_law_26 rfl (show _ = some (some (vo 0)) from rfl) ?_
    refine rz_iload_n dL_law_27 rfl (show _ = some (some (vi x3)) from rfl) ?_
    replace hF := ldI_e hF
    obtain ⟨xs, hg, h0, h1, hF⟩ := hF
    refine rz_sld dL_law_28 hg h0 h1 ?_
    generalize xs.getD _ 0 = e2 at hF ⊢
    refine rz_bipush (v := 31) dL_law_29 (by decide) (by decide) ?_
    refine rz_iand dL_law_31 ?_
    by_cases c15 : bAnd e2 31 = 0
    · replace hF := ite_t hF c15
      refine rz_tsIn (off := 104) (tgt := 136) dL_law_32 (by omega) (by omega) (by rw [c15]; rfl) (by decide) ?_
      refine rz_aload_n dL_law_136 rfl (show _ = some (some (vo x1)) from rfl) ?_
      refine rz_aload_n dL_law_137 rfl (show _ = some (some (vo 0)) from rfl) ?_
      refine rz_iload_n dL_law_138 rfl (show _ = some (some (vi x3)) from rfl) ?_
      refine rz_iconst dL_law_139 rfl (by decide) ?_
      refine rz_iadd dL_law_140 ?_
      replace hF := ldI_e hF
      obtain ⟨xs, hg, h0, h1, hF⟩ := hF
      refine rz_sld dL_law_141 hg h0 h1 ?_
      generalize xs.getD _ 0 = e3 at hF ⊢
      refine rz_aload_n dL_law_142 rfl (show _ = some (some (vo 0)) from rfl) ?_
      refine rz_iload_n dL_law_143 rfl (show _ = some (some (vi x3)) from rfl) ?_
      refine rz_iconst dL_law_144 rfl (by decide) ?_
      refine rz_iadd dL_law_145 ?_
      replace hF := ldI_e hF
      obtain ⟨xs, hg, h0, h1, hF⟩ := hF
      refine rz_sld dL_law_146 hg h0 h1 ?_
      generalize xs.getD _ 0 = e4 at hF ⊢
      refine rz_aload_n dL_law_147 rfl (show _ = some (some (vo 0)) from rfl) ?_
      refine rz_iload_n dL_law_148 rfl (show _ = some (some (vi x3)) from rfl) ?_
      refine rz_iconst dL_law_149 rfl (by decide) ?_
      refine rz_iadd dL_law_150 ?_
      replace hF := ldI_e hF
      obtain ⟨xs, hg, h0, h1, hF⟩ := hF
      refine rz_sld dL_law_151 hg h0 h1 ?_
      generalize xs.getD _ 0 = e5 at hF ⊢
      refine rz_aload_n dL_law_152 rfl (show _ = some (some (vo 0)) from rfl) ?_
      refine rz_iload_n dL_law_153 rfl (show _ = some (some (vi x3)) from rfl) ?_
      refine rz_iconst dL_law_154 rfl (by decide) ?_
      refine rz_iadd dL_law_155 ?_
      replace hF := ldI_e hF
      obtain ⟨xs, hg, h0, h1, hF⟩ := hF
      refine rz_sld dL_law_156 hg h0 h1 ?_
      generalize xs.getD _ 0 = e6 at hF ⊢
      replace hF := rcv_e hF
      obtain ⟨fs, hg, hF⟩ := hF
      refine ez_wide (mc := 0 + (mc + 3)) (ms := 0 + (ms + 421)) (by omega) (by omega) ?_
      refine rz_callV (mc' := 0) (ms' := 0) (mc := (mc + 3)) (ms := (ms + 421)) (st := []) dL_law_157 cV_L_13 rfl hg ⟨_, _, rfl⟩ rfl (Nat.le_of_ble_eq_true rfl) hF (fun v h7 hG => ?_)
      clear hF
      revert hG
      intro hF
      replace hF := atI_e hF
      obtain ⟨r8, rfl, hF⟩ := hF
      refine rz_aload_n dL_law_160 rfl (show _ = some (some (vo x2)) from rfl) ?_
      refine rz_aload_n dL_law_161 rfl (show _ = some (some (vo 0)) from rfl) ?_
      refine rz_iload_n dL_law_162 rfl (show _ = some (some (vi x3)) from rfl) ?_
      refine rz_iconst dL_law_163 rfl (by decide) ?_
      refine rz_iadd dL_law_164 ?_
      replace hF := ldI_e hF
      obtain ⟨xs, hg, h0, h1, hF⟩ := hF
      refine rz_sld dL_law_165 hg h0 h1 ?_
      generalize xs.getD _ 0 = e9 at hF ⊢
      refine rz_aload_n dL_law_166 rfl (show _ = some (some (vo 0)) from rfl) ?_
      refine rz_iload_n dL_law_167 rfl (show _ = some (some (vi x3)) from rfl) ?_
      refine rz_iconst dL_law_168 rfl (by decide) ?_
      refine rz_iadd dL_law_169 ?_
      replace hF := ldI_e hF
      obtain ⟨xs, hg, h0, h1, hF⟩ := hF
      refine rz_sld dL_law_170 hg h0 h1 ?_
      generalize xs.getD _ 0 = e10 at hF ⊢
      refine rz_aload_n dL_law_171 rfl (show _ = some (some (vo 0)) from rfl) ?_
      refine rz_iload_n dL_law_172 rfl (show _ = some (some (vi x3)) from rfl) ?_
      refine rz_iconst dL_law_173 rfl (by decide) ?_
      refine rz_iadd dL_law_174 ?_
      replace hF := ldI_e hF
      obtain ⟨xs, hg, h0, h1, hF⟩ := hF
      refine rz_sld dL_law_175 hg h0 h1 ?_
      generalize xs.getD _ 0 = e11 at hF ⊢
      refine rz_aload_n dL_law_176 rfl (show _ = some (some (vo 0)) from rfl) ?_
      refine rz_iload_n dL_law_177 rfl (show _ = some (some (vi x3)) from rfl) ?_
      refine rz_iconst dL_law_178 rfl (by decide) ?_
      refine rz_iadd dL_law_179 ?_
      replace hF := ldI_e hF
      obtain ⟨xs, hg, h0, h1, hF⟩ := hF
      refine rz_sld dL_law_180 hg h0 h1 ?_
      generalize xs.getD _ 0 = e12 at hF ⊢
      replace hF := rcv_e hF
      obtain ⟨fs, hg, hF⟩ := hF
      refine ez_wide (mc := 0 + (mc + 3)) (ms := 0 + (ms + 421)) (by omega) (by omega) ?_
      refine rz_callV (mc' := 0) (ms' := 0) (mc := (mc + 3)) (ms := (ms + 421)) (st := [vi r8]) dL_law_181 cV_L_17 rfl hg ⟨_, _, rfl⟩ rfl (Nat.le_of_ble_eq_true rfl) hF (fun v h13 hG => ?_)
      clear hF
      revert hG
      intro hF
      replace hF := atI_e hF
      obtain ⟨r14, rfl, hF⟩ := hF
      refine rz_icmp_eq (tgt := 852) dL_law_184 (by decide) (fun c => ?_) (fun c => ?_)
      · replace hF := ite_t hF c
        refine rz_iinc (ls' := [some (vo 0), some (vo x1), some (vo x2), some (vi (w32 (x3 + 5)))]) dL_law_852 rfl (Nat.le_of_ble_eq_true rfl) rfl ?_
        refine rz_goto (tgt := 18) dL_law_855 (by decide) ?_
        refine ez_wide (mc := mc) (ms := ms) (by omega) (by omega) ?_
        exact hF
      · replace hF := ite_f hF c
        refine rz_iconst dL_law_187 rfl (by decide) ?_
        exact rz_iret dL_law_188 (Or.inl rfl) hF
    · replace hF := ite_f hF c15
      by_cases c22 : bAnd e2 31 = 1
      · replace hF := ite_t hF c22
        refine rz_tsIn (off := 157) (tgt := 189) dL_law_32 (by omega) (by omega) (by rw [c22]; rfl) (by decide) ?_
        refine rz_aload_n dL_law_189 rfl (show _ = some (some (vo x1)) from rfl) ?_
        refine rz_aload_n dL_law_190 rfl (show _ = some (some (vo 0)) from rfl) ?_
        refine rz_iload_n dL_law_191 rfl (show _ = some (some (vi x3)) from rfl) ?_
        refine rz_iconst dL_law_192 rfl (by decide) ?_
        refine rz_iadd dL_law_193 ?_
        replace hF := ldI_e hF
        obtain ⟨xs, hg, h0, h1, hF⟩ := hF
        refine rz_sld dL_law_194 hg h0 h1 ?_
        generalize xs.getD _ 0 = e16 at hF ⊢
        replace hF := rcv_e hF
        obtain ⟨fs, hg, hF⟩ := hF
        refine ez_wide (mc := 0 + (mc + 3)) (ms := 0 + (ms + 421)) (by omega) (by omega) ?_
        refine rz_callV (mc' := 0) (ms' := 0) (mc := (mc + 3)) (ms := (ms + 421)) (st := []) dL_law_195 cV_L_18 rfl hg ⟨_, _, rfl⟩ rfl (Nat.le_of_ble_eq_true rfl) hF (fun v h17 hG => ?_)
        clear hF
        revert hG
        intro hF
        replace hF := atI_e hF
        obtain ⟨r18, rfl, hF⟩ := hF
        refine rz_aload_n dL_law_198 rfl (show _ = some (some (vo x2)) from rfl) ?_
        refine rz_aload_n dL_law_199 rfl (show _ = some (some (vo 0)) from rfl) ?_
        refine rz_iload_n dL_law_200 rfl (show _ = some (some (vi x3)) from rfl) ?_
        refine rz_iconst dL_law_201 rfl (by decide) ?_
        refine rz_iadd dL_law_202 ?_
        replace hF := ldI_e hF
        obtain ⟨xs, hg, h0, h1, hF⟩ := hF
        refine rz_sld dL_law_203 hg h0 h1 ?_
        generalize xs.getD _ 0 = e19 at hF ⊢
        replace hF := rcv_e hF
        obtain ⟨fs, hg, hF⟩ := hF
        refine ez_wide (mc := 0 + (mc + 3)) (ms := 0 + (ms + 421)) (by omega) (by omega) ?_
        refine rz_callV (mc' := 0) (ms' := 0) (mc := (mc + 3)) (ms := (ms + 421)) (st := [vi r18]) dL_law_204 cV_L_22 rfl hg ⟨_, _, rfl⟩ rfl (Nat.le_of_ble_eq_true rfl) hF (fun v h20 hG => ?_)
        clear hF
        revert hG
        intro hF
        replace hF := atI_e hF
        obtain ⟨r21, rfl, hF⟩ := hF
        refine rz_icmp_eq (tgt := 852) dL_law_207 (by decide) (fun c => ?_) (fun c => ?_)
        · replace hF := ite_t hF c
          refine rz_iinc (ls' := [some (vo 0), some (vo x1), some (vo x2), some (vi (w32 (x3 + 5)))]) dL_law_852 rfl (Nat.le_of_ble_eq_true rfl) rfl ?_
          refine rz_goto (tgt := 18) dL_law_855 (by decide) ?_
          refine ez_wide (mc := mc) (ms := ms) (by omega) (by omega) ?_
          exact hF
        · replace hF := ite_f hF c
          refine rz_iconst dL_law_210 rfl (by decide) ?_
          exact rz_iret dL_law_211 (Or.inl rfl) hF
      · replace hF := ite_f hF c22
        by_cases c29 : bAnd e2 31 = 2
        · replace hF := ite_t hF c29
          refine rz_tsIn (off := 180) (tgt := 212) dL_law_32 (by omega) (by omega) (by rw [c29]; rfl) (by decide) ?_
          refine rz_aload_n dL_law_212 rfl (show _ = some (some (vo x1)) from rfl) ?_
          refine rz_aload_n dL_law_213 rfl (show _ = some (some (vo 0)) from rfl) ?_
          refine rz_iload_n dL_law_214 rfl (show _ = some (some (vi x3)) from rfl) ?_
          refine rz_iconst dL_law_215 rfl (by decide) ?_
          refine rz_iadd dL_law_216 ?_
          replace hF := ldI_e hF
          obtain ⟨xs, hg, h0, h1, hF⟩ := hF
          refine rz_sld dL_law_217 hg h0 h1 ?_
          generalize xs.getD _ 0 = e23 at hF ⊢
          replace hF := rcv_e hF
          obtain ⟨fs, hg, hF⟩ := hF
          refine ez_wide (mc := 3 + mc) (ms := 421 + ms) (by omega) (by omega) ?_
          refine rz_callV (mc' := 3) (ms' := 421) (mc := mc) (ms := ms) (st := []) dL_law_218 cV_L_23 rfl hg ⟨_, _, rfl⟩ rfl (Nat.le_of_ble_eq_true rfl) hF (fun v h24 hG => ?_)
          clear hF
          revert hG
          intro hF
          replace hF := atI_e hF
          obtain ⟨r25, rfl, hF⟩ := hF
          refine rz_aload_n dL_law_221 rfl (show _ = some (some (vo x2)) from rfl) ?_
          refine rz_aload_n dL_law_222 rfl (show _ = some (some (vo 0)) from rfl) ?_
          refine rz_iload_n dL_law_223 rfl (show _ = some (some (vi x3)) from rfl) ?_
          refine rz_iconst dL_law_224 rfl (by decide) ?_
          refine rz_iadd dL_law_225 ?_
          replace hF := ldI_e hF
          obtain ⟨xs, hg, h0, h1, hF⟩ := hF
          refine rz_sld dL_law_226 hg h0 h1 ?_
          generalize xs.getD _ 0 = e26 at hF ⊢
          replace hF := rcv_e hF
          obtain ⟨fs, hg, hF⟩ := hF
          refine ez_wide (mc := 0 + mc) (ms := 0 + ms) (by omega) (by omega) ?_
          refine rz_callV (mc' := 0) (ms' := 0) (mc := mc) (ms := ms) (st := [vi r25]) dL_law_227 cV_L_26 rfl hg ⟨_, _, rfl⟩ rfl (Nat.le_of_ble_eq_true rfl) hF (fun v h27 hG => ?_)
          clear hF
          revert hG
          intro hF
          replace hF := atI_e hF
          obtain ⟨r28, rfl, hF⟩ := hF
          refine rz_icmp_eq (tgt := 852) dL_law_230 (by decide) (fun c => ?_) (fun c => ?_)
          · replace hF := ite_t hF c
            refine rz_iinc (ls' := [some (vo 0), some (vo x1), some (vo x2), some (vi (w32 (x3 + 5)))]) dL_law_852 rfl (Nat.le_of_ble_eq_true rfl) rfl ?_
            refine rz_goto (tgt := 18) dL_law_855 (by decide) ?_
            exact hF
          · replace hF := ite_f hF c
            refine rz_iconst dL_law_233 rfl (by decide) ?_
            exact rz_iret dL_law_234 (Or.inl rfl) hF
        · replace hF := ite_f hF c29
          by_cases c34 : bAnd e2 31 = 3
          · replace hF := ite_t hF c34
            refine rz_tsIn (off := 203) (tgt := 235) dL_law_32 (by omega) (by omega) (by rw [c34]; rfl) (by decide) ?_
            refine rz_aload_n dL_law_235 rfl (show _ = some (some (vo x1)) from rfl) ?_
            replace hF := rcv_e hF
            obtain ⟨fs, hg, hF⟩ := hF
            refine ez_wide (mc := 3 + mc) (ms := 421 + ms) (by omega) (by omega) ?_
            refine rz_callV (mc' := 3) (ms' := 421) (mc := mc) (ms := ms) (st := []) dL_law_236 cV_L_27 rfl hg ⟨_, _, rfl⟩ rfl (Nat.le_of_ble_eq_true rfl) hF (fun v h30 hG => ?_)
            clear hF
            revert hG
            intro hF
            replace hF := atI_e hF
            obtain ⟨r31, rfl, hF⟩ := hF
            refine rz_aload_n dL_law_239 rfl (show _ = some (some (vo x2)) from rfl) ?_
            replace hF := rcv_e hF
            obtain ⟨fs, hg, hF⟩ := hF
            refine ez_wide (mc := 0 + mc) (ms := 0 + ms) (by omega) (by omega) ?_
            refine rz_callV (mc' := 0) (ms' := 0) (mc := mc) (ms := ms) (st := [vi r31]) dL_law_240 cV_L_31 rfl hg ⟨_, _, rfl⟩ rfl (Nat.le_of_ble_eq_true rfl) hF (fun v h32 hG => ?_)
            clear hF
            revert hG
            intro hF
            replace hF := atI_e hF
            obtain ⟨r33, rfl, hF⟩ := hF
            refine rz_icmp_eq (tgt := 852) dL_law_243 (by decide) (fun c => ?_) (fun c => ?_)
            · replace hF := ite_t hF c
              refine rz_iinc (ls' := [some (vo 0), some (vo x1), some (vo x2), some (vi (w32 (x3 + 5)))]) dL_law_852 rfl (Nat.le_of_ble_eq_true rfl) rfl ?_
              refine rz_goto (tgt := 18) dL_law_855 (by decide) ?_
              exact hF
            · replace hF := ite_f hF c
              refine rz_iconst dL_law_246 rfl (by decide) ?_
              exact rz_iret dL_law_247 (Or.inl rfl) hF
          · replace hF := ite_f hF c34
            by_cases c47 : bAnd e2 31 = 4
            · replace hF := ite_t hF c47
              refine rz_tsIn (off := 216) (tgt := 248) dL_law_32 (by omega) (by omega) (by rw [c47]; rfl) (by decide) ?_
              refine rz_aload_n dL_law_248 rfl (show _ = some (some (vo x1)) from rfl) ?_
              refine rz_aload_n dL_law_249 rfl (show _ = some (some (vo 0)) from rfl) ?_
              refine rz_iload_n dL_law_250 rfl (show _ = some (some (vi x3)) from rfl) ?_
              refine rz_iconst dL_law_251 rfl (by decide) ?_
              refine rz_iadd dL_law_252 ?_
              replace hF := ldI_e hF
              obtain ⟨xs, hg, h0, h1, hF⟩ := hF
              refine rz_sld dL_law_253 hg h0 h1 ?_
              generalize xs.getD _ 0 = e35 at hF ⊢
              refine rz_aload_n dL_law_254 rfl (show _ = some (some (vo 0)) from rfl) ?_
              refine rz_iload_n dL_law_255 rfl (show _ = some (some (vi x3)) from rfl) ?_
              refine rz_iconst dL_law_256 rfl (by decide) ?_
              refine rz_iadd dL_law_257 ?_
              replace hF := ldI_e hF
              obtain ⟨xs, hg, h0, h1, hF⟩ := hF
              refine rz_sld dL_law_258 hg h0 h1 ?_
              generalize xs.getD _ 0 = e36 at hF ⊢
              refine rz_aload_n dL_law_259 rfl (show _ = some (some (vo 0)) from rfl) ?_
              refine rz_iload_n dL_law_260 rfl (show _ = some (some (vi x3)) from rfl) ?_
              refine rz_iconst dL_law_261 rfl (by decide) ?_
              refine rz_iadd dL_law_262 ?_
              replace hF := ldI_e hF
              obtain ⟨xs, hg, h0, h1, hF⟩ := hF
              refine rz_sld dL_law_263 hg h0 h1 ?_
              generalize xs.getD _ 0 = e37 at hF ⊢
              refine rz_aload_n dL_law_264 rfl (show _ = some (some (vo 0)) from rfl) ?_
              refine rz_iload_n dL_law_265 rfl (show _ = some (some (vi x3)) from rfl) ?_
              refine rz_iconst dL_law_266 rfl (by decide) ?_
              refine rz_iadd dL_law_267 ?_
              replace hF := ldI_e hF
              obtain ⟨xs, hg, h0, h1, hF⟩ := hF
              refine rz_sld dL_law_268 hg h0 h1 ?_
              generalize xs.getD _ 0 = e38 at hF ⊢
              replace hF := rcv_e hF
              obtain ⟨fs, hg, hF⟩ := hF
              refine ez_wide (mc := 1 + (mc + 2)) (ms := 4 + (ms + 417)) (by omega) (by omega) ?_
              refine rz_callV (mc' := 1) (ms' := 4) (mc := (mc + 2)) (ms := (ms + 417)) (st := []) dL_law_269 cV_L_32 rfl hg ⟨_, _, rfl⟩ rfl (Nat.le_of_ble_eq_true rfl) hF (fun v h39 hG => ?_)
              clear hF
              revert hG
              intro hF
              replace hF := atI_e hF
              obtain ⟨r40, rfl, hF⟩ := hF
              refine rz_aload_n dL_law_272 rfl (show _ = some (some (vo x2)) from rfl) ?_
              refine rz_aload_n dL_law_273 rfl (show _ = some (some (vo 0)) from rfl) ?_
              refine rz_iload_n dL_law_274 rfl (show _ = some (some (vi x3)) from rfl) ?_
              refine rz_iconst dL_law_275 rfl (by decide) ?_
              refine rz_iadd dL_law_276 ?_
              replace hF := ldI_e hF
              obtain ⟨xs, hg, h0, h1, hF⟩ := hF
              refine rz_sld dL_law_277 hg h0 h1 ?_
              generalize xs.getD _ 0 = e41 at hF ⊢
              refine rz_aload_n dL_law_278 rfl (show _ = some (some (vo 0)) from rfl) ?_
              refine rz_iload_n dL_law_279 rfl (show _ = some (some (vi x3)) from rfl) ?_
              refine rz_iconst dL_law_280 rfl (by decide) ?_
              refine rz_iadd dL_law_281 ?_
              replace hF := ldI_e hF
              obtain ⟨xs, hg, h0, h1, hF⟩ := hF
              refine rz_sld dL_law_282 hg h0 h1 ?_
              generalize xs.getD _ 0 = e42 at hF ⊢
              refine rz_aload_n dL_law_283 rfl (show _ = some (some (vo 0)) from rfl) ?_
              refine rz_iload_n dL_law_284 rfl (show _ = some (some (vi x3)) from rfl) ?_
              refine rz_iconst dL_law_285 rfl (by decide) ?_
              refine rz_iadd dL_law_286 ?_
              replace hF := ldI_e hF
              obtain ⟨xs, hg, h0, h1, hF⟩ := hF
              refine rz_sld dL_law_287 hg h0 h1 ?_
              generalize xs.getD _ 0 = e43 at hF ⊢
              refine rz_aload_n dL_law_288 rfl (show _ = some (some (vo 0)) from rfl) ?_
              refine rz_iload_n dL_law_289 rfl (show _ = some (some (vi x3)) from rfl) ?_
              refine rz_iconst dL_law_290 rfl (by decide) ?_
              refine rz_iadd dL_law_291 ?_
              replace hF := ldI_e hF
              obtain ⟨xs, hg, h0, h1, hF⟩ := hF
              refine rz_sld dL_law_292 hg h0 h1 ?_
              generalize xs.getD _ 0 = e44 at hF ⊢
              replace hF := rcv_e hF
              obtain ⟨fs, hg, hF⟩ := hF
              refine ez_wide (mc := 0 + (mc + 2)) (ms := 0 + (ms + 417)) (by omega) (by omega) ?_
              refine rz_callV (mc' := 0) (ms' := 0) (mc := (mc + 2)) (ms := (ms + 417)) (st := [vi r40]) dL_law_293 cV_L_35 rfl hg ⟨_, _, rfl⟩ rfl (Nat.le_of_ble_eq_true rfl) hF (fun v h45 hG => ?_)
              clear hF
              revert hG
              intro hF
              replace hF := atI_e hF
              obtain ⟨r46, rfl, hF⟩ := hF
              refine rz_icmp_eq (tgt := 852) dL_law_296 (by decide) (fun c => ?_) (fun c => ?_)
              · replace hF := ite_t hF c
                refine rz_iinc (ls' := [some (vo 0), some (vo x1), some (vo x2), some (vi (w32 (x3 + 5)))]) dL_law_852 rfl (Nat.le_of_ble_eq_true rfl) rfl ?_
                refine rz_goto (tgt := 18) dL_law_855 (by decide) ?_
                refine ez_wide (mc := mc) (ms := ms) (by omega) (by omega) ?_
                exact hF
              · replace hF := ite_f hF c
                refine rz_iconst dL_law_299 rfl (by decide) ?_
                exact rz_iret dL_law_300 (Or.inl rfl) hF
            · replace hF := ite_f hF c47
              by_cases c60 : bAnd e2 31 = 5
              · replace hF := ite_t hF c60
                refine rz_tsIn (off := 269) (tgt := 301) dL_law_32 (by omega) (by omega) (by rw [c60]; rfl) (by decide) ?_
                refine rz_aload_n dL_law_301 rfl (show _ = some (some (vo x1)) from rfl) ?_
                refine rz_aload_n dL_law_302 rfl (show _ = some (some (vo 0)) from rfl) ?_
                refine rz_iload_n dL_law_303 rfl (show _ = some (some (vi x3)) from rfl) ?_
                refine rz_iconst dL_law_304 rfl (by decide) ?_
                refine rz_iadd dL_law_305 ?_
                replace hF := ldI_e hF
                obtain ⟨xs, hg, h0, h1, hF⟩ := hF
                refine rz_sld dL_law_306 hg h0 h1 ?_
                generalize xs.getD _ 0 = e48 at hF ⊢
                refine rz_aload_n dL_law_307 rfl (show _ = some (some (vo 0)) from rfl) ?_
                refine rz_iload_n dL_law_308 rfl (show _ = some (some (vi x3)) from rfl) ?_
                refine rz_iconst dL_law_309 rfl (by decide) ?_
                refine rz_iadd dL_law_310 ?_
                replace hF := ldI_e hF
                obtain ⟨xs, hg, h0, h1, hF⟩ := hF
                refine rz_sld dL_law_311 hg h0 h1 ?_
                generalize xs.getD _ 0 = e49 at hF ⊢
                refine rz_aload_n dL_law_312 rfl (show _ = some (some (vo 0)) from rfl) ?_
                refine rz_iload_n dL_law_313 rfl (show _ = some (some (vi x3)) from rfl) ?_
                refine rz_iconst dL_law_314 rfl (by decide) ?_
                refine rz_iadd dL_law_315 ?_
                replace hF := ldI_e hF
                obtain ⟨xs, hg, h0, h1, hF⟩ := hF
                refine rz_sld dL_law_316 hg h0 h1 ?_
                generalize xs.getD _ 0 = e50 at hF ⊢
                refine rz_aload_n dL_law_317 rfl (show _ = some (some (vo 0)) from rfl) ?_
                refine rz_iload_n dL_law_318 rfl (show _ = some (some (vi x3)) from rfl) ?_
                refine rz_iconst dL_law_319 rfl (by decide) ?_
                refine rz_iadd dL_law_320 ?_
                replace hF := ldI_e hF
                obtain ⟨xs, hg, h0, h1, hF⟩ := hF
                refine rz_sld dL_law_321 hg h0 h1 ?_
                generalize xs.getD _ 0 = e51 at hF ⊢
                replace hF := rcv_e hF
                obtain ⟨fs, hg, hF⟩ := hF
                refine ez_wide (mc := 1 + (mc + 2)) (ms := 4 + (ms + 417)) (by omega) (by omega) ?_
                refine rz_callV (mc' := 1) (ms' := 4) (mc := (mc + 2)) (ms := (ms + 417)) (st := []) dL_law_322 cV_L_36 rfl hg ⟨_, _, rfl⟩ rfl (Nat.le_of_ble_eq_true rfl) hF (fun v h52 hG => ?_)
                clear hF
                revert hG
                intro hF
                replace hF := atI_e hF
                obtain ⟨r53, rfl, hF⟩ := hF
                refine rz_aload_n dL_law_325 rfl (show _ = some (some (vo x2)) from rfl) ?_
                refine rz_aload_n dL_law_326 rfl (show _ = some (some (vo 0)) from rfl) ?_
                refine rz_iload_n dL_law_327 rfl (show _ = some (some (vi x3)) from rfl) ?_
                refine rz_iconst dL_law_328 rfl (by decide) ?_
                refine rz_iadd dL_law_329 ?_
                replace hF := ldI_e hF
                obtain ⟨xs, hg, h0, h1, hF⟩ := hF
                refine rz_sld dL_law_330 hg h0 h1 ?_
                generalize xs.getD _ 0 = e54 at hF ⊢
                refine rz_aload_n dL_law_331 rfl (show _ = some (some (vo 0)) from rfl) ?_
                refine rz_iload_n dL_law_332 rfl (show _ = some (some (vi x3)) from rfl) ?_
                refine rz_iconst dL_law_333 rfl (by decide) ?_
                refine rz_iadd dL_law_334 ?_
                replace hF := ldI_e hF
                obtain ⟨xs, hg, h0, h1, hF⟩ := hF
                refine rz_sld dL_law_335 hg h0 h1 ?_
                generalize xs.getD _ 0 = e55 at hF ⊢
                refine rz_aload_n dL_law_336 rfl (show _ = some (some (vo 0)) from rfl) ?_
                refine rz_iload_n dL_law_337 rfl (show _ = some (some (vi x3)) from rfl) ?_
                refine rz_iconst dL_law_338 rfl (by decide) ?_
                refine rz_iadd dL_law_339 ?_
                replace hF := ldI_e hF
                obtain ⟨xs, hg, h0, h1, hF⟩ := hF
                refine rz_sld dL_law_340 hg h0 h1 ?_
                generalize xs.getD _ 0 = e56 at hF ⊢
                refine rz_aload_n dL_law_341 rfl (show _ = some (some (vo 0)) from rfl) ?_
                refine rz_iload_n dL_law_342 rfl (show _ = some (some (vi x3)) from rfl) ?_
                refine rz_iconst dL_law_343 rfl (by decide) ?_
                refine rz_iadd dL_law_344 ?_
                replace hF := ldI_e hF
                obtain ⟨xs, hg, h0, h1, hF⟩ := hF
                refine rz_sld dL_law_345 hg h0 h1 ?_
                generalize xs.getD _ 0 = e57 at hF ⊢
                replace hF := rcv_e hF
                obtain ⟨fs, hg, hF⟩ := hF
                refine ez_wide (mc := 0 + (mc + 2)) (ms := 0 + (ms + 417)) (by omega) (by omega) ?_
                refine rz_callV (mc' := 0) (ms' := 0) (mc := (mc + 2)) (ms := (ms + 417)) (st := [vi r53]) dL_law_346 cV_L_39 rfl hg ⟨_, _, rfl⟩ rfl (Nat.le_of_ble_eq_true rfl) hF (fun v h58 hG => ?_)
                clear hF
                revert hG
                intro hF
                replace hF := atI_e hF
                obtain ⟨r59, rfl, hF⟩ := hF
                refine rz_icmp_eq (tgt := 852) dL_law_349 (by decide) (fun c => ?_) (fun c => ?_)
                · replace hF := ite_t hF c
                  refine rz_iinc (ls' := [some (vo 0), some (vo x1), some (vo x2), some (vi (w32 (x3 + 5)))]) dL_law_852 rfl (Nat.le_of_ble_eq_true rfl) rfl ?_
                  refine rz_goto (tgt := 18) dL_law_855 (by decide) ?_
                  refine ez_wide (mc := mc) (ms := ms) (by omega) (by omega) ?_
                  exact hF
                · replace hF := ite_f hF c
                  refine rz_iconst dL_law_352 rfl (by decide) ?_
                  exact rz_iret dL_law_353 (Or.inl rfl) hF
              · replace hF := ite_f hF c60
                by_cases c65 : bAnd e2 31 = 6
                · replace hF := ite_t hF c65
                  refine rz_tsIn (off := 322) (tgt := 354) dL_law_32 (by omega) (by omega) (by rw [c65]; rfl) (by decide) ?_
                  refine rz_aload_n dL_law_354 rfl (show _ = some (some (vo x1)) from rfl) ?_
                  replace hF := rcv_e hF
                  obtain ⟨fs, hg, hF⟩ := hF
                  refine ez_wide (mc := 0 + (mc + 3)) (ms := 0 + (ms + 421)) (by omega) (by omega) ?_
                  refine rz_callV (mc' := 0) (ms' := 0) (mc := (mc + 3)) (ms := (ms + 421)) (st := []) dL_law_355 cV_L_40 rfl hg ⟨_, _, rfl⟩ rfl (Nat.le_of_ble_eq_true rfl) hF (fun v h61 hG => ?_)
                  clear hF
                  revert hG
                  intro hF
                  replace hF := atI_e hF
                  obtain ⟨r62, rfl, hF⟩ := hF
                  refine rz_aload_n dL_law_358 rfl (show _ = some (some (vo x2)) from rfl) ?_
                  replace hF := rcv_e hF
                  obtain ⟨fs, hg, hF⟩ := hF
                  refine ez_wide (mc := 0 + (mc + 3)) (ms := 0 + (ms + 421)) (by omega) (by omega) ?_
                  refine rz_callV (mc' := 0) (ms' := 0) (mc := (mc + 3)) (ms := (ms + 421)) (st := [vi r62]) dL_law_359 cV_L_43 rfl hg ⟨_, _, rfl⟩ rfl (Nat.le_of_ble_eq_true rfl) hF (fun v h63 hG => ?_)
                  clear hF
                  revert hG
                  intro hF
                  replace hF := atI_e hF
                  obtain ⟨r64, rfl, hF⟩ := hF
                  refine rz_icmp_eq (tgt := 852) dL_law_362 (by decide) (fun c => ?_) (fun c => ?_)
                  · replace hF := ite_t hF c
                    refine rz_iinc (ls' := [some (vo 0), some (vo x1), some (vo x2), some (vi (w32 (x3 + 5)))]) dL_law_852 rfl (Nat.le_of_ble_eq_true rfl) rfl ?_
                    refine rz_goto (tgt := 18) dL_law_855 (by decide) ?_
                    refine ez_wide (mc := mc) (ms := ms) (by omega) (by omega) ?_
                    exact hF
                  · replace hF := ite_f hF c
                    refine rz_iconst dL_law_365 rfl (by decide) ?_
                    exact rz_iret dL_law_366 (Or.inl rfl) hF
                · replace hF := ite_f hF c65
                  by_cases c72 : bAnd e2 31 = 7
                  · replace hF := ite_t hF c72
                    refine rz_tsIn (off := 335) (tgt := 367) dL_law_32 (by omega) (by omega) (by rw [c72]; rfl) (by decide) ?_
                    refine rz_aload_n dL_law_367 rfl (show _ = some (some (vo x1)) from rfl) ?_
                    refine rz_aload_n dL_law_368 rfl (show _ = some (some (vo 0)) from rfl) ?_
                    refine rz_iload_n dL_law_369 rfl (show _ = some (some (vi x3)) from rfl) ?_
                    refine rz_iconst dL_law_370 rfl (by decide) ?_
                    refine rz_iadd dL_law_371 ?_
                    replace hF := ldI_e hF
                    obtain ⟨xs, hg, h0, h1, hF⟩ := hF
                    refine rz_sld dL_law_372 hg h0 h1 ?_
                    generalize xs.getD _ 0 = e66 at hF ⊢
                    replace hF := rcv_e hF
                    obtain ⟨fs, hg, hF⟩ := hF
                    refine ez_wide (mc := 0 + (mc + 3)) (ms := 0 + (ms + 421)) (by omega) (by omega) ?_
                    refine rz_callV (mc' := 0) (ms' := 0) (mc := (mc + 3)) (ms := (ms + 421)) (st := []) dL_law_373 cV_L_44 rfl hg ⟨_, _, rfl⟩ rfl (Nat.le_of_ble_eq_true rfl) hF (fun v h67 hG => ?_)
                    clear hF
                    revert hG
                    intro hF
                    replace hF := atI_e hF
                    obtain ⟨r68, rfl, hF⟩ := hF
                    refine rz_aload_n dL_law_376 rfl (show _ = some (some (vo x2)) from rfl) ?_
                    refine rz_aload_n dL_law_377 rfl (show _ = some (some (vo 0)) from rfl) ?_
                    refine rz_iload_n dL_law_378 rfl (show _ = some (some (vi x3)) from rfl) ?_
                    refine rz_iconst dL_law_379 rfl (by decide) ?_
                    refine rz_iadd dL_law_380 ?_
                    replace hF := ldI_e hF
                    obtain ⟨xs, hg, h0, h1, hF⟩ := hF
                    refine rz_sld dL_law_381 hg h0 h1 ?_
                    generalize xs.getD _ 0 = e69 at hF ⊢
                    replace hF := rcv_e hF
                    obtain ⟨fs, hg, hF⟩ := hF
                    refine ez_wide (mc := 0 + (mc + 3)) (ms := 0 + (ms + 421)) (by omega) (by omega) ?_
                    refine rz_callV (mc' := 0) (ms' := 0) (mc := (mc + 3)) (ms := (ms + 421)) (st := [vi r68]) dL_law_382 cV_L_47 rfl hg ⟨_, _, rfl⟩ rfl (Nat.le_of_ble_eq_true rfl) hF (fun v h70 hG => ?_)
                    clear hF
                    revert hG
                    intro hF
                    replace hF := atI_e hF
                    obtain ⟨r71, rfl, hF⟩ := hF
                    refine rz_icmp_eq (tgt := 852) dL_law_385 (by decide) (fun c => ?_) (fun c => ?_)
                    · replace hF := ite_t hF c
                      refine rz_iinc (ls' := [some (vo 0), some (vo x1), some (vo x2), some (vi (w32 (x3 + 5)))]) dL_law_852 rfl (Nat.le_of_ble_eq_true rfl) rfl ?_
                      refine rz_goto (tgt := 18) dL_law_855 (by decide) ?_
                      refine ez_wide (mc := mc) (ms := ms) (by omega) (by omega) ?_
                      exact hF
                    · replace hF := ite_f hF c
                      refine rz_iconst dL_law_388 rfl (by decide) ?_
                      exact rz_iret dL_law_389 (Or.inl rfl) hF
                  · replace hF := ite_f hF c72
                    by_cases c79 : bAnd e2 31 = 8
                    · replace hF := ite_t hF c79
                      refine rz_tsIn (off := 358) (tgt := 390) dL_law_32 (by omega) (by omega) (by rw [c79]; rfl) (by decide) ?_
                      refine rz_aload_n dL_law_390 rfl (show _ = some (some (vo x1)) from rfl) ?_
                      refine rz_aload_n dL_law_391 rfl (show _ = some (some (vo 0)) from rfl) ?_
                      refine rz_iload_n dL_law_392 rfl (show _ = some (some (vi x3)) from rfl) ?_
                      refine rz_iconst dL_law_393 rfl (by decide) ?_
                      refine rz_iadd dL_law_394 ?_
                      replace hF := ldI_e hF
                      obtain ⟨xs, hg, h0, h1, hF⟩ := hF
                      refine rz_sld dL_law_395 hg h0 h1 ?_
                      generalize xs.getD _ 0 = e73 at hF ⊢
                      replace hF := rcv_e hF
                      obtain ⟨fs, hg, hF⟩ := hF
                      refine ez_wide (mc := 0 + (mc + 3)) (ms := 0 + (ms + 421)) (by omega) (by omega) ?_
                      refine rz_callV (mc' := 0) (ms' := 0) (mc := (mc + 3)) (ms := (ms + 421)) (st := []) dL_law_396 cV_L_48 rfl hg ⟨_, _, rfl⟩ rfl (Nat.le_of_ble_eq_true rfl) hF (fun v h74 hG => ?_)
                      clear hF
                      revert hG
                      intro hF
                      replace hF := atI_e hF
                      obtain ⟨r75, rfl, hF⟩ := hF
                      refine rz_aload_n dL_law_399 rfl (show _ = some (some (vo x2)) from rfl) ?_
                      refine rz_aload_n dL_law_400 rfl (show _ = some (some (vo 0)) from rfl) ?_
                      refine rz_iload_n dL_law_401 rfl (show _ = some (some (vi x3)) from rfl) ?_
                      refine rz_iconst dL_law_402 rfl (by decide) ?_
                      refine rz_iadd dL_law_403 ?_
                      replace hF := ldI_e hF
                      obtain ⟨xs, hg, h0, h1, hF⟩ := hF
                      refine rz_sld dL_law_404 hg h0 h1 ?_
                      generalize xs.getD _ 0 = e76 at hF ⊢
                      replace hF := rcv_e hF
                      obtain ⟨fs, hg, hF⟩ := hF
                      refine ez_wide (mc := 0 + (mc + 3)) (ms := 0 + (ms + 421)) (by omega) (by omega) ?_
                      refine rz_callV (mc' := 0) (ms' := 0) (mc := (mc + 3)) (ms := (ms + 421)) (st := [vi r75]) dL_law_405 cV_L_51 rfl hg ⟨_, _, rfl⟩ rfl (Nat.le_of_ble_eq_true rfl) hF (fun v h77 hG => ?_)
                      clear hF
                      revert hG
                      intro hF
                      replace hF := atI_e hF
                      obtain ⟨r78, rfl, hF⟩ := hF
                      refine rz_icmp_eq (tgt := 852) dL_law_408 (by decide) (fun c => ?_) (fun c => ?_)
                      · replace hF := ite_t hF c
                        refine rz_iinc (ls' := [some (vo 0), some (vo x1), some (vo x2), some (vi (w32 (x3 + 5)))]) dL_law_852 rfl (Nat.le_of_ble_eq_true rfl) rfl ?_
                        refine rz_goto (tgt := 18) dL_law_855 (by decide) ?_
                        refine ez_wide (mc := mc) (ms := ms) (by omega) (by omega) ?_
                        exact hF
                      · replace hF := ite_f hF c
                        refine rz_iconst dL_law_411 rfl (by decide) ?_
                        exact rz_iret dL_law_412 (Or.inl rfl) hF
                    · replace hF := ite_f hF c79
                      by_cases c92 : bAnd e2 31 = 9
                      · replace hF := ite_t hF c92
                        refine rz_tsIn (off := 381) (tgt := 413) dL_law_32 (by omega) (by omega) (by rw [c92]; rfl) (by decide) ?_
                        refine rz_aload_n dL_law_413 rfl (show _ = some (some (vo x1)) from rfl) ?_
                        refine rz_aload_n dL_law_414 rfl (show _ = some (some (vo 0)) from rfl) ?_
                        refine rz_iload_n dL_law_415 rfl (show _ = some (some (vi x3)) from rfl) ?_
                        refine rz_iconst dL_law_416 rfl (by decide) ?_
                        refine rz_iadd dL_law_417 ?_
                        replace hF := ldI_e hF
                        obtain ⟨xs, hg, h0, h1, hF⟩ := hF
                        refine rz_sld dL_law_418 hg h0 h1 ?_
                        generalize xs.getD _ 0 = e80 at hF ⊢
                        refine rz_aload_n dL_law_419 rfl (show _ = some (some (vo 0)) from rfl) ?_
                        refine rz_iload_n dL_law_420 rfl (show _ = some (some (vi x3)) from rfl) ?_
                        refine rz_iconst dL_law_421 rfl (by decide) ?_
                        refine rz_iadd dL_law_422 ?_
                        replace hF := ldI_e hF
                        obtain ⟨xs, hg, h0, h1, hF⟩ := hF
                        refine rz_sld dL_law_423 hg h0 h1 ?_
                        generalize xs.getD _ 0 = e81 at hF ⊢
                        refine rz_aload_n dL_law_424 rfl (show _ = some (some (vo 0)) from rfl) ?_
                        refine rz_iload_n dL_law_425 rfl (show _ = some (some (vi x3)) from rfl) ?_
                        refine rz_iconst dL_law_426 rfl (by decide) ?_
                        refine rz_iadd dL_law_427 ?_
                        replace hF := ldI_e hF
                        obtain ⟨xs, hg, h0, h1, hF⟩ := hF
                        refine rz_sld dL_law_428 hg h0 h1 ?_
                        generalize xs.getD _ 0 = e82 at hF ⊢
                        refine rz_aload_n dL_law_429 rfl (show _ = some (some (vo 0)) from rfl) ?_
                        refine rz_iload_n dL_law_430 rfl (show _ = some (some (vi x3)) from rfl) ?_
                        refine rz_iconst dL_law_431 rfl (by decide) ?_
                        refine rz_iadd dL_law_432 ?_
                        replace hF := ldI_e hF
                        obtain ⟨xs, hg, h0, h1, hF⟩ := hF
                        refine rz_sld dL_law_433 hg h0 h1 ?_
                        generalize xs.getD _ 0 = e83 at hF ⊢
                        replace hF := rcv_e hF
                        obtain ⟨fs, hg, hF⟩ := hF
                        refine ez_wide (mc := 1 + (mc + 2)) (ms := 4 + (ms + 417)) (by omega) (by omega) ?_
                        refine rz_callV (mc' := 1) (ms' := 4) (mc := (mc + 2)) (ms := (ms + 417)) (st := []) dL_law_434 cV_L_52 rfl hg ⟨_, _, rfl⟩ rfl (Nat.le_of_ble_eq_true rfl) hF (fun v h84 hG => ?_)
                        clear hF
                        revert hG
                        intro hF
                        replace hF := atI_e hF
                        obtain ⟨r85, rfl, hF⟩ := hF
                        refine rz_aload_n dL_law_437 rfl (show _ = some (some (vo x2)) from rfl) ?_
                        refine rz_aload_n dL_law_438 rfl (show _ = some (some (vo 0)) from rfl) ?_
                        refine rz_iload_n dL_law_439 rfl (show _ = some (some (vi x3)) from rfl) ?_
                        refine rz_iconst dL_law_440 rfl (by decide) ?_
                        refine rz_iadd dL_law_441 ?_
                        replace hF := ldI_e hF
                        obtain ⟨xs, hg, h0, h1, hF⟩ := hF
                        refine rz_sld dL_law_442 hg h0 h1 ?_
                        generalize xs.getD _ 0 = e86 at hF ⊢
                        refine rz_aload_n dL_law_443 rfl (show _ = some (some (vo 0)) from rfl) ?_
                        refine rz_iload_n dL_law_444 rfl (show _ = some (some (vi x3)) from rfl) ?_
                        refine rz_iconst dL_law_445 rfl (by decide) ?_
                        refine rz_iadd dL_law_446 ?_
                        replace hF := ldI_e hF
                        obtain ⟨xs, hg, h0, h1, hF⟩ := hF
                        refine rz_sld dL_law_447 hg h0 h1 ?_
                        generalize xs.getD _ 0 = e87 at hF ⊢
                        refine rz_aload_n dL_law_448 rfl (show _ = some (some (vo 0)) from rfl) ?_
                        refine rz_iload_n dL_law_449 rfl (show _ = some (some (vi x3)) from rfl) ?_
                        refine rz_iconst dL_law_450 rfl (by decide) ?_
                        refine rz_iadd dL_law_451 ?_
                        replace hF := ldI_e hF
                        obtain ⟨xs, hg, h0, h1, hF⟩ := hF
                        refine rz_sld dL_law_452 hg h0 h1 ?_
                        generalize xs.getD _ 0 = e88 at hF ⊢
                        refine rz_aload_n dL_law_453 rfl (show _ = some (some (vo 0)) from rfl) ?_
                        refine rz_iload_n dL_law_454 rfl (show _ = some (some (vi x3)) from rfl) ?_
                        refine rz_iconst dL_law_455 rfl (by decide) ?_
                        refine rz_iadd dL_law_456 ?_
                        replace hF := ldI_e hF
                        obtain ⟨xs, hg, h0, h1, hF⟩ := hF
                        refine rz_sld dL_law_457 hg h0 h1 ?_
                        generalize xs.getD _ 0 = e89 at hF ⊢
                        replace hF := rcv_e hF
                        obtain ⟨fs, hg, hF⟩ := hF
                        refine ez_wide (mc := 0 + (mc + 2)) (ms := 0 + (ms + 417)) (by omega) (by omega) ?_
                        refine rz_callV (mc' := 0) (ms' := 0) (mc := (mc + 2)) (ms := (ms + 417)) (st := [vi r85]) dL_law_458 cV_L_55 rfl hg ⟨_, _, rfl⟩ rfl (Nat.le_of_ble_eq_true rfl) hF (fun v h90 hG => ?_)
                        clear hF
                        revert hG
                        intro hF
                        replace hF := atI_e hF
                        obtain ⟨r91, rfl, hF⟩ := hF
                        refine rz_icmp_eq (tgt := 852) dL_law_461 (by decide) (fun c => ?_) (fun c => ?_)
                        · replace hF := ite_t hF c
                          refine rz_iinc (ls' := [some (vo 0), some (vo x1), some (vo x2), some (vi (w32 (x3 + 5)))]) dL_law_852 rfl (Nat.le_of_ble_eq_true rfl) rfl ?_
                          refine rz_goto (tgt := 18) dL_law_855 (by decide) ?_
                          refine ez_wide (mc := mc) (ms := ms) (by omega) (by omega) ?_
                          exact hF
                        · replace hF := ite_f hF c
                          refine rz_iconst dL_law_464 rfl (by decide) ?_
                          exact rz_iret dL_law_465 (Or.inl rfl) hF
                      · replace hF := ite_f hF c92
                        by_cases c97 : bAnd e2 31 = 10
                        · replace hF := ite_t hF c97
                          refine rz_tsIn (off := 434) (tgt := 466) dL_law_32 (by omega) (by omega) (by rw [c97]; rfl) (by decide) ?_
                          refine rz_aload_n dL_law_466 rfl (show _ = some (some (vo x1)) from rfl) ?_
                          replace hF := rcv_e hF
                          obtain ⟨fs, hg, hF⟩ := hF
                          refine ez_wide (mc := 0 + (mc + 3)) (ms := 0 + (ms + 421)) (by omega) (by omega) ?_
                          refine rz_callV (mc' := 0) (ms' := 0) (mc := (mc + 3)) (ms := (ms + 421)) (st := []) dL_law_467 cV_L_56 rfl hg ⟨_, _, rfl⟩ rfl (Nat.le_of_ble_eq_true rfl) hF (fun v h93 hG => ?_)
                          clear hF
                          revert hG
                          intro hF
                          replace hF := atI_e hF
                          obtain ⟨r94, rfl, hF⟩ := hF
                          refine rz_aload_n dL_law_470 rfl (show _ = some (some (vo x2)) from rfl) ?_
                          replace hF := rcv_e hF
                          obtain ⟨fs, hg, hF⟩ := hF
                          refine ez_wide (mc := 0 + (mc + 3)) (ms := 0 + (ms + 421)) (by omega) (by omega) ?_
                          refine rz_callV (mc' := 0) (ms' := 0) (mc := (mc + 3)) (ms := (ms + 421)) (st := [vi r94]) dL_law_471 cV_L_59 rfl hg ⟨_, _, rfl⟩ rfl (Nat.le_of_ble_eq_true rfl) hF (fun v h95 hG => ?_)
                          clear hF
                          revert hG
                          intro hF
                          replace hF := atI_e hF
                          obtain ⟨r96, rfl, hF⟩ := hF
                          refine rz_icmp_eq (tgt := 852) dL_law_474 (by decide) (fun c => ?_) (fun c => ?_)
                          · replace hF := ite_t hF c
                            refine rz_iinc (ls' := [some (vo 0), some (vo x1), some (vo x2), some (vi (w32 (x3 + 5)))]) dL_law_852 rfl (Nat.le_of_ble_eq_true rfl) rfl ?_
                            refine rz_goto (tgt := 18) dL_law_855 (by decide) ?_
                            refine ez_wide (mc := mc) (ms := ms) (by omega) (by omega) ?_
                            exact hF
                          · replace hF := ite_f hF c
                            refine rz_iconst dL_law_477 rfl (by decide) ?_
                            exact rz_iret dL_law_478 (Or.inl rfl) hF
                        · replace hF := ite_f hF c97
                          by_cases c106 : bAnd e2 31 = 11
                          · replace hF := ite_t hF c106
                            refine rz_tsIn (off := 447) (tgt := 479) dL_law_32 (by omega) (by omega) (by rw [c106]; rfl) (by decide) ?_
                            refine rz_aload_n dL_law_479 rfl (show _ = some (some (vo x1)) from rfl) ?_
                            refine rz_aload_n dL_law_480 rfl (show _ = some (some (vo 0)) from rfl) ?_
                            refine rz_iload_n dL_law_481 rfl (show _ = some (some (vi x3)) from rfl) ?_
                            refine rz_iconst dL_law_482 rfl (by decide) ?_
                            refine rz_iadd dL_law_483 ?_
                            replace hF := ldI_e hF
                            obtain ⟨xs, hg, h0, h1, hF⟩ := hF
                            refine rz_sld dL_law_484 hg h0 h1 ?_
                            generalize xs.getD _ 0 = e98 at hF ⊢
                            refine rz_aload_n dL_law_485 rfl (show _ = some (some (vo 0)) from rfl) ?_
                            refine rz_iload_n dL_law_486 rfl (show _ = some (some (vi x3)) from rfl) ?_
                            refine rz_iconst dL_law_487 rfl (by decide) ?_
                            refine rz_iadd dL_law_488 ?_
                            replace hF := ldI_e hF
                            obtain ⟨xs, hg, h0, h1, hF⟩ := hF
                            refine rz_sld dL_law_489 hg h0 h1 ?_
                            generalize xs.getD _ 0 = e99 at hF ⊢
                            replace hF := rcv_e hF
                            obtain ⟨fs, hg, hF⟩ := hF
                            refine ez_wide (mc := 0 + (mc + 3)) (ms := 0 + (ms + 421)) (by omega) (by omega) ?_
                            refine rz_callV (mc' := 0) (ms' := 0) (mc := (mc + 3)) (ms := (ms + 421)) (st := []) dL_law_490 cV_L_60 rfl hg ⟨_, _, rfl⟩ rfl (Nat.le_of_ble_eq_true rfl) hF (fun v h100 hG => ?_)
                            clear hF
                            revert hG
                            intro hF
                            replace hF := atI_e hF
                            obtain ⟨r101, rfl, hF⟩ := hF
                            refine rz_aload_n dL_law_493 rfl (show _ = some (some (vo x2)) from rfl) ?_
                            refine rz_aload_n dL_law_494 rfl (show _ = some (some (vo 0)) from rfl) ?_
                            refine rz_iload_n dL_law_495 rfl (show _ = some (some (vi x3)) from rfl) ?_
                            refine rz_iconst dL_law_496 rfl (by decide) ?_
                            refine rz_iadd dL_law_497 ?_
                            replace hF := ldI_e hF
                            obtain ⟨xs, hg, h0, h1, hF⟩ := hF
                            refine rz_sld dL_law_498 hg h0 h1 ?_
                            generalize xs.getD _ 0 = e102 at hF ⊢
                            refine rz_aload_n dL_law_499 rfl (show _ = some (some (vo 0)) from rfl) ?_
                            refine rz_iload_n dL_law_500 rfl (show _ = some (some (vi x3)) from rfl) ?_
                            refine rz_iconst dL_law_501 rfl (by decide) ?_
                            refine rz_iadd dL_law_502 ?_
                            replace hF := ldI_e hF
                            obtain ⟨xs, hg, h0, h1, hF⟩ := hF
                            refine rz_sld dL_law_503 hg h0 h1 ?_
                            generalize xs.getD _ 0 = e103 at hF ⊢
                            replace hF := rcv_e hF
                            obtain ⟨fs, hg, hF⟩ := hF
                            refine ez_wide (mc := 0 + (mc + 3)) (ms := 0 + (ms + 421)) (by omega) (by omega) ?_
                            refine rz_callV (mc' := 0) (ms' := 0) (mc := (mc + 3)) (ms := (ms + 421)) (st := [vi r101]) dL_law_504 cV_L_64 rfl hg ⟨_, _, rfl⟩ rfl (Nat.le_of_ble_eq_true rfl) hF (fun v h104 hG => ?_)
                            clear hF
                            revert hG
                            intro hF
                            replace hF := atI_e hF
                            obtain ⟨r105, rfl, hF⟩ := hF
                            refine rz_icmp_eq (tgt := 852) dL_law_507 (by decide) (fun c => ?_) (fun c => ?_)
                            · replace hF := ite_t hF c
                              refine rz_iinc (ls' := [some (vo 0), some (vo x1), some (vo x2), some (vi (w32 (x3 + 5)))]) dL_law_852 rfl (Nat.le_of_ble_eq_true rfl) rfl ?_
                              refine rz_goto (tgt := 18) dL_law_855 (by decide) ?_
                              refine ez_wide (mc := mc) (ms := ms) (by omega) (by omega) ?_
                              exact hF
                            · replace hF := ite_f hF c
                              refine rz_iconst dL_law_510 rfl (by decide) ?_
                              exact rz_iret dL_law_511 (Or.inl rfl) hF
                          · replace hF := ite_f hF c106
                            by_cases c111 : bAnd e2 31 = 12
                            · replace hF := ite_t hF c111
                              refine rz_tsIn (off := 480) (tgt := 512) dL_law_32 (by omega) (by omega) (by rw [c111]; rfl) (by decide) ?_
                              refine rz_aload_n dL_law_512 rfl (show _ = some (some (vo x1)) from rfl) ?_
                              replace hF := rcv_e hF
                              obtain ⟨fs, hg, hF⟩ := hF
                              refine ez_wide (mc := 0 + (mc + 3)) (ms := 0 + (ms + 421)) (by omega) (by omega) ?_
                              refine rz_callV (mc' := 0) (ms' := 0) (mc := (mc + 3)) (ms := (ms + 421)) (st := []) dL_law_513 cV_L_65 rfl hg ⟨_, _, rfl⟩ rfl (Nat.le_of_ble_eq_true rfl) hF (fun v h107 hG => ?_)
                              clear hF
                              revert hG
                              intro hF
                              replace hF := atI_e hF
                              obtain ⟨r108, rfl, hF⟩ := hF
                              refine rz_aload_n dL_law_516 rfl (show _ = some (some (vo x2)) from rfl) ?_
                              replace hF := rcv_e hF
                              obtain ⟨fs, hg, hF⟩ := hF
                              refine ez_wide (mc := 0 + (mc + 3)) (ms := 0 + (ms + 421)) (by omega) (by omega) ?_
                              refine rz_callV (mc' := 0) (ms' := 0) (mc := (mc + 3)) (ms := (ms + 421)) (st := [vi r108]) dL_law_517 cV_L_68 rfl hg ⟨_, _, rfl⟩ rfl (Nat.le_of_ble_eq_true rfl) hF (fun v h109 hG => ?_)
                              clear hF
                              revert hG
                              intro hF
                              replace hF := atI_e hF
                              obtain ⟨r110, rfl, hF⟩ := hF
                              refine rz_icmp_eq (tgt := 852) dL_law_520 (by decide) (fun c => ?_) (fun c => ?_)
                              · replace hF := ite_t hF c
                                refine rz_iinc (ls' := [some (vo 0), some (vo x1), some (vo x2), some (vi (w32 (x3 + 5)))]) dL_law_852 rfl (Nat.le_of_ble_eq_true rfl) rfl ?_
                                refine rz_goto (tgt := 18) dL_law_855 (by decide) ?_
                                refine ez_wide (mc := mc) (ms := ms) (by omega) (by omega) ?_
                                exact hF
                              · replace hF := ite_f hF c
                                refine rz_iconst dL_law_523 rfl (by decide) ?_
                                exact rz_iret dL_law_524 (Or.inl rfl) hF
                            · replace hF := ite_f hF c111
                              by_cases c122 : bAnd e2 31 = 13
                              · replace hF := ite_t hF c122
                                refine rz_tsIn (off := 493) (tgt := 525) dL_law_32 (by omega) (by omega) (by rw [c122]; rfl) (by decide) ?_
                                refine rz_aload_n dL_law_525 rfl (show _ = some (some (vo x1)) from rfl) ?_
                                refine rz_aload_n dL_law_526 rfl (show _ = some (some (vo 0)) from rfl) ?_
                                refine rz_iload_n dL_law_527 rfl (show _ = some (some (vi x3)) from rfl) ?_
                                refine rz_iconst dL_law_528 rfl (by decide) ?_
                                refine rz_iadd dL_law_529 ?_
                                replace hF := ldI_e hF
                                obtain ⟨xs, hg, h0, h1, hF⟩ := hF
                                refine rz_sld dL_law_530 hg h0 h1 ?_
                                generalize xs.getD _ 0 = e112 at hF ⊢
                                refine rz_aload_n dL_law_531 rfl (show _ = some (some (vo 0)) from rfl) ?_
                                refine rz_iload_n dL_law_532 rfl (show _ = some (some (vi x3)) from rfl) ?_
                                refine rz_iconst dL_law_533 rfl (by decide) ?_
                                refine rz_iadd dL_law_534 ?_
                                replace hF := ldI_e hF
                                obtain ⟨xs, hg, h0, h1, hF⟩ := hF
                                refine rz_sld dL_law_535 hg h0 h1 ?_
                                generalize xs.getD _ 0 = e113 at hF ⊢
                                refine rz_aload_n dL_law_536 rfl (show _ = some (some (vo 0)) from rfl) ?_
                                refine rz_iload_n dL_law_537 rfl (show _ = some (some (vi x3)) from rfl) ?_
                                refine rz_iconst dL_law_538 rfl (by decide) ?_
                                refine rz_iadd dL_law_539 ?_
                                replace hF := ldI_e hF
                                obtain ⟨xs, hg, h0, h1, hF⟩ := hF
                                refine rz_sld dL_law_540 hg h0 h1 ?_
                                generalize xs.getD _ 0 = e114 at hF ⊢
                                replace hF := rcv_e hF
                                obtain ⟨fs, hg, hF⟩ := hF
                                refine ez_wide (mc := 0 + (mc + 3)) (ms := 0 + (ms + 421)) (by omega) (by omega) ?_
                                refine rz_callV (mc' := 0) (ms' := 0) (mc := (mc + 3)) (ms := (ms + 421)) (st := []) dL_law_541 cV_L_69 rfl hg ⟨_, _, rfl⟩ rfl (Nat.le_of_ble_eq_true rfl) hF (fun v h115 hG => ?_)
                                clear hF
                                revert hG
                                intro hF
                                replace hF := atI_e hF
                                obtain ⟨r116, rfl, hF⟩ := hF
                                refine rz_aload_n dL_law_544 rfl (show _ = some (some (vo x2)) from rfl) ?_
                                refine rz_aload_n dL_law_545 rfl (show _ = some (some (vo 0)) from rfl) ?_
                                refine rz_iload_n dL_law_546 rfl (show _ = some (some (vi x3)) from rfl) ?_
                                refine rz_iconst dL_law_547 rfl (by decide) ?_
                                refine rz_iadd dL_law_548 ?_
                                replace hF := ldI_e hF
                                obtain ⟨xs, hg, h0, h1, hF⟩ := hF
                                refine rz_sld dL_law_549 hg h0 h1 ?_
                                generalize xs.getD _ 0 = e117 at hF ⊢
                                refine rz_aload_n dL_law_550 rfl (show _ = some (some (vo 0)) from rfl) ?_
                                refine rz_iload_n dL_law_551 rfl (show _ = some (some (vi x3)) from rfl) ?_
                                refine rz_iconst dL_law_552 rfl (by decide) ?_
                                refine rz_iadd dL_law_553 ?_
                                replace hF := ldI_e hF
                                obtain ⟨xs, hg, h0, h1, hF⟩ := hF
                                refine rz_sld dL_law_554 hg h0 h1 ?_
                                generalize xs.getD _ 0 = e118 at hF ⊢
                                refine rz_aload_n dL_law_555 rfl (show _ = some (some (vo 0)) from rfl) ?_
                                refine rz_iload_n dL_law_556 rfl (show _ = some (some (vi x3)) from rfl) ?_
                                refine rz_iconst dL_law_557 rfl (by decide) ?_
                                refine rz_iadd dL_law_558 ?_
                                replace hF := ldI_e hF
                                obtain ⟨xs, hg, h0, h1, hF⟩ := hF
                                refine rz_sld dL_law_559 hg h0 h1 ?_
                                generalize xs.getD _ 0 = e119 at hF ⊢
                                replace hF := rcv_e hF
                                obtain ⟨fs, hg, hF⟩ := hF
                                refine ez_wide (mc := 0 + (mc + 3)) (ms := 0 + (ms + 421)) (by omega) (by omega) ?_
                                refine rz_callV (mc' := 0) (ms' := 0) (mc := (mc + 3)) (ms := (ms + 421)) (st := [vi r116]) dL_law_560 cV_L_73 rfl hg ⟨_, _, rfl⟩ rfl (Nat.le_of_ble_eq_true rfl) hF (fun v h120 hG => ?_)
                                clear hF
                                revert hG
                                intro hF
                                replace hF := atI_e hF
                                obtain ⟨r121, rfl, hF⟩ := hF
                                refine rz_icmp_eq (tgt := 852) dL_law_563 (by decide) (fun c => ?_) (fun c => ?_)
                                · replace hF := ite_t hF c
                                  refine rz_iinc (ls' := [some (vo 0), some (vo x1), some (vo x2), some (vi (w32 (x3 + 5)))]) dL_law_852 rfl (Nat.le_of_ble_eq_true rfl) rfl ?_
                                  refine rz_goto (tgt := 18) dL_law_855 (by decide) ?_
                                  refine ez_wide (mc := mc) (ms := ms) (by omega) (by omega) ?_
                                  exact hF
                                · replace hF := ite_f hF c
                                  refine rz_iconst dL_law_566 rfl (by decide) ?_
                                  exact rz_iret dL_law_567 (Or.inl rfl) hF
                              · replace hF := ite_f hF c122
                                by_cases c133 : bAnd e2 31 = 14
                                · replace hF := ite_t hF c133
                                  refine rz_tsIn (off := 536) (tgt := 568) dL_law_32 (by omega) (by omega) (by rw [c133]; rfl) (by decide) ?_
                                  refine rz_aload_n dL_law_568 rfl (show _ = some (some (vo x1)) from rfl) ?_
                                  refine rz_aload_n dL_law_569 rfl (show _ = some (some (vo 0)) from rfl) ?_
                                  refine rz_iload_n dL_law_570 rfl (show _ = some (some (vi x3)) from rfl) ?_
                                  refine rz_iconst dL_law_571 rfl (by decide) ?_
                                  refine rz_iadd dL_law_572 ?_
                                  replace hF := ldI_e hF
                                  obtain ⟨xs, hg, h0, h1, hF⟩ := hF
                                  refine rz_sld dL_law_573 hg h0 h1 ?_
                                  generalize xs.getD _ 0 = e123 at hF ⊢
                                  refine rz_i2l dL_law_574 ?_
                                  refine rz_bipush (v := 32) dL_law_575 (by decide) (by decide) ?_
                                  refine rz_lshl dL_law_577 ?_
                                  refine rz_aload_n dL_law_578 rfl (show _ = some (some (vo 0)) from rfl) ?_
                                  refine rz_iload_n dL_law_579 rfl (show _ = some (some (vi x3)) from rfl) ?_
                                  refine rz_iconst dL_law_580 rfl (by decide) ?_
                                  refine rz_iadd dL_law_581 ?_
                                  replace hF := ldI_e hF
                                  obtain ⟨xs, hg, h0, h1, hF⟩ := hF
                                  refine rz_sld dL_law_582 hg h0 h1 ?_
                                  generalize xs.getD _ 0 = e124 at hF ⊢
                                  refine rz_i2l dL_law_583 ?_
                                  refine rz_ldc2 (v := 4294967295) dL_law_584 k_1532 (by decide) ?_
                                  refine rz_land dL_law_587 ?_
                                  refine rz_lor dL_law_588 ?_
                                  refine rz_aload_n dL_law_589 rfl (show _ = some (some (vo 0)) from rfl) ?_
                                  refine rz_iload_n dL_law_590 rfl (show _ = some (some (vi x3)) from rfl) ?_
                                  refine rz_iconst dL_law_591 rfl (by decide) ?_
                                  refine rz_iadd dL_law_592 ?_
                                  replace hF := ldI_e hF
                                  obtain ⟨xs, hg, h0, h1, hF⟩ := hF
                                  refine rz_sld dL_law_593 hg h0 h1 ?_
                                  generalize xs.getD _ 0 = e125 at hF ⊢
                                  replace hF := rcv_e hF
                                  obtain ⟨fs, hg, hF⟩ := hF
                                  refine ez_wide (mc := 0 + (mc + 3)) (ms := 0 + (ms + 421)) (by omega) (by omega) ?_
                                  refine rz_callV (mc' := 0) (ms' := 0) (mc := (mc + 3)) (ms := (ms + 421)) (st := []) dL_law_594 cV_L_76 rfl hg ⟨_, _, rfl⟩ rfl (Nat.le_of_ble_eq_true rfl) hF (fun v h126 hG => ?_)
                                  clear hF
                                  revert hG
                                  intro hF
                                  replace hF := atI_e hF
                                  obtain ⟨r127, rfl, hF⟩ := hF
                                  refine rz_aload_n dL_law_597 rfl (show _ = some (some (vo x2)) from rfl) ?_
                                  refine rz_aload_n dL_law_598 rfl (show _ = some (some (vo 0)) from rfl) ?_
                                  refine rz_iload_n dL_law_599 rfl (show _ = some (some (vi x3)) from rfl) ?_
                                  refine rz_iconst dL_law_600 rfl (by decide) ?_
                                  refine rz_iadd dL_law_601 ?_
                                  replace hF := ldI_e hF
                                  obtain ⟨xs, hg, h0, h1, hF⟩ := hF
                                  refine rz_sld dL_law_602 hg h0 h1 ?_
                                  generalize xs.getD _ 0 = e128 at hF ⊢
                                  refine rz_i2l dL_law_603 ?_
                                  refine rz_bipush (v := 32) dL_law_604 (by decide) (by decide) ?_
                                  refine rz_lshl dL_law_606 ?_
                                  refine rz_aload_n dL_law_607 rfl (show _ = some (some (vo 0)) from rfl) ?_
                                  refine rz_iload_n dL_law_608 rfl (show _ = some (some (vi x3)) from rfl) ?_
                                  refine rz_iconst dL_law_609 rfl (by decide) ?_
                                  refine rz_iadd dL_law_610 ?_
                                  replace hF := ldI_e hF
                                  obtain ⟨xs, hg, h0, h1, hF⟩ := hF
                                  refine rz_sld dL_law_611 hg h0 h1 ?_
                                  generalize xs.getD _ 0 = e129 at hF ⊢
                                  refine rz_i2l dL_law_612 ?_
                                  refine rz_ldc2 (v := 4294967295) dL_law_613 k_1532 (by decide) ?_
                                  refine rz_land dL_law_616 ?_
                                  refine rz_lor dL_law_617 ?_
                                  refine rz_aload_n dL_law_618 rfl (show _ = some (some (vo 0)) from rfl) ?_
                                  refine rz_iload_n dL_law_619 rfl (show _ = some (some (vi x3)) from rfl) ?_
                                  refine rz_iconst dL_law_620 rfl (by decide) ?_
                                  refine rz_iadd dL_law_621 ?_
                                  replace hF := ldI_e hF
                                  obtain ⟨xs, hg, h0, h1, hF⟩ := hF
                                  refine rz_sld dL_law_622 hg h0 h1 ?_
                                  generalize xs.getD _ 0 = e130 at hF ⊢
                                  replace hF := rcv_e hF
                                  obtain ⟨fs, hg, hF⟩ := hF
                                  refine ez_wide (mc := 0 + (mc + 3)) (ms := 0 + (ms + 421)) (by omega) (by omega) ?_
                                  refine rz_callV (mc' := 0) (ms' := 0) (mc := (mc + 3)) (ms := (ms + 421)) (st := [vi r127]) dL_law_623 cV_L_80 rfl hg ⟨_, _, rfl⟩ rfl (Nat.le_of_ble_eq_true rfl) hF (fun v h131 hG => ?_)
                                  clear hF
                                  revert hG
                                  intro hF
                                  replace hF := atI_e hF
                                  obtain ⟨r132, rfl, hF⟩ := hF
                                  refine rz_icmp_eq (tgt := 852) dL_law_626 (by decide) (fun c => ?_) (fun c => ?_)
                                  · replace hF := ite_t hF c
                                    refine rz_iinc (ls' := [some (vo 0), some (vo x1), some (vo x2), some (vi (w32 (x3 + 5)))]) dL_law_852 rfl (Nat.le_of_ble_eq_true rfl) rfl ?_
                                    refine rz_goto (tgt := 18) dL_law_855 (by decide) ?_
                                    refine ez_wide (mc := mc) (ms := ms) (by omega) (by omega) ?_
                                    exact hF
                                  · replace hF := ite_f hF c
                                    refine rz_iconst dL_law_629 rfl (by decide) ?_
                                    exact rz_iret dL_law_630 (Or.inl rfl) hF
                                · replace hF := ite_f hF c133
                                  by_cases c142 : bAnd e2 31 = 15
                                  · replace hF := ite_t hF c142
                                    refine rz_tsIn (off := 599) (tgt := 631) dL_law_32 (by omega) (by omega) (by rw [c142]; rfl) (by decide) ?_
                                    refine rz_aload_n dL_law_631 rfl (show _ = some (some (vo x1)) from rfl) ?_
                                    refine rz_aload_n dL_law_632 rfl (show _ = some (some (vo 0)) from rfl) ?_
                                    refine rz_iload_n dL_law_633 rfl (show _ = some (some (vi x3)) from rfl) ?_
                                    refine rz_iconst dL_law_634 rfl (by decide) ?_
                                    refine rz_iadd dL_law_635 ?_
                                    replace hF := ldI_e hF
                                    obtain ⟨xs, hg, h0, h1, hF⟩ := hF
                                    refine rz_sld dL_law_636 hg h0 h1 ?_
                                    generalize xs.getD _ 0 = e134 at hF ⊢
                                    refine rz_aload_n dL_law_637 rfl (show _ = some (some (vo 0)) from rfl) ?_
                                    refine rz_iload_n dL_law_638 rfl (show _ = some (some (vi x3)) from rfl) ?_
                                    refine rz_iconst dL_law_639 rfl (by decide) ?_
                                    refine rz_iadd dL_law_640 ?_
                                    replace hF := ldI_e hF
                                    obtain ⟨xs, hg, h0, h1, hF⟩ := hF
                                    refine rz_sld dL_law_641 hg h0 h1 ?_
                                    generalize xs.getD _ 0 = e135 at hF ⊢
                                    replace hF := rcv_e hF
                                    obtain ⟨fs, hg, hF⟩ := hF
                                    refine ez_wide (mc := 0 + (mc + 3)) (ms := 0 + (ms + 421)) (by omega) (by omega) ?_
                                    refine rz_callV (mc' := 0) (ms' := 0) (mc := (mc + 3)) (ms := (ms + 421)) (st := []) dL_law_642 cV_L_81 rfl hg ⟨_, _, rfl⟩ rfl (Nat.le_of_ble_eq_true rfl) hF (fun v h136 hG => ?_)
                                    clear hF
                                    revert hG
                                    intro hF
                                    replace hF := atI_e hF
                                    obtain ⟨r137, rfl, hF⟩ := hF
                                    refine rz_aload_n dL_law_645 rfl (show _ = some (some (vo x2)) from rfl) ?_
                                    refine rz_aload_n dL_law_646 rfl (show _ = some (some (vo 0)) from rfl) ?_
                                    refine rz_iload_n dL_law_647 rfl (show _ = some (some (vi x3)) from rfl) ?_
                                    refine rz_iconst dL_law_648 rfl (by decide) ?_
                                    refine rz_iadd dL_law_649 ?_
                                    replace hF := ldI_e hF
                                    obtain ⟨xs, hg, h0, h1, hF⟩ := hF
                                    refine rz_sld dL_law_650 hg h0 h1 ?_
                                    generalize xs.getD _ 0 = e138 at hF ⊢
                                    refine rz_aload_n dL_law_651 rfl (show _ = some (some (vo 0)) from rfl) ?_
                                    refine rz_iload_n dL_law_652 rfl (show _ = some (some (vi x3)) from rfl) ?_
                                    refine rz_iconst dL_law_653 rfl (by decide) ?_
                                    refine rz_iadd dL_law_654 ?_
                                    replace hF := ldI_e hF
                                    obtain ⟨xs, hg, h0, h1, hF⟩ := hF
                                    refine rz_sld dL_law_655 hg h0 h1 ?_
                                    generalize xs.getD _ 0 = e139 at hF ⊢
                                    replace hF := rcv_e hF
                                    obtain ⟨fs, hg, hF⟩ := hF
                                    refine ez_wide (mc := 0 + (mc + 3)) (ms := 0 + (ms + 421)) (by omega) (by omega) ?_
                                    refine rz_callV (mc' := 0) (ms' := 0) (mc := (mc + 3)) (ms := (ms + 421)) (st := [vi r137]) dL_law_656 cV_L_84 rfl hg ⟨_, _, rfl⟩ rfl (Nat.le_of_ble_eq_true rfl) hF (fun v h140 hG => ?_)
                                    clear hF
                                    revert hG
                                    intro hF
                                    replace hF := atI_e hF
                                    obtain ⟨r141, rfl, hF⟩ := hF
                                    refine rz_icmp_eq (tgt := 852) dL_law_659 (by decide) (fun c => ?_) (fun c => ?_)
                                    · replace hF := ite_t hF c
                                      refine rz_iinc (ls' := [some (vo 0), some (vo x1), some (vo x2), some (vi (w32 (x3 + 5)))]) dL_law_852 rfl (Nat.le_of_ble_eq_true rfl) rfl ?_
                                      refine rz_goto (tgt := 18) dL_law_855 (by decide) ?_
                                      refine ez_wide (mc := mc) (ms := ms) (by omega) (by omega) ?_
                                      exact hF
                                    · replace hF := ite_f hF c
                                      refine rz_iconst dL_law_662 rfl (by decide) ?_
                                      exact rz_iret dL_law_663 (Or.inl rfl) hF
                                  · replace hF := ite_f hF c142
                                    by_cases c151 : bAnd e2 31 = 16
                                    · replace hF := ite_t hF c151
                                      refine rz_tsIn (off := 632) (tgt := 664) dL_law_32 (by omega) (by omega) (by rw [c151]; rfl) (by decide) ?_
                                      refine rz_aload_n dL_law_664 rfl (show _ = some (some (vo x1)) from rfl) ?_
                                      refine rz_aload_n dL_law_665 rfl (show _ = some (some (vo 0)) from rfl) ?_
                                      refine rz_iload_n dL_law_666 rfl (show _ = some (some (vi x3)) from rfl) ?_
                                      refine rz_iconst dL_law_667 rfl (by decide) ?_
                                      refine rz_iadd dL_law_668 ?_
                                      replace hF := ldI_e hF
                                      obtain ⟨xs, hg, h0, h1, hF⟩ := hF
                                      refine rz_sld dL_law_669 hg h0 h1 ?_
                                      generalize xs.getD _ 0 = e143 at hF ⊢
                                      refine rz_aload_n dL_law_670 rfl (show _ = some (some (vo 0)) from rfl) ?_
                                      refine rz_iload_n dL_law_671 rfl (show _ = some (some (vi x3)) from rfl) ?_
                                      refine rz_iconst dL_law_672 rfl (by decide) ?_
                                      refine rz_iadd dL_law_673 ?_
                                      replace hF := ldI_e hF
                                      obtain ⟨xs, hg, h0, h1, hF⟩ := hF
                                      refine rz_sld dL_law_674 hg h0 h1 ?_
                                      generalize xs.getD _ 0 = e144 at hF ⊢
                                      replace hF := rcv_e hF
                                      obtain ⟨fs, hg, hF⟩ := hF
                                      refine ez_wide (mc := 0 + (mc + 3)) (ms := 0 + (ms + 421)) (by omega) (by omega) ?_
                                      refine rz_callV (mc' := 0) (ms' := 0) (mc := (mc + 3)) (ms := (ms + 421)) (st := []) dL_law_675 cV_L_85 rfl hg ⟨_, _, rfl⟩ rfl (Nat.le_of_ble_eq_true rfl) hF (fun v h145 hG => ?_)
                                      clear hF
                                      revert hG
                                      intro hF
                                      replace hF := atI_e hF
                                      obtain ⟨r146, rfl, hF⟩ := hF
                                      refine rz_aload_n dL_law_678 rfl (show _ = some (some (vo x2)) from rfl) ?_
                                      refine rz_aload_n dL_law_679 rfl (show _ = some (some (vo 0)) from rfl) ?_
                                      refine rz_iload_n dL_law_680 rfl (show _ = some (some (vi x3)) from rfl) ?_
                                      refine rz_iconst dL_law_681 rfl (by decide) ?_
                                      refine rz_iadd dL_law_682 ?_
                                      replace hF := ldI_e hF
                                      obtain ⟨xs, hg, h0, h1, hF⟩ := hF
                                      refine rz_sld dL_law_683 hg h0 h1 ?_
                                      generalize xs.getD _ 0 = e147 at hF ⊢
                                      refine rz_aload_n dL_law_684 rfl (show _ = some (some (vo 0)) from rfl) ?_
                                      refine rz_iload_n dL_law_685 rfl (show _ = some (some (vi x3)) from rfl) ?_
                                      refine rz_iconst dL_law_686 rfl (by decide) ?_
                                      refine rz_iadd dL_law_687 ?_
                                      replace hF := ldI_e hF
                                      obtain ⟨xs, hg, h0, h1, hF⟩ := hF
                                      refine rz_sld dL_law_688 hg h0 h1 ?_
                                      generalize xs.getD _ 0 = e148 at hF ⊢
                                      replace hF := rcv_e hF
                                      obtain ⟨fs, hg, hF⟩ := hF
                                      refine ez_wide (mc := 0 + (mc + 3)) (ms := 0 + (ms + 421)) (by omega) (by omega) ?_
                                      refine rz_callV (mc' := 0) (ms' := 0) (mc := (mc + 3)) (ms := (ms + 421)) (st := [vi r146]) dL_law_689 cV_L_88 rfl hg ⟨_, _, rfl⟩ rfl (Nat.le_of_ble_eq_true rfl) hF (fun v h149 hG => ?_)
                                      clear hF
                                      revert hG
                                      intro hF
                                      replace hF := atI_e hF
                                      obtain ⟨r150, rfl, hF⟩ := hF
                                      refine rz_icmp_eq (tgt := 852) dL_law_692 (by decide) (fun c => ?_) (fun c => ?_)
                                      · replace hF := ite_t hF c
                                        refine rz_iinc (ls' := [some (vo 0), some (vo x1), some (vo x2), some (vi (w32 (x3 + 5)))]) dL_law_852 rfl (Nat.le_of_ble_eq_true rfl) rfl ?_
                                        refine rz_goto (tgt := 18) dL_law_855 (by decide) ?_
                                        refine ez_wide (mc := mc) (ms := ms) (by omega) (by omega) ?_
                                        exact hF
                                      · replace hF := ite_f hF c
                                        refine rz_iconst dL_law_695 rfl (by decide) ?_
                                        exact rz_iret dL_law_696 (Or.inl rfl) hF
                                    · replace hF := ite_f hF c151
                                      by_cases c160 : bAnd e2 31 = 17
                                      · replace hF := ite_t hF c160
                                        refine rz_tsIn (off := 665) (tgt := 697) dL_law_32 (by omega) (by omega) (by rw [c160]; rfl) (by decide) ?_
                                        refine rz_aload_n dL_law_697 rfl (show _ = some (some (vo x1)) from rfl) ?_
                                        refine rz_aload_n dL_law_698 rfl (show _ = some (some (vo 0)) from rfl) ?_
                                        refine rz_iload_n dL_law_699 rfl (show _ = some (some (vi x3)) from rfl) ?_
                                        refine rz_iconst dL_law_700 rfl (by decide) ?_
                                        refine rz_iadd dL_law_701 ?_
                                        replace hF := ldI_e hF
                                        obtain ⟨xs, hg, h0, h1, hF⟩ := hF
                                        refine rz_sld dL_law_702 hg h0 h1 ?_
                                        generalize xs.getD _ 0 = e152 at hF ⊢
                                        refine rz_aload_n dL_law_703 rfl (show _ = some (some (vo 0)) from rfl) ?_
                                        refine rz_iload_n dL_law_704 rfl (show _ = some (some (vi x3)) from rfl) ?_
                                        refine rz_iconst dL_law_705 rfl (by decide) ?_
                                        refine rz_iadd dL_law_706 ?_
                                        replace hF := ldI_e hF
                                        obtain ⟨xs, hg, h0, h1, hF⟩ := hF
                                        refine rz_sld dL_law_707 hg h0 h1 ?_
                                        generalize xs.getD _ 0 = e153 at hF ⊢
                                        replace hF := rcv_e hF
                                        obtain ⟨fs, hg, hF⟩ := hF
                                        refine ez_wide (mc := 0 + (mc + 3)) (ms := 0 + (ms + 421)) (by omega) (by omega) ?_
                                        refine rz_callV (mc' := 0) (ms' := 0) (mc := (mc + 3)) (ms := (ms + 421)) (st := []) dL_law_708 cV_L_89 rfl hg ⟨_, _, rfl⟩ rfl (Nat.le_of_ble_eq_true rfl) hF (fun v h154 hG => ?_)
                                        clear hF
                                        revert hG
                                        intro hF
                                        replace hF := atI_e hF
                                        obtain ⟨r155, rfl, hF⟩ := hF
                                        refine rz_aload_n dL_law_711 rfl (show _ = some (some (vo x2)) from rfl) ?_
                                        refine rz_aload_n dL_law_712 rfl (show _ = some (some (vo 0)) from rfl) ?_
                                        refine rz_iload_n dL_law_713 rfl (show _ = some (some (vi x3)) from rfl) ?_
                                        refine rz_iconst dL_law_714 rfl (by decide) ?_
                                        refine rz_iadd dL_law_715 ?_
                                        replace hF := ldI_e hF
                                        obtain ⟨xs, hg, h0, h1, hF⟩ := hF
                                        refine rz_sld dL_law_716 hg h0 h1 ?_
                                        generalize xs.getD _ 0 = e156 at hF ⊢
                                        refine rz_aload_n dL_law_717 rfl (show _ = some (some (vo 0)) from rfl) ?_
                                        refine rz_iload_n dL_law_718 rfl (show _ = some (some (vi x3)) from rfl) ?_
                                        refine rz_iconst dL_law_719 rfl (by decide) ?_
                                        refine rz_iadd dL_law_720 ?_
                                        replace hF := ldI_e hF
                                        obtain ⟨xs, hg, h0, h1, hF⟩ := hF
                                        refine rz_sld dL_law_721 hg h0 h1 ?_
                                        generalize xs.getD _ 0 = e157 at hF ⊢
                                        replace hF := rcv_e hF
                                        obtain ⟨fs, hg, hF⟩ := hF
                                        refine ez_wide (mc := 0 + (mc + 3)) (ms := 0 + (ms + 421)) (by omega) (by omega) ?_
                                        refine rz_callV (mc' := 0) (ms' := 0) (mc := (mc + 3)) (ms := (ms + 421)) (st := [vi r155]) dL_law_722 cV_L_92 rfl hg ⟨_, _, rfl⟩ rfl (Nat.le_of_ble_eq_true rfl) hF (fun v h158 hG => ?_)
                                        clear hF
                                        revert hG
                                        intro hF
                                        replace hF := atI_e hF
                                        obtain ⟨r159, rfl, hF⟩ := hF
                                        refine rz_icmp_eq (tgt := 852) dL_law_725 (by decide) (fun c => ?_) (fun c => ?_)
                                        · replace hF := ite_t hF c
                                          refine rz_iinc (ls' := [some (vo 0), some (vo x1), some (vo x2), some (vi (w32 (x3 + 5)))]) dL_law_852 rfl (Nat.le_of_ble_eq_true rfl) rfl ?_
                                          refine rz_goto (tgt := 18) dL_law_855 (by decide) ?_
                                          refine ez_wide (mc := mc) (ms := ms) (by omega) (by omega) ?_
                                          exact hF
                                        · replace hF := ite_f hF c
                                          refine rz_iconst dL_law_728 rfl (by decide) ?_
                                          exact rz_iret dL_law_729 (Or.inl rfl) hF
                                      · replace hF := ite_f hF c160
                                        by_cases c169 : bAnd e2 31 = 18
                                        · replace hF := ite_t hF c169
                                          refine rz_tsIn (off := 698) (tgt := 730) dL_law_32 (by omega) (by omega) (by rw [c169]; rfl) (by decide) ?_
                                          refine rz_aload_n dL_law_730 rfl (show _ = some (some (vo x1)) from rfl) ?_
                                          refine rz_aload_n dL_law_731 rfl (show _ = some (some (vo 0)) from rfl) ?_
                                          refine rz_iload_n dL_law_732 rfl (show _ = some (some (vi x3)) from rfl) ?_
                                          refine rz_iconst dL_law_733 rfl (by decide) ?_
                                          refine rz_iadd dL_law_734 ?_
                                          replace hF := ldI_e hF
                                          obtain ⟨xs, hg, h0, h1, hF⟩ := hF
                                          refine rz_sld dL_law_735 hg h0 h1 ?_
                                          generalize xs.getD _ 0 = e161 at hF ⊢
                                          refine rz_aload_n dL_law_736 rfl (show _ = some (some (vo 0)) from rfl) ?_
                                          refine rz_iload_n dL_law_737 rfl (show _ = some (some (vi x3)) from rfl) ?_
                                          refine rz_iconst dL_law_738 rfl (by decide) ?_
                                          refine rz_iadd dL_law_739 ?_
                                          replace hF := ldI_e hF
                                          obtain ⟨xs, hg, h0, h1, hF⟩ := hF
                                          refine rz_sld dL_law_740 hg h0 h1 ?_
                                          generalize xs.getD _ 0 = e162 at hF ⊢
                                          replace hF := rcv_e hF
                                          obtain ⟨fs, hg, hF⟩ := hF
                                          refine ez_wide (mc := 0 + (mc + 3)) (ms := 0 + (ms + 421)) (by omega) (by omega) ?_
                                          refine rz_callV (mc' := 0) (ms' := 0) (mc := (mc + 3)) (ms := (ms + 421)) (st := []) dL_law_741 cV_L_93 rfl hg ⟨_, _, rfl⟩ rfl (Nat.le_of_ble_eq_true rfl) hF (fun v h163 hG => ?_)
                                          clear hF
                                          revert hG
                                          intro hF
                                          replace hF := atI_e hF
                                          obtain ⟨r164, rfl, hF⟩ := hF
                                          refine rz_aload_n dL_law_744 rfl (show _ = some (some (vo x2)) from rfl) ?_
                                          refine rz_aload_n dL_law_745 rfl (show _ = some (some (vo 0)) from rfl) ?_
                                          refine rz_iload_n dL_law_746 rfl (show _ = some (some (vi x3)) from rfl) ?_
                                          refine rz_iconst dL_law_747 rfl (by decide) ?_
                                          refine rz_iadd dL_law_748 ?_
                                          replace hF := ldI_e hF
                                          obtain ⟨xs, hg, h0, h1, hF⟩ := hF
                                          refine rz_sld dL_law_749 hg h0 h1 ?_
                                          generalize xs.getD _ 0 = e165 at hF ⊢
                                          refine rz_aload_n dL_law_750 rfl (show _ = some (some (vo 0)) from rfl) ?_
                                          refine rz_iload_n dL_law_751 rfl (show _ = some (some (vi x3)) from rfl) ?_
                                          refine rz_iconst dL_law_752 rfl (by decide) ?_
                                          refine rz_iadd dL_law_753 ?_
                                          replace hF := ldI_e hF
                                          obtain ⟨xs, hg, h0, h1, hF⟩ := hF
                                          refine rz_sld dL_law_754 hg h0 h1 ?_
                                          generalize xs.getD _ 0 = e166 at hF ⊢
                                          replace hF := rcv_e hF
                                          obtain ⟨fs, hg, hF⟩ := hF
                                          refine ez_wide (mc := 0 + (mc + 3)) (ms := 0 + (ms + 421)) (by omega) (by omega) ?_
                                          refine rz_callV (mc' := 0) (ms' := 0) (mc := (mc + 3)) (ms := (ms + 421)) (st := [vi r164]) dL_law_755 cV_L_96 rfl hg ⟨_, _, rfl⟩ rfl (Nat.le_of_ble_eq_true rfl) hF (fun v h167 hG => ?_)
                                          clear hF
                                          revert hG
                                          intro hF
                                          replace hF := atI_e hF
                                          obtain ⟨r168, rfl, hF⟩ := hF
                                          refine rz_icmp_eq (tgt := 852) dL_law_758 (by decide) (fun c => ?_) (fun c => ?_)
                                          · replace hF := ite_t hF c
                                            refine rz_iinc (ls' := [some (vo 0), some (vo x1), some (vo x2), some (vi (w32 (x3 + 5)))]) dL_law_852 rfl (Nat.le_of_ble_eq_true rfl) rfl ?_
                                            refine rz_goto (tgt := 18) dL_law_855 (by decide) ?_
                                            refine ez_wide (mc := mc) (ms := ms) (by omega) (by omega) ?_
                                            exact hF
                                          · replace hF := ite_f hF c
                                            refine rz_iconst dL_law_761 rfl (by decide) ?_
                                            exact rz_iret dL_law_762 (Or.inl rfl) hF
                                        · replace hF := ite_f hF c169
                                          by_cases c178 : bAnd e2 31 = 19
                                          · replace hF := ite_t hF c178
                                            refine rz_tsIn (off := 731) (tgt := 763) dL_law_32 (by omega) (by omega) (by rw [c178]; rfl) (by decide) ?_
                                            refine rz_aload_n dL_law_763 rfl (show _ = some (some (vo x1)) from rfl) ?_
                                            refine rz_aload_n dL_law_764 rfl (show _ = some (some (vo 0)) from rfl) ?_
                                            refine rz_iload_n dL_law_765 rfl (show _ = some (some (vi x3)) from rfl) ?_
                                            refine rz_iconst dL_law_766 rfl (by decide) ?_
                                            refine rz_iadd dL_law_767 ?_
                                            replace hF := ldI_e hF
                                            obtain ⟨xs, hg, h0, h1, hF⟩ := hF
                                            refine rz_sld dL_law_768 hg h0 h1 ?_
                                            generalize xs.getD _ 0 = e170 at hF ⊢
                                            refine rz_aload_n dL_law_769 rfl (show _ = some (some (vo 0)) from rfl) ?_
                                            refine rz_iload_n dL_law_770 rfl (show _ = some (some (vi x3)) from rfl) ?_
                                            refine rz_iconst dL_law_771 rfl (by decide) ?_
                                            refine rz_iadd dL_law_772 ?_
                                            replace hF := ldI_e hF
                                            obtain ⟨xs, hg, h0, h1, hF⟩ := hF
                                            refine rz_sld dL_law_773 hg h0 h1 ?_
                                            generalize xs.getD _ 0 = e171 at hF ⊢
                                            replace hF := rcv_e hF
                                            obtain ⟨fs, hg, hF⟩ := hF
                                            refine ez_wide (mc := 0 + (mc + 3)) (ms := 0 + (ms + 421)) (by omega) (by omega) ?_
                                            refine rz_callV (mc' := 0) (ms' := 0) (mc := (mc + 3)) (ms := (ms + 421)) (st := []) dL_law_774 cV_L_97 rfl hg ⟨_, _, rfl⟩ rfl (Nat.le_of_ble_eq_true rfl) hF (fun v h172 hG => ?_)
                                            clear hF
                                            revert hG
                                            intro hF
                                            replace hF := atI_e hF
                                            obtain ⟨r173, rfl, hF⟩ := hF
                                            refine rz_aload_n dL_law_777 rfl (show _ = some (some (vo x2)) from rfl) ?_
                                            refine rz_aload_n dL_law_778 rfl (show _ = some (some (vo 0)) from rfl) ?_
                                            refine rz_iload_n dL_law_779 rfl (show _ = some (some (vi x3)) from rfl) ?_
                                            refine rz_iconst dL_law_780 rfl (by decide) ?_
                                            refine rz_iadd dL_law_781 ?_
                                            replace hF := ldI_e hF
                                            obtain ⟨xs, hg, h0, h1, hF⟩ := hF
                                            refine rz_sld dL_law_782 hg h0 h1 ?_
                                            generalize xs.getD _ 0 = e174 at hF ⊢
                                            refine rz_aload_n dL_law_783 rfl (show _ = some (some (vo 0)) from rfl) ?_
                                            refine rz_iload_n dL_law_784 rfl (show _ = some (some (vi x3)) from rfl) ?_
                                            refine rz_iconst dL_law_785 rfl (by decide) ?_
                                            refine rz_iadd dL_law_786 ?_
                                            replace hF := ldI_e hF
                                            obtain ⟨xs, hg, h0, h1, hF⟩ := hF
                                            refine rz_sld dL_law_787 hg h0 h1 ?_
                                            generalize xs.getD _ 0 = e175 at hF ⊢
                                            replace hF := rcv_e hF
                                            obtain ⟨fs, hg, hF⟩ := hF
                                            refine ez_wide (mc := 0 + (mc + 3)) (ms := 0 + (ms + 421)) (by omega) (by omega) ?_
                                            refine rz_callV (mc' := 0) (ms' := 0) (mc := (mc + 3)) (ms := (ms + 421)) (st := [vi r173]) dL_law_788 cV_L_100 rfl hg ⟨_, _, rfl⟩ rfl (Nat.le_of_ble_eq_true rfl) hF (fun v h176 hG => ?_)
                                            clear hF
                                            revert hG
                                            intro hF
                                            replace hF := atI_e hF
                                            obtain ⟨r177, rfl, hF⟩ := hF
                                            refine rz_icmp_eq (tgt := 852) dL_law_791 (by decide) (fun c => ?_) (fun c => ?_)
                                            · replace hF := ite_t hF c
                                              refine rz_iinc (ls' := [some (vo 0), some (vo x1), some (vo x2), some (vi (w32 (x3 + 5)))]) dL_law_852 rfl (Nat.le_of_ble_eq_true rfl) rfl ?_
                                              refine rz_goto (tgt := 18) dL_law_855 (by decide) ?_
                                              refine ez_wide (mc := mc) (ms := ms) (by omega) (by omega) ?_
                                              exact hF
                                            · replace hF := ite_f hF c
                                              refine rz_iconst dL_law_794 rfl (by decide) ?_
                                              exact rz_iret dL_law_795 (Or.inl rfl) hF
                                          · replace hF := ite_f hF c178
                                            by_cases c187 : bAnd e2 31 = 20
                                            · replace hF := ite_t hF c187
                                              refine rz_tsIn (off := 764) (tgt := 796) dL_law_32 (by omega) (by omega) (by rw [c187]; rfl) (by decide) ?_
                                              refine rz_aload_n dL_law_796 rfl (show _ = some (some (vo x1)) from rfl) ?_
                                              refine rz_aload_n dL_law_797 rfl (show _ = some (some (vo 0)) from rfl) ?_
                                              refine rz_iload_n dL_law_798 rfl (show _ = some (some (vi x3)) from rfl) ?_
                                              refine rz_iconst dL_law_799 rfl (by decide) ?_
                                              refine rz_iadd dL_law_800 ?_
                                              replace hF := ldI_e hF
                                              obtain ⟨xs, hg, h0, h1, hF⟩ := hF
                                              refine rz_sld dL_law_801 hg h0 h1 ?_
                                              generalize xs.getD _ 0 = e179 at hF ⊢
                                              refine rz_aload_n dL_law_802 rfl (show _ = some (some (vo 0)) from rfl) ?_
                                              refine rz_iload_n dL_law_803 rfl (show _ = some (some (vi x3)) from rfl) ?_
                                              refine rz_iconst dL_law_804 rfl (by decide) ?_
                                              refine rz_iadd dL_law_805 ?_
                                              replace hF := ldI_e hF
                                              obtain ⟨xs, hg, h0, h1, hF⟩ := hF
                                              refine rz_sld dL_law_806 hg h0 h1 ?_
                                              generalize xs.getD _ 0 = e180 at hF ⊢
                                              replace hF := rcv_e hF
                                              obtain ⟨fs, hg, hF⟩ := hF
                                              refine ez_wide (mc := 0 + (mc + 3)) (ms := 0 + (ms + 421)) (by omega) (by omega) ?_
                                              refine rz_callV (mc' := 0) (ms' := 0) (mc := (mc + 3)) (ms := (ms + 421)) (st := []) dL_law_807 cV_L_101 rfl hg ⟨_, _, rfl⟩ rfl (Nat.le_of_ble_eq_true rfl) hF (fun v h181 hG => ?_)
                                              clear hF
                                              revert hG
                                              intro hF
                                              replace hF := atI_e hF
                                              obtain ⟨r182, rfl, hF⟩ := hF
                                              refine rz_aload_n dL_law_810 rfl (show _ = some (some (vo x2)) from rfl) ?_
                                              refine rz_aload_n dL_law_811 rfl (show _ = some (some (vo 0)) from rfl) ?_
                                              refine rz_iload_n dL_law_812 rfl (show _ = some (some (vi x3)) from rfl) ?_
                                              refine rz_iconst dL_law_813 rfl (by decide) ?_
                                              refine rz_iadd dL_law_814 ?_
                                              replace hF := ldI_e hF
                                              obtain ⟨xs, hg, h0, h1, hF⟩ := hF
                                              refine rz_sld dL_law_815 hg h0 h1 ?_
                                              generalize xs.getD _ 0 = e183 at hF ⊢
                                              refine rz_aload_n dL_law_816 rfl (show _ = some (some (vo 0)) from rfl) ?_
                                              refine rz_iload_n dL_law_817 rfl (show _ = some (some (vi x3)) from rfl) ?_
                                              refine rz_iconst dL_law_818 rfl (by decide) ?_
                                              refine rz_iadd dL_law_819 ?_
                                              replace hF := ldI_e hF
                                              obtain ⟨xs, hg, h0, h1, hF⟩ := hF
                                              refine rz_sld dL_law_820 hg h0 h1 ?_
                                              generalize xs.getD _ 0 = e184 at hF ⊢
                                              replace hF := rcv_e hF
                                              obtain ⟨fs, hg, hF⟩ := hF
                                              refine ez_wide (mc := 0 + (mc + 3)) (ms := 0 + (ms + 421)) (by omega) (by omega) ?_
                                              refine rz_callV (mc' := 0) (ms' := 0) (mc := (mc + 3)) (ms := (ms + 421)) (st := [vi r182]) dL_law_821 cV_L_104 rfl hg ⟨_, _, rfl⟩ rfl (Nat.le_of_ble_eq_true rfl) hF (fun v h185 hG => ?_)
                                              clear hF
                                              revert hG
                                              intro hF
                                              replace hF := atI_e hF
                                              obtain ⟨r186, rfl, hF⟩ := hF
                                              refine rz_icmp_eq (tgt := 852) dL_law_824 (by decide) (fun c => ?_) (fun c => ?_)
                                              · replace hF := ite_t hF c
                                                refine rz_iinc (ls' := [some (vo 0), some (vo x1), some (vo x2), some (vi (w32 (x3 + 5)))]) dL_law_852 rfl (Nat.le_of_ble_eq_true rfl) rfl ?_
                                                refine rz_goto (tgt := 18) dL_law_855 (by decide) ?_
                                                refine ez_wide (mc := mc) (ms := ms) (by omega) (by omega) ?_
                                                exact hF
                                              · replace hF := ite_f hF c
                                                refine rz_iconst dL_law_827 rfl (by decide) ?_
                                                exact rz_iret dL_law_828 (Or.inl rfl) hF
                                            · replace hF := ite_f hF c187
                                              by_cases c194 : bAnd e2 31 = 21
                                              · replace hF := ite_t hF c194
                                                refine rz_tsIn (off := 797) (tgt := 829) dL_law_32 (by omega) (by omega) (by rw [c194]; rfl) (by decide) ?_
                                                refine rz_aload_n dL_law_829 rfl (show _ = some (some (vo x1)) from rfl) ?_
                                                refine rz_aload_n dL_law_830 rfl (show _ = some (some (vo 0)) from rfl) ?_
                                                refine rz_iload_n dL_law_831 rfl (show _ = some (some (vi x3)) from rfl) ?_
                                                refine rz_iconst dL_law_832 rfl (by decide) ?_
                                                refine rz_iadd dL_law_833 ?_
                                                replace hF := ldI_e hF
                                                obtain ⟨xs, hg, h0, h1, hF⟩ := hF
                                                refine rz_sld dL_law_834 hg h0 h1 ?_
                                                generalize xs.getD _ 0 = e188 at hF ⊢
                                                replace hF := rcv_e hF
                                                obtain ⟨fs, hg, hF⟩ := hF
                                                refine ez_wide (mc := 0 + (mc + 3)) (ms := 0 + (ms + 421)) (by omega) (by omega) ?_
                                                refine rz_callV (mc' := 0) (ms' := 0) (mc := (mc + 3)) (ms := (ms + 421)) (st := []) dL_law_835 cV_L_105 rfl hg ⟨_, _, rfl⟩ rfl (Nat.le_of_ble_eq_true rfl) hF (fun v h189 hG => ?_)
                                                clear hF
                                                revert hG
                                                intro hF
                                                replace hF := atI_e hF
                                                obtain ⟨r190, rfl, hF⟩ := hF
                                                refine rz_aload_n dL_law_838 rfl (show _ = some (some (vo x2)) from rfl) ?_
                                                refine rz_aload_n dL_law_839 rfl (show _ = some (some (vo 0)) from rfl) ?_
                                                refine rz_iload_n dL_law_840 rfl (show _ = some (some (vi x3)) from rfl) ?_
                                                refine rz_iconst dL_law_841 rfl (by decide) ?_
                                                refine rz_iadd dL_law_842 ?_
                                                replace hF := ldI_e hF
                                                obtain ⟨xs, hg, h0, h1, hF⟩ := hF
                                                refine rz_sld dL_law_843 hg h0 h1 ?_
                                                generalize xs.getD _ 0 = e191 at hF ⊢
                                                replace hF := rcv_e hF
                                                obtain ⟨fs, hg, hF⟩ := hF
                                                refine ez_wide (mc := 0 + (mc + 3)) (ms := 0 + (ms + 421)) (by omega) (by omega) ?_
                                                refine rz_callV (mc' := 0) (ms' := 0) (mc := (mc + 3)) (ms := (ms + 421)) (st := [vi r190]) dL_law_844 cV_L_108 rfl hg ⟨_, _, rfl⟩ rfl (Nat.le_of_ble_eq_true rfl) hF (fun v h192 hG => ?_)
                                                clear hF
                                                revert hG
                                                intro hF
                                                replace hF := atI_e hF
                                                obtain ⟨r193, rfl, hF⟩ := hF
                                                refine rz_icmp_eq (tgt := 852) dL_law_847 (by decide) (fun c => ?_) (fun c => ?_)
                                                · replace hF := ite_t hF c
                                                  refine rz_iinc (ls' := [some (vo 0), some (vo x1), some (vo x2), some (vi (w32 (x3 + 5)))]) dL_law_852 rfl (Nat.le_of_ble_eq_true rfl) rfl ?_
                                                  refine rz_goto (tgt := 18) dL_law_855 (by decide) ?_
                                                  refine ez_wide (mc := mc) (ms := ms) (by omega) (by omega) ?_
                                                  exact hF
                                                · replace hF := ite_f hF c
                                                  refine rz_iconst dL_law_850 rfl (by decide) ?_
                                                  exact rz_iret dL_law_851 (Or.inl rfl) hF
                                              · replace hF := ite_f hF c194
                                                refine rz_tsOut (tgt := 852) dL_law_32 (by omega) (by decide) ?_
                                                refine rz_iinc (ls' := [some (vo 0), some (vo x1), some (vo x2), some (vi (w32 (x3 + 5)))]) dL_law_852 rfl (Nat.le_of_ble_eq_true rfl) rfl ?_
                                                refine rz_goto (tgt := 18) dL_law_855 (by decide) ?_
                                                refine ez_wide (mc := mc) (ms := ms) (by omega) (by omega) ?_
                                                exact hF
theorem vL_law {G : az_G} {d mc ms : Nat} {h : az_H} {Q : Option az_V → az_H → Prop} (hF : nwO h (cO 10 [vn, vn, vn, vn, vn, vn, vn, vn, vn, vn, vi 0, vi 0]) (fun No1 Nh2 => cz G mX10_init d 37 11673 [vo No1] Nh2 (fun v h3 => atV v (nwO h3 (cO 11 [vn, vi 0, vi 0, vi 0, vi 0, vi 0, vi 0, vn, vn, vn, vn, vn, vn, vi 0, vi 0, vi 0, vn, vi 0, vi 0, vi 0, vn, vi 0, vn, vn, vn, vn, vn, vi 0, vn, vi 0, vi 0, vn, vi 0, vi 0, vi 0, vn, vn, vn, vn, vn, vi 0, vn, vn, vn, vn, vi 0, vn, vn, vi 0, vn, vi 0, vn, vn, vi 0, vn, vn, vn, vn, vi 0]) (fun No4 Nh5 => cz G mX11_init d 34 23922 [vo No4] Nh5 (fun v h6 => atV v (pL_law_18 G d mc ms No1 No4 0 h6 Q))))))) : ez G mL_law (d + 1) (mc + 73) (ms + 35666) 0 [some (vo 0), none, none, none] [] h Q := by
  refine ez_wide (mc := (mc + 72) + 1) (ms := (ms + 35654) + 12) (by omega) (by omega) ?_
  refine rz_new (fs := [vn, vn, vn, vn, vn, vn, vn, vn, vn, vn, vi 0, vi 0]) dL_law_0 nw_L_7 ?_
  replace hF := nwO_e hF
  refine rz_dup dL_law_3 (by rintro ⟨_, q⟩; cases q) ?_
  refine ez_wide (mc := 37 + (mc + 35)) (ms := 11673 + (ms + 23981)) (by omega) (by omega) ?_
  refine rz_callI (mc' := 37) (ms' := 11673) (mc := (mc + 35)) (ms := (ms + 23981)) (st := [vo _]) dL_law_4 cI_L_9 rfl rfl (Nat.le_of_ble_eq_true rfl) hF (fun v h3 hG => ?_)
  clear hF
  revert hG
  intro hF
  replace hF := atV_e hF
  obtain ⟨rfl, hF⟩ := hF
  refine rz_astore_n (ls' := [some (vo 0), some (vo _), none, none]) dL_law_7 rfl (Nat.le_of_ble_eq_true rfl) rfl ?_
  refine ez_wide (mc := (mc + 34) + 1) (ms := (ms + 23922) + 59) (by omega) (by omega) ?_
  refine rz_new (fs := [vn, vi 0, vi 0, vi 0, vi 0, vi 0, vi 0, vn, vn, vn, vn, vn, vn, vi 0, vi 0, vi 0, vn, vi 0, vi 0, vi 0, vn, vi 0, vn, vn, vn, vn, vn, vi 0, vn, vi 0, vi 0, vn, vi 0, vi 0, vi 0, vn, vn, vn, vn, vn, vi 0, vn, vn, vn, vn, vi 0, vn, vn, vi 0, vn, vi 0, vn, vn, vi 0, vn, vn, vn, vn, vi 0]) dL_law_8 nw_L_10 ?_
  replace hF := nwO_e hF
  refine rz_dup dL_law_11 (by rintro ⟨_, q⟩; cases q) ?_
  refine ez_wide (mc := 34 + mc) (ms := 23922 + ms) (by omega) (by omega) ?_
  refine rz_callI (mc' := 34) (ms' := 23922) (mc := mc) (ms := ms) (st := [vo _]) dL_law_12 cI_L_12 rfl rfl (Nat.le_of_ble_eq_true rfl) hF (fun v h6 hG => ?_)
  clear hF
  revert hG
  intro hF
  replace hF := atV_e hF
  obtain ⟨rfl, hF⟩ := hF
  refine rz_astore_n (ls' := [some (vo 0), some (vo _), some (vo _), none]) dL_law_15 rfl (Nat.le_of_ble_eq_true rfl) rfl ?_
  refine rz_iconst dL_law_16 rfl (by decide) ?_
  refine rz_istore_n (ls' := [some (vo 0), some (vo _), some (vo _), some (vi 0)]) dL_law_17 rfl (Nat.le_of_ble_eq_true rfl) rfl ?_
  exact hF
