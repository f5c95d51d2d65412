/-! METHOD: both -/
section SM2
variable {G : az_G} {D : Nat} {xs : List Int} {a : Int}
theorem mt_53 {s : Nat → Int → Int} {k : Int} {n lp : Nat} {g : Int → Int} {b : Nat} (hb : b ≤ 55 ∨ b = 62 ∨ 63 ≤ b) (h54 : b ≠ 54) (h69 : b ≠ 69) : up (mtS s k n lp) 69 g b = s b := by
  unfold mtS kpS
  rw [up_ne h69, uf, up_ne (by omega), uf, up_ne (by omega), uf, up_ne (by omega), up_ne (by omega), up_ne (by omega), up_ne (by omega), uf, up_ne h54]
theorem scE_mt {s : Nat → Int → Int} {k : Int} {n lp : Nat} {g : Int → Int} (hn : n ≤ 300) : scE (eK k) s (up (mtS s k n lp) 69 g) := by
  unfold mtS
  refine scE_tr (scE_w scE_541) (scE_tr (scE_kp (by omega)) (scE_tr (scE_uf (fun _ => Or.inr (Or.inr (Or.inl ⟨rfl, rfl⟩)))) (scE_tr (scE_uf (fun _ => ?_)) (scE_tr (scE_uf (fun _ => ?_)) (scE_up (fun j z => ?_))))))
  · unfold eK; omega
  · unfold eK; omega
  · unfold pers psA at z; omega
theorem metR_0 {g m g' m' : Int → Int} {a : Int} (hg : g' = ud g a 0) (hm : m' = zr m (24 * a) 24) (h : metR g m) : metR g' m' := by
  intro k k0 k1
  rw [hg, hm]
  by_cases c : k = a
  · subst c
    rw [ud_at]
    refine ⟨by omega, fun l l0 l1 => ?_⟩
    unfold zr
    rw [if_pos (by omega), Int.zero_ediv, Int.zero_emod]
  · rw [ud_ne c]
    refine ⟨(h k k0 k1).1, fun l l0 l1 => ?_⟩
    unfold zr
    rw [if_neg (by omega)]
    exact (h k k0 k1).2 l l0 l1
theorem st_method : stp xs (Inv xs) G (D + 70) 3 421 mX10_method mX11_method [vi a] := by
  refine stp_i (fun h s r cs hk ru hc hJ => ?_)
  obtain ⟨a1, a2, a3, a4, a5, a6, a7, a8, a9, a10, a11, a12, a13⟩ := hJ
  have hJ : J h s r cs hk ru := ⟨a1, a2, a3, a4, a5, a6, a7, a8, a9, a10, a11, a12, a13⟩
  refine vX10_method (d := D + 69) ?_
  refine sX10_isWithin (fun y1 y2 => ?_) (fun y => ?_)
  rotate_left
  · rw [atI_q, if_pos rfl]
    refine aft_i hc ?_
    refine vX11_method ?_
    refine sX11_in (fun z1 z2 => absurd ⟨z1, z2⟩ y) (fun _ => ?_)
    rw [atI_q, if_pos rfl]
    exact fin_i rfl hJ
  rw [atI_q, if_neg (by decide), ro_16_1, rc_19]
  obtain ⟨L, hL1, hcx, hrx⟩ := Tx_J a4
  have hL := hcx.2.1
  have ha : adv (lxC (s 55) L) (lxE (s 55) L) L := lx_adv hL hcx.2.2.2
  obtain ⟨S, hS⟩ : ∃ S, pSS (lxC (s 55) L) (lxE (s 55) L) (lxN (s 55) L) 4 0 0 0 0 0 = S := ⟨_, rfl⟩
  have hSo := pSS_ok (V := lxN (s 55) L) ha 4 0 0 0 0 0 (Nat.zero_le _) (by decide) (by decide)
  rw [hS] at hSo
  have lxp := lxP_le (T := s 55) (L := L) hSo.2.1
  refine cReadMethod (d := D) (T := s 55) (L := L) (fun s' => strs_c hc) hcx a1.1 hS (fun cS c0 s1 f1 t1 g1 => ?_) (fun hn s1 f1 t1 => ?_)
  rotate_left
  · -- a fault
    rw [atR_q]
    refine cDrop (d := D + 68) (K := fun r6 h11 => aft xs G (D + 70) mX11_method [vi a] (some (vi (w32 (((-10)) - r6)))) h11) t1.1 (f1.2.trans hcx.1) hL ?_
    have e54 : ∀ a, 54 ≤ a → uf s1 17 1 0 a = s a := fun a ha => by rw [uf, up_ne (by omega)]; exact f1.1 a (by omega) (by omega) (by omega) (by omega)
    have hrx1 : rTx (s 55) L (uf s1 17 1 0) := by
      unfold rTx
      rw [e54 54 (by decide), e54 55 (by decide)]
      exact hrx
    refine aft_i hc (rMethod (d := D + 63) hrx1 y1 y2 hS (fun cS c0 => absurd ⟨cS, c0⟩ hn) (fun _ s2 f2 => ?_))
    refine fin_i rfl (J_P (scE_tr (scE_G f1) (scE_tr scE_17 (scE_tr (scE_Q f2) scE_541))) (jT_0 ?_ rfl) (jM_e ?_ ?_ ?_ ?_ a8) hJ)
    · show s2 17 1 = 0
      rw [f2.1 17 (by decide) (by decide) (by decide) (by decide) (by decide) (by decide) (by decide)]; rfl
    · show s2 24 = s 24
      rw [f2.1 24 (by decide) (by decide) (by decide) (by decide) (by decide) (by decide) (by decide)]
      exact f1.1 24 (by decide) (by decide) (by decide) (by decide)
    · show s2 69 = s 69
      rw [f2.1 69 (by decide) (by decide) (by decide) (by decide) (by decide) (by decide) (by decide)]
      exact f1.1 69 (by decide) (by decide) (by decide) (by decide)
    · show s2 22 4 = s 22 4
      rw [f2.1 22 (by decide) (by decide) (by decide) (by decide) (by decide) (by decide) (by decide), show uf s1 17 1 0 22 = s1 22 from rfl, f1.1 22 (by decide) (by decide) (by decide) (by decide)]
    · show s2 54 29 = s 54 29
      rw [f2.2.1 29 (by decide) (by decide) (by decide) (by decide) (by decide) (by decide) (by decide), e54 54 (by decide)]
  · -- a method
    have h5 := hSo.2.2 cS
    have hl3 : S.2.2.2.2.1.length ≤ 208 := by omega
    have hl2 : S.2.2.2.2.2.length ≤ 208 := by omega
    obtain ⟨wf, hcp, hins⟩ := meth_wf ha hS cS hl3
    have hcode := cCode_N (st := (S.2.2.1 : Int)) (lv := 2 * (S.2.2.2.1 : Int)) (c := cdO S.2.2.2.2.1) a1 g1 hl2 hcp hins
    generalize hh' : hN3 h (S.2.2.1 : Int) (2 * (S.2.2.2.1 : Int)) S.2.2.2.2.2.length (rgm S.2.2.2.2.2.length (s1 20)) (rgm S.2.2.2.2.2.length (s1 21)) = h' at hcode ⊢
    have hxx : hx h h' := by rw [← hh']; exact hx_N3
    have nH : jH h' := by rw [← hh']; exact jH_N3 a1
    have hc' : ∀ i, i < 16 → h'.1 i = con0 xs i := by rw [← hh']; exact cst_N3 a1 hc
    have hat : ∀ s' r', (PS h' s' r').1 h.2 = cO 1 [vi (S.2.2.1 : Int), vi (2 * (S.2.2.2.1 : Int)), vi (S.2.2.2.2.2.length : Int), vo (h.2 + 1), vo (h.2 + 1 + 1)] := fun s' r' => (PS_out a1.1).trans (by rw [← hh']; exact at_p2)
    rw [atR_q]
    refine cDrop (h := h') (d := D + 68) (K := fun r8 h13 => rdO h13 16 10 2 (fun o15 => rcv h13 o15 9 (cz G mX9_setMethod (D + 69) 0 0 [vo o15, vi a, vo h.2] h13 (fun v h16 => atV v (rdI h16 h.2 1 0 (fun f17 => aft xs G (D + 70) mX11_method [vi a] (some (vi f17)) h16)))))) t1.1 (f1.2.trans hcx.1) hL ?_
    rw [ro_16_2, rc_22]
    refine vX9_setMethod (x2 := some h.2) ?_
    rw [if_neg (by omega), if_neg (by omega), ro_22_0, sr_23]
    refine ⟨fun c0' hc0 => ?_, y1, by omega, ?_⟩
    · have := Option.some.inj hc0
      subst this
      exact ⟨_, hat _ _⟩
    rw [ro_22_1, st_24]
    refine ⟨y1, by omega, ?_⟩
    rw [atV_q, rdI_q (hat _ _) rfl]
    have e54' : ∀ b, 54 ≤ b → uf (uf s1 17 1 0) 24 a 0 b = s b := fun b hb => by rw [uf, up_ne (by omega), uf, up_ne (by omega)]; exact f1.1 b (by omega) (by omega) (by omega) (by omega)
    have hrx1 : rTx (s 55) L (uf (uf s1 17 1 0) 24 a 0) := by
      unfold rTx
      rw [e54' 54 (by decide), e54' 55 (by decide)]
      exact hrx
    refine aft_i hc' (rMethod (d := D + 63) hrx1 y1 y2 hS (fun _ _ s2 f2 g2 g3 => ?_) (fun hn => absurd ⟨cS, c0⟩ hn))
    generalize hs' : up (mtS s2 a S.2.2.2.2.1.length S.2.2.2.1) 69 (zr (s2 69) (24 * a) 24) = s'
    have hsc : scE (eK a) s s' := by
      rw [← hs']
      exact scE_tr (scE_w (scE_tr (scE_G f1) scE_17)) (scE_tr (scE_uf (fun z => by unfold pers psA at z; omega)) (scE_tr (scE_w (scE_Q f2)) (scE_mt (by omega))))
    have lo : ∀ b, b ≤ 53 → s' b = s2 b := fun b hb => by
      rw [← hs']
      exact mt_53 (by omega) (by omega) (by omega)
    have lo2 : ∀ b, b ≤ 53 → b ≠ 17 → b ≠ 19 → b ≠ 20 → b ≠ 21 → b ≠ 24 → s' b = s b := fun b hb x2 x3 x4 x5 x6 => by
      rw [lo b hb, f2.1 b (by omega) (by omega) (by omega) (by omega) (by omega) (by omega) (by omega), uf, up_ne x6, uf, up_ne x2]
      exact f1.1 b x2 x3 x4 x5
    have rnew : rCode s' a (cdO S.2.2.2.2.1) := by
      refine rCode_k (s1 := uf s2 54 1 0) y1 (by omega) (by omega) ?_ ?_ ?_ ?_ g2 g3
      · rw [← hs']; rfl
      · rw [← hs']; rfl
      · rw [← hs']; rfl
      · rw [← hs']; exact ud_at
    have e13 : s' 54 13 = s 54 13 := by
      rw [← hs']
      show s2 54 13 = s 54 13
      rw [f2.2.1 13 (by decide) (by decide) (by decide) (by decide) (by decide) (by decide) (by decide), e54' 54 (by decide)]
    have e1610 : s' 16 10 = s 16 10 := by rw [lo2 16 (by decide) (by decide) (by decide) (by decide) (by decide) (by decide)]
    have q61 : s2 61 = s 61 := by rw [f2.1 61 (by decide) (by decide) (by decide) (by decide) (by decide) (by decide) (by decide), e54' 61 (by decide)]
    have q60 : s2 60 = s 60 := by rw [f2.1 60 (by decide) (by decide) (by decide) (by decide) (by decide) (by decide) (by decide), e54' 60 (by decide)]
    have q69 : s2 69 = s 69 := by rw [f2.1 69 (by decide) (by decide) (by decide) (by decide) (by decide) (by decide) (by decide), e54' 69 (by decide)]
    have e61 : s' 61 = ud (s 61) a 1 := by
      rw [← hs']
      show ud (s2 61) a 1 = _
      rw [q61]
    have e60 : s' 60 = ud (s 60) a (2 * (S.2.2.2.1 : Int)) := by
      rw [← hs']
      show ud (s2 60) a (2 * (S.2.2.2.1 : Int)) = _
      rw [q60]
    have e69 : s' 69 = zr (s 69) (24 * a) 24 := by
      rw [← hs', up_at, q69]
    have e24 : s' 24 = ud (s 24) a 0 := by
      rw [lo 24 (by decide), f2.1 24 (by decide) (by decide) (by decide) (by decide) (by decide) (by decide) (by decide)]
      show ud (s1 24) a 0 = _
      rw [f1.1 24 (by decide) (by decide) (by decide) (by decide)]
    have e67 : s' 67 = s 67 := funext (fun j => hsc 67 j (by unfold pers psA; omega) (by unfold eK eP; omega))
    have e68 : s' 68 = s 68 := funext (fun j => hsc 68 j (by unfold pers psA; omega) (by unfold eK eP; omega))
    have r23 : uq r 23 a (some h.2) 23 = ud (r 23) a (some h.2) := rfl
    have r26 : uq r 23 a (some h.2) 26 = r 26 := rfl
    have cE := CEnv_x a1 hxx a2
    have cL := jL_x a1 hxx a5
    have cR := jR_x a1 hxx a6
    have h8 := a6.2.1
    refine ⟨rfl, s', ud cs a (some (cdO S.2.2.2.2.1)), hk, ru, rfl, J_K (r := r) (r' := uq r 23 a (some h.2)) (cs := cs) (ru := ru) hsc hxx nH rfl ⟨fun k k0 k1 => ?_, fun i i0 i1 => ?_⟩ ⟨fun k k0 k1 => ?_, fun i i0 i1 => ?_⟩ (jT_0 ?_ ?_) (fun k k0 k1 => ?_) ⟨by rw [e1610, e13]; exact a6.1, by rw [e13]; exact a6.2.1, fun i i0 i1 => ?_⟩ ⟨metR_0 e24 e69 a8.1, ?_, ?_⟩ hJ⟩
    · rw [r23]
      by_cases ck : k = a
      · subst ck
        rw [ud_at, ud_at]
        refine ⟨fun z => (by cases z), fun c hcc => ?_⟩
        have := Option.some.inj hcc
        subst this
        exact ⟨h.2, _, rfl, hcode, wf⟩
      · rw [ud_ne ck, ud_ne ck]
        exact cE.1 k k0 k1
    · rw [r26]
      exact cE.2 i i0 i1
    · rw [e61]
      by_cases ck : k = a
      · subst ck
        rw [ud_at, ud_at]
        refine ⟨fun z => (by cases z), fun c hcc => ?_⟩
        have := Option.some.inj hcc
        subst this
        exact ⟨rfl, rnew, wf⟩
      · rw [ud_ne ck, ud_ne ck]
        refine ⟨(a3.1 k k0 k1).1, fun c hcc => ?_⟩
        obtain ⟨q1, q2, q3⟩ := (a3.1 k k0 k1).2 c hcc
        exact ⟨q1, rC_K hsc k0 (by omega) ck q3.1 q2, q3⟩
    · rw [e67, e68]
      exact a3.2 i i0 i1
    · rw [lo 17 (by decide), f2.1 17 (by decide) (by decide) (by decide) (by decide) (by decide) (by decide) (by decide)]; rfl
    · rw [← hs']; rfl
    · rw [e60, r23]
      by_cases ck : k = a
      · subst ck
        rw [ud_at, ud_at, ud_at]
        refine ⟨fun z => (by cases z), fun c hcc => ?_, by omega, by omega⟩
        have := Option.some.inj hcc
        subst this
        exact ⟨h.2, rfl, hcode⟩
      · rw [ud_ne ck, ud_ne ck, ud_ne ck]
        exact cL k k0 k1
    · rw [e13] at i1
      obtain ⟨q1, q2, b, lv', q3, q4⟩ := cR.2.2 i i0 i1
      exact ⟨q1, rC_K hsc (by omega) (by omega) (by omega) q1.1.1 q2, b, lv', q3, q4⟩
    · rw [lo2 22 (by decide) (by decide) (by decide) (by decide) (by decide) (by decide)]
      exact a8.2.1
    · rw [← hs']
      show s2 54 29 = 0
      rw [f2.2.1 29 (by decide) (by decide) (by decide) (by decide) (by decide) (by decide) (by decide), e54' 54 (by decide)]
      exact a8.2.2
end SM2
