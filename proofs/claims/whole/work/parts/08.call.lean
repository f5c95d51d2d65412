/-! contracts and calls -/
theorem ex_moved {s U : State} (h : ∀ w ∈ lw_ex, va_Nw w s) (hW : s.WarmedH U.vm) : ∀ w ∈ lw_ex, va_Nw w U := by
  intro w hw
  have hz := h w hw
  have hk : (∃ a i x b, w = Cond.methodLinkNest a i x b) ∨ (∃ C T, w = Cond.castable C T) ∨ (∃ C, w = Cond.arrayOver (.object C)) := by
    revert w
    simp [lw_ex]
  rcases hk with ⟨a, i, x, b, rfl⟩ | ⟨C, T, rfl⟩ | ⟨C, rfl⟩
  · exact va_Nw.warmM hW hz
  · exact va_Nw.warmC hW hz
  · exact va_AO.moved hW.alike hz
theorem con_moved {G : az_G} {s U : State} {H : Heap} (h : az_con G s H) (hW : s.WarmedH U.vm) : az_con G U H :=
  ⟨fun xs hx => ⟨(h.1 xs hx).1, (h.1 xs hx).2.1.moved hW.alike, (h.1 xs hx).2.2⟩, ex_moved h.2.1 hW, str_moved h.2.2 hW⟩
theorem rel_moved {G : az_G} {s U : State} {h : az_H} {H : Heap} {locs : List Loc} (hR : az_Rel G s h H locs) (hW : s.WarmedH U.vm) (hU : U.heap = H) : az_Rel G U h U.heap [] := by
  subst hU
  obtain ⟨⟨r1, r2, rP, rg, rr, rc, rd⟩, r3, rK, rS, rt⟩ := hR
  exact ⟨⟨r1, r2, rP, rg, rr, rc, rd⟩, Nat.le_trans r3 rS.1, rK.moved hW.alike, va_S.rf, con_moved rt hW⟩
/-! the locals at a method's entry -/
def az_e0 : List az_V → List (Option az_V)
  | [] => []
  | .inl x :: t => some (.inl x) :: az_e0 t
  | .inr (.inl x) :: t => some (.inr (.inl x)) :: none :: az_e0 t
  | .inr (.inr r) :: t => some (.inr (.inr r)) :: az_e0 t
def az_en (n : Nat) (as : List az_V) : List (Option az_V) := az_e0 as ++ List.replicate (n - (az_e0 as).length) none
theorem ll_e0 {G : az_G} : ∀ (as : List az_V) (i : Nat), az_ll G i (az_e0 as) = lv_args i (as.map (az_cv G))
  | [], i => rfl
  | .inl x :: t, i => by
    show (i, _) :: az_ll G (i + 1) (az_e0 t) = (i, _) :: lv_args _ _
    rw [ll_e0 t (i + 1)]
    rfl
  | .inr (.inl x) :: t, i => by
    show (i, _) :: az_ll G (i + 2) (az_e0 t) = (i, _) :: lv_args _ _
    rw [ll_e0 t (i + 2)]
    rfl
  | .inr (.inr r) :: t, i => by
    show (i, _) :: az_ll G (i + 1) (az_e0 t) = (i, _) :: lv_args _ _
    rw [ll_e0 t (i + 1)]
    cases r <;> rfl
theorem ll_nil {G : az_G} : ∀ (k i : Nat), az_ll G i (List.replicate k none) = []
  | 0, _ => rfl
  | k + 1, i => by
    rw [List.replicate_succ]
    exact ll_nil k (i + 1)
theorem ll_app {G : az_G} : ∀ (a b : List (Option az_V)) (i : Nat), az_ll G i (a ++ b) = az_ll G i a ++ az_ll G (i + a.length) b
  | [], b, i => by simp [az_ll]
  | none :: t, b, i => by
    show az_ll G (i + 1) (t ++ b) = az_ll G (i + 1) t ++ _
    rw [ll_app t b (i + 1), List.length_cons, show i + 1 + t.length = i + (t.length + 1) by omega]
  | some v :: t, b, i => by
    show _ :: az_ll G (i + 1) (t ++ b) = (_ :: az_ll G (i + 1) t) ++ _
    rw [ll_app t b (i + 1), List.length_cons, show i + 1 + t.length = i + (t.length + 1) by omega]
    rfl
theorem ll_en {G : az_G} (n : Nat) (as : List az_V) : az_ll G 0 (az_en n as) = lv_args 0 (as.map (az_cv G)) := by
  unfold az_en
  rw [ll_app, ll_nil, List.append_nil, ll_e0]
theorem sl_len {G : az_G} : ∀ as : List az_V, (lg_sl (as.map (az_cv G))).length = (az_e0 as).length
  | [] => rfl
  | .inl x :: t => by
    have h := sl_len (G := G) t
    simp only [lg_sl, List.map_cons, List.flatMap_cons, List.length_append] at h ⊢
    rw [h]
    simp [az_e0, az_cv, Value.category]
    omega
  | .inr (.inl x) :: t => by
    have h := sl_len (G := G) t
    simp only [lg_sl, List.map_cons, List.flatMap_cons, List.length_append] at h ⊢
    rw [h]
    simp [az_e0, az_cv, Value.category]
    omega
  | .inr (.inr r) :: t => by
    have h := sl_len (G := G) t
    simp only [lg_sl, List.map_cons, List.flatMap_cons, List.length_append] at h ⊢
    rw [h]
    cases r <;> simp [az_e0, az_cv, Value.category, va_rf] <;> omega
theorem e0_ok : ∀ {as : List az_V}, az_okS as → az_okL (az_e0 as)
  | [], _, v, hv => by cases hv
  | .inl x :: t, hs, v, hv => by
    rcases List.mem_cons.mp hv with h | h
    · cases h; exact okS_h hs
    · exact e0_ok (okS_t hs) v h
  | .inr (.inl x) :: t, hs, v, hv => by
    rcases List.mem_cons.mp hv with h | h
    · cases h; exact okS_h hs
    · rcases List.mem_cons.mp h with h | h
      · cases h
      · exact e0_ok (okS_t hs) v h
  | .inr (.inr r) :: t, hs, v, hv => by
    rcases List.mem_cons.mp hv with h | h
    · cases h; exact okS_h hs
    · exact e0_ok (okS_t hs) v h
theorem en_ok {n : Nat} {as : List az_V} (hs : az_okS as) : az_okL (az_en n as) := fun v hv => by
  rcases List.mem_append.mp hv with h | h
  · exact e0_ok hs v h
  · cases (List.mem_replicate.mp h).2
/-! a method's contract -/
def lw_g : List Cond := lw_tbl.filter goodWord
def az_wl (M : az_M) : List Cond := Cond.code M.1 M.2.1 M.2.2.1 M.2.2.2 :: lw_g
def cz (G : az_G) (M : az_M) (d mc ms : Nat) (as : List az_V) (h : az_H) (Q : Option az_V → az_H → Prop) : Prop :=
  Met G.1 M.1 (az_wl M) { frames := d, cells := mc, slots := ms, locals := 64 * d } (fun a U => a = (as.map (az_cv G)).toArray ∧ az_okS as ∧ az_Rel G U h U.heap [])
    (fun _ st o t => ∃ (v : Option az_V) (h' : az_H), o = .returned (v.map (az_cv G)) ∧ Q v h' ∧ (∀ x, v = some x → az_ok x) ∧ az_heap G h' t.heap ∧ va_F (az_A G) st t) mc ms (az_A G)
section CZ
variable {G : az_G} {M : az_M} {d mc ms pc : Nat} {ls : List (Option az_V)} {st : List az_V} {h : az_H} {Q : Option az_V → az_H → Prop}
theorem cz_of {as : List az_V} (hM : plainFor M.1 = true) (hn : (az_e0 as).length ≤ M.2.2.1) (hl : az_en M.2.2.1 as = ls) (he : ez G M d mc ms 0 ls [] h Q) : cz G M d mc ms as h Q := by
  subst hl
  refine va_MetF (cc := M.2.1) (maxL := M.2.2.1) (ret := M.2.2.2) hM rfl ?_
  intro p e s m args below meth c s₁ B hml hv
  obtain ⟨rfl, hok, hR⟩ := hv
  have hts := atoms_spec (ws := az_wl M) B.pre
  have C : az_Ctx M d p s m (as.map (az_cv G)).toArray meth c (headSpec (az_wl M) { frames := d, cells := mc, slots := ms, locals := 64 * d }).room :=
    ⟨B.exec, B.bytes, hml, B.returns, findClass_of_methodNamed B.named, fun w hw hg => hts w (List.mem_cons_of_mem _ (List.mem_filter.mpr ⟨hw, hg⟩)), B.notSynchronized, fun h0 => (name_of_methodNamed B.named B.method).1.trans h0, Nat.le_refl _, Nat.le_refl _⟩
  have hl := lv_entry (as.map (az_cv G)) (n := M.2.2.1) (by rw [sl_len]; exact hn)
  rw [lg_entry_eq]
  rw [← ll_en (G := G) M.2.2.1 as] at hl
  refine he p e _ s m _ below meth c s.heap [] 0 0 _ _ C hR (en_ok hok) (fun _ h => by cases h) hl (by show 0 + mc ≤ mc; omega) (by show 0 + ms ≤ ms; omega) ?_
  intro pc' LS' v h' H' locs' hR' hok' hrt hq hdg
  have hlocks := B.notSynchronized
  rw [Nat.zero_add, Nat.zero_add]
  have hfr : ∀ q ∈ locs', az_A G q.base := hR'.2.2.2.1.2.2
  have hend : ∀ t : State, t.heap = H' → s.WarmedH t.vm → ∃ (v1 : Option az_V) (h1 : az_H), Outcome.returned (v.map (az_cv G)) = .returned (v1.map (az_cv G)) ∧ Q v1 h1 ∧ (∀ x, v1 = some x → az_ok x) ∧ az_heap G h1 t.heap ∧ va_F (az_A G) s t :=
    fun t ht _ => ⟨v, h', rfl, hq, hok', by rw [ht]; exact hR'.1, hR'.2.2.2.1.F ht⟩
  have hret := B.returns
  cases hv : v with
  | none =>
    subst hv
    cases hm : M.2.2.2 with
    | some t => rw [hm] at hrt; exact absurd hrt id
    | none => exact W.vret B.exec B.bytes (hret.trans hm) hend hfr hdg
  | some x =>
    subst hv
    cases hm : M.2.2.2 with
    | none => rw [hm] at hrt; exact absurd hrt id
    | some t =>
      rw [hm] at hrt
      have hfit := fit_of (G := G) (show az_fit t x from hrt)
      rcases x with x | x | r
      · exact W.zret B.exec B.bytes (hret.trans hm) hfit.1 hend hfr hdg
      · have ht : t = .long := by
          cases t <;> first | rfl | exact absurd hrt id
        subst ht
        exact W.lret B.exec B.bytes (hret.trans hm) hend hfr hdg
      · have ht : (∃ n, t = .object n) ∨ ∃ u, t = .array u := by
          cases t with
          | object n => exact Or.inl ⟨n, rfl⟩
          | array u => exact Or.inr ⟨u, rfl⟩
          | _ => exact absurd hrt id
        have hvr : az_cv G (vr r) = .null ∨ ∃ a, az_cv G (vr r) = .ref a := by
          cases r with
          | none => exact Or.inl rfl
          | some a => exact Or.inr ⟨_, rfl⟩
        exact W.aret (v := az_cv G (vr r)) B.exec B.bytes (hret.trans hm) ht hvr hend hfr hdg
theorem cz_mono {as : List az_V} {Q' : Option az_V → az_H → Prop} (hq : ∀ v h', Q v h' → Q' v h') (k : cz G M d mc ms as h Q) : cz G M d mc ms as h Q' := by
  unfold cz Met at k ⊢
  refine MetFree.mono k (fun _ _ h => h) (fun _ _ _ _ _ h => h) ?_
  rintro a s o t - ⟨⟨v, h', h1, h2, h3⟩, h4⟩
  exact ⟨⟨v, h', h1, hq v h' h2, h3⟩, h4⟩
theorem good_wl {M' : az_M} (hc : Cond.code M'.1 M'.2.1 M'.2.2.1 M'.2.2.2 ∈ lw_tbl) : GoodIn lw_g (az_wl M') := by
  intro w hw
  have hg : w ∈ lw_g := by
    rcases List.mem_cons.mp hw with rfl | h
    · exact List.mem_filter.mpr ⟨hc, rfl⟩
    · exact h
  exact ⟨hg, good_of_word (List.mem_filter.mp hg).2⟩
/-- in class own the entry index calls M', which takes n arguments: as a method of an object, of none, as a constructor -/
def az_cB (own : String) (index : Nat) (M' : az_M) (n : Nat) : Prop :=
  Cond.methodLink own index M'.1 ∈ lw_tbl ∧ Cond.initialized M'.1.cls ∈ lw_tbl ∧ Cond.code M'.1 M'.2.1 M'.2.2.1 M'.2.2.2 ∈ lw_tbl ∧
  (M'.1.cls ≠ "java/lang/invoke/MethodHandle" ∧ M'.1.cls ≠ "java/lang/invoke/VarHandle" ∧ (parseMethodDescriptor M'.1.desc).map (fun d => d.parameters.length) = some n) ∧ M'.2.2.1 ≤ 45
def az_cV (own : String) (index : Nat) (M' : az_M) (n : Nat) : Prop := az_cB own index M' n ∧ Cond.instanceMethod M'.1 ∈ lw_tbl ∧ Cond.selects M'.1.cls M'.1 M'.1 ∈ lw_tbl
def az_cS (own : String) (index : Nat) (M' : az_M) (n : Nat) : Prop := az_cB own index M' n ∧ Cond.static M'.1 ∈ lw_tbl
def az_cI (own : String) (index : Nat) (M' : az_M) (n : Nat) : Prop := az_cB own index M' n ∧ M'.1.name = "<init>" ∧ M'.2.2.2 = none ∧ Cond.instanceMethod M'.1 ∈ lw_tbl
def az_cN (own : String) (index : Nat) (M' : az_M) (n : Nat) (host : String) : Prop :=
  Cond.methodLinkNest own index M'.1 host ∈ lw_ex ∧ Cond.initialized M'.1.cls ∈ lw_tbl ∧ Cond.code M'.1 M'.2.1 M'.2.2.1 M'.2.2.2 ∈ lw_tbl ∧
  (M'.1.cls ≠ "java/lang/invoke/MethodHandle" ∧ M'.1.cls ≠ "java/lang/invoke/VarHandle" ∧ (parseMethodDescriptor M'.1.desc).map (fun d => d.parameters.length) = some n) ∧ M'.2.2.1 ≤ 45 ∧ M'.1.name = "<init>" ∧ M'.2.2.2 = none ∧ Cond.instanceMethod M'.1 ∈ lw_tbl
def az_wd : List az_V → Nat
  | [] => 0
  | .inr (.inl _) :: t => 2 + az_wd t
  | .inl _ :: t => 1 + az_wd t
  | .inr (.inr _) :: t => 1 + az_wd t
theorem wd_of {G : az_G} : ∀ st : List az_V, ((st.map (az_cv G)).map fun v => v.category).sum = az_wd st
  | [] => rfl
  | .inl x :: t => by
    rw [List.map_cons, List.map_cons, List.sum_cons, wd_of t]
    rfl
  | .inr (.inl x) :: t => by
    rw [List.map_cons, List.map_cons, List.sum_cons, wd_of t]
    rfl
  | .inr (.inr r) :: t => by
    rw [List.map_cons, List.map_cons, List.sum_cons, wd_of t]
    cases r <;> rfl
/-- behind a call -/
theorem rel_back {s st₀ t : State} {h' : az_H} {H : Heap} {locs L : List Loc} (hR : az_Rel G s h H locs) (h0 : st₀.heap = H) (hh : az_heap G h' t.heap) (hF : va_F (az_A G) st₀ t) (hL : ∀ q ∈ L, az_A G q.base) : az_Rel G s h' t.heap (locs ++ L) := by
  obtain ⟨-, r3, rK, rS, rt⟩ := hR
  rw [← h0] at rS rt
  have hS1 : va_S (az_A G) s.heap t.heap (locs ++ L) := by
    refine ⟨Nat.le_trans rS.1 hF.1, fun q q1 q2 => ?_, fun q hq => ?_⟩
    · rw [hF.2 q (Nat.lt_of_lt_of_le q1 rS.1) q2]
      exact rS.2.1 q q1 q2
    · rcases List.mem_append.mp hq with h | h
      · exact rS.2.2 q h
      · exact hL q h
  exact ⟨hh, r3, rK, hS1, con_kept rt (below_b r3 rS hS1)⟩
theorem rz_run {M' : az_M} {mc' ms' : Nat} {as stk : List az_V} {Q' : Option az_V → az_H → Prop}
    (hrun : ∀ (p : Program) (e : Env) (R : Room) (s : State) (m : MethodId) (args : Array Value) (below : List Frame) (meth : Method) (c : Code) (H : Heap) (locs : List Loc) (cells slots : Nat) (LS : Array Slot), az_Ctx M (d + 1) p s m args meth c R → az_Rel G s h H locs → az_okS stk → lv_has LS M.2.2.1 (az_ll G 0 ls) → cells + mc' ≤ R.cells → slots + ms' ≤ R.slots →
      va_Run p G.1 e R s m args below meth c H locs cells slots mc' ms' (F0 m pc LS (stk.map (az_cv G))) (st.map (az_cv G)) (fun st o t => ∃ (v : Option az_V) (h' : az_H), o = .returned (v.map (az_cv G)) ∧ Q' v h' ∧ (∀ x, v = some x → az_ok x) ∧ az_heap G h' t.heap ∧ va_F (az_A G) st t) (az_A G))
    (hst : az_okS stk → az_okS st) (kk : ∀ v h', Q' v h' → ez G M (d + 1) mc ms (pc + 3) ls (v.toList ++ st) h' Q) : ez G M (d + 1) (mc' + mc) (ms' + ms) pc ls stk h Q := by
  intro p e R s m args below meth c H locs cells slots LS Z C hR hl hs hL h1 h2 hk
  intro T hT X
  obtain ⟨v, st₀, t, T', L, h0, X', hL', e1, e2, ⟨v', h', hv, hq, hok, hh, hF⟩, go⟩ := hrun p e R s m args below meth c H locs cells slots LS C hR hs hL (by omega) (by omega) T hT X
  have hv : v = v'.map (az_cv G) := Outcome.returned.inj hv
  subst hv
  have hR' := rel_back hR h0 hh hF hL'
  have hos : az_okS (v'.toList ++ st) := fun x hx => by
    rcases List.mem_append.mp hx with h | h
    · exact hok x (by cases v' with
        | none => cases h
        | some y => simp at h; rw [h])
    · exact hst hs x h
  have kk' := kk v' h' hq p e R s m args below meth c t.heap (locs ++ L) (cells + mc') (slots + ms') LS Z C hR' hl hos hL (by omega) (by omega) (by rw [show cells + mc' + mc = cells + (mc' + mc) by omega, show slots + ms' + ms = slots + (ms' + ms) by omega]; exact hk)
  obtain ⟨t2, a1, b1⟩ := kk' T' e1 X'
  refine ⟨t2, go t2 ?_, b1⟩
  have e3 : (v'.toList ++ st).map (az_cv G) = (v'.map (az_cv G)).toList ++ st.map (az_cv G) := by
    rw [List.map_append]
    cases v' <;> rfl
  rw [e3] at a1
  exact a1
theorem blind {as : List az_V} : FrameBlind (fun a U => a = (as.map (az_cv G)).toArray ∧ az_okS as ∧ az_Rel G U h U.heap []) := fun a U g mk q => ⟨q.1, q.2.1, rel_moved (U := U.calling g mk a) q.2.2 (State.WarmedH.refl U) rfl⟩
theorem okS_app {a b : List az_V} (hs : az_okS (a ++ b)) : az_okS a ∧ az_okS b := ⟨fun v hv => hs v (List.mem_append_left _ hv), fun v hv => hs v (List.mem_append_right _ hv)⟩
theorem okS_rev {a : List az_V} (hs : az_okS a.reverse) : az_okS a := fun v hv => hs v (List.mem_reverse.mpr hv)
theorem cb_of {M' : az_M} {index n mc' ms' : Nat} {p : Program} {R : Room} {s : State} {m : MethodId} {args : Array Value} {meth : Method} {c : Code} (C : az_Ctx M (d + 1) p s m args meth c R) (hc : az_cB M.1.cls index M' n) : CallB R s args M.1.cls index M'.1 M'.2.1 M'.2.2.1 M'.2.2.2 (az_wl M') { frames := d, cells := mc', slots := ms', locals := 64 * d } mc' ms' n := by
  have h9 := C.2.2.2.2.2.2.2.2
  exact callB_of n (Ts := lw_g) (fun w hw => C.2.2.2.2.2.1 w (List.mem_filter.mp hw).1 (List.mem_filter.mp hw).2) (good_wl hc.2.2.1) rfl rfl rfl (C.2.2.2.2.2.1 _ hc.2.1 rfl) (C.2.2.2.2.2.1 _ hc.1 rfl) hc.2.2.2.1 ⟨h9.1, by
    have h5 := hc.2.2.2.2
    have h6 := h9.2
    show 8 + (M'.2.2.1 + 11) + 64 * d ≤ R.locals
    omega⟩
theorem rz_callV {M' : az_M} {index n mc' ms' b ci : Nat} {fs As stk : List az_V} {Q' : Option az_V → az_H → Prop} (hd : decode M.2.1 pc = .ok (.invokevirtual index, 3)) (hc : az_cV M.1.cls index M' n) (hn : As.length = n) (hb : h.1 b = cO ci fs) (hcl : ∃ T N, classes[ci]? = some (M'.1.cls, T, N)) (hst : stk = As.reverse ++ vo b :: st) (hw : az_wd st ≤ 8)
    (hz : cz G M' d mc' ms' (vo b :: As) h Q') (kk : ∀ v h', Q' v h' → ez G M (d + 1) mc ms (pc + 3) ls (v.toList ++ st) h' Q) : ez G M (d + 1) (mc' + mc) (ms' + ms) pc ls stk h Q := by
  subst hst
  refine rz_run (M' := M') (as := vo b :: As) (Q' := Q') (fun p e R s m args below meth c H locs cells slots LS C hR hs hL h1 h2 => ?_) (fun hs => okS_t (okS_app hs).2) kk
  obtain ⟨T, N, hcl⟩ := hcl
  have hat := cell_at hR (a := b) (by rw [hb]; exact ⟨_, hcl⟩)
  rw [hb] at hat
  obtain ⟨r', hr', cellB, q1, q2, q3, -⟩ := hat
  have hKc := ((rel_K hR).1 ci _ hcl).2.1
  exact va_runV (C := M'.1.cls) (b := az_ad G b) (As := As.map (az_cv G)) (rest := st.map (az_cv G)) (Ts := lw_g) ⟨C.1, C.2.1, C.2.2.1, C.2.2.2.2.1, fun w hw => C.2.2.2.2.2.1 w (List.mem_filter.mp hw).1 (List.mem_filter.mp hw).2⟩ hz ⟨cb_of C hc.1, C.2.2.2.2.2.1 _ hc.2.1 rfl, C.2.2.2.2.2.1 _ hc.2.2 rfl⟩
    ⟨blind, ⟨cellB, q1, by rw [q3]; rfl, by rw [q2]; exact hKc⟩, fun U hU hW => ⟨rfl, okS_c (v := vo b) trivial (okS_rev (okS_app hs).1), rel_moved hR hW hU⟩⟩ rfl (by rw [List.length_map]; exact hn) hL.1 (by simp [List.map_append, List.map_reverse]; rfl) (by show 2 * 0 + _ ≤ 8; rw [wd_of]; omega) hd ⟨h1, h2⟩
theorem rz_callS {M' : az_M} {index n mc' ms' : Nat} {As stk : List az_V} {Q' : Option az_V → az_H → Prop} (hd : decode M.2.1 pc = .ok (.invokestatic index, 3)) (hc : az_cS M.1.cls index M' n) (hn : As.length = n) (hst : stk = As.reverse ++ st) (hw : az_wd st ≤ 8)
    (hz : cz G M' d mc' ms' As h Q') (kk : ∀ v h', Q' v h' → ez G M (d + 1) mc ms (pc + 3) ls (v.toList ++ st) h' Q) : ez G M (d + 1) (mc' + mc) (ms' + ms) pc ls stk h Q := by
  subst hst
  refine rz_run (M' := M') (as := As) (Q' := Q') (fun p e R s m args below meth c H locs cells slots LS C hR hs hL h1 h2 => ?_) (fun hs => (okS_app hs).2) kk
  exact va_runS (As := As.map (az_cv G)) (rest := st.map (az_cv G)) (Ts := lw_g) ⟨C.1, C.2.1, C.2.2.1, C.2.2.2.2.1, fun w hw => C.2.2.2.2.2.1 w (List.mem_filter.mp hw).1 (List.mem_filter.mp hw).2⟩ hz ⟨cb_of C hc.1, C.2.2.2.2.2.1 _ hc.2 rfl⟩
    ⟨blind, fun U hU hW => ⟨rfl, okS_rev (okS_app hs).1, rel_moved hR hW hU⟩⟩ rfl (by rw [List.length_map]; exact hn) hL.1 (by simp [List.map_append, List.map_reverse]) (by show 2 * 0 + _ ≤ 8; rw [wd_of]; omega) hd ⟨h1, h2⟩
theorem rz_callI {M' : az_M} {index n mc' ms' b : Nat} {As stk : List az_V} {Q' : Option az_V → az_H → Prop} (hd : decode M.2.1 pc = .ok (.invokespecial index, 3)) (hc : az_cI M.1.cls index M' n) (hn : As.length = n) (hst : stk = As.reverse ++ vo b :: st) (hw : az_wd st ≤ 8)
    (hz : cz G M' d mc' ms' (vo b :: As) h Q') (kk : ∀ v h', Q' v h' → ez G M (d + 1) mc ms (pc + 3) ls (v.toList ++ st) h' Q) : ez G M (d + 1) (mc' + mc) (ms' + ms) pc ls stk h Q := by
  subst hst
  refine rz_run (M' := M') (as := vo b :: As) (Q' := Q') (fun p e R s m args below meth c H locs cells slots LS C hR hs hL h1 h2 => ?_) (fun hs => okS_t (okS_app hs).2) kk
  have hcb := cb_of (mc' := mc') (ms' := ms') C hc.1
  rw [hc.2.2.1] at hcb
  exact va_runI (b := az_ad G b) (As := As.map (az_cv G)) (rest := st.map (az_cv G)) (Ts := lw_g) ⟨C.1, C.2.1, C.2.2.1, C.2.2.2.2.1, fun w hw => C.2.2.2.2.2.1 w (List.mem_filter.mp hw).1 (List.mem_filter.mp hw).2⟩ hz ⟨hcb, hc.2.1, C.2.2.2.2.2.1 _ hc.2.2.2 rfl⟩
    ⟨blind, fun U hU hW => ⟨rfl, okS_c (v := vo b) trivial (okS_rev (okS_app hs).1), rel_moved hR hW hU⟩⟩ rfl (by rw [List.length_map]; exact hn) hL.1 (by simp [List.map_append, List.map_reverse]; rfl) (by show 2 * 0 + _ ≤ 8; rw [wd_of]; omega) hd ⟨h1, h2⟩
theorem rz_callN {M' : az_M} {host : String} {index n mc' ms' b : Nat} {As stk : List az_V} {Q' : Option az_V → az_H → Prop} (hd : decode M.2.1 pc = .ok (.invokespecial index, 3)) (hc : az_cN M.1.cls index M' n host) (hn : As.length = n) (hst : stk = As.reverse ++ vo b :: st) (hw : az_wd st ≤ 8)
    (hz : cz G M' d mc' ms' (vo b :: As) h Q') (kk : ∀ v h', Q' v h' → ez G M (d + 1) mc ms (pc + 3) ls (v.toList ++ st) h' Q) : ez G M (d + 1) (mc' + mc) (ms' + ms) pc ls stk h Q := by
  subst hst
  refine rz_run (M' := M') (as := vo b :: As) (Q' := Q') (fun p e R s m args below meth c H locs cells slots LS C hR hs hL h1 h2 => ?_) (fun hs => okS_t (okS_app hs).2) kk
  obtain ⟨c1, c2, c3, c4, c5, c6, c7, c8⟩ := hc
  have hts : ∀ w ∈ lw_g, w.before args s = true := fun w hw => C.2.2.2.2.2.1 w (List.mem_filter.mp hw).1 (List.mem_filter.mp hw).2
  have h9 := C.2.2.2.2.2.2.2.2
  have hcb := va_cnB (R := R) (mc := mc') (ms := ms') (rm := { frames := d, cells := mc', slots := ms', locals := 64 * d }) n hts (good_wl c3) rfl rfl rfl (hR.2.2.2.2.2.1 _ c1) (C.2.2.2.2.2.1 _ c2 rfl) c4 ⟨h9.1, by
    have h6 := h9.2
    show 8 + (M'.2.2.1 + 11) + 64 * d ≤ R.locals
    omega⟩
  rw [c7] at hcb
  exact va_runIN (b := az_ad G b) (As := As.map (az_cv G)) (rest := st.map (az_cv G)) (Ts := lw_g) ⟨C.1, C.2.1, C.2.2.1, C.2.2.2.2.1, hts⟩ hz ⟨hcb, c6, C.2.2.2.2.2.1 _ c8 rfl⟩
    ⟨blind, fun U hU hW => ⟨rfl, okS_c (v := vo b) trivial (okS_rev (okS_app hs).1), rel_moved hR hW hU⟩⟩ rfl (by rw [List.length_map]; exact hn) hL.1 (by simp [List.map_append, List.map_reverse]; rfl) (by show 2 * 0 + _ ≤ 8; rw [wd_of]; omega) hd ⟨h1, h2⟩
/-- Object's own constructor -/
theorem rz_obj {index b : Nat} (hd : decode M.2.1 pc = .ok (.invokespecial index, 3)) (hl : Cond.methodLink M.1.cls index Lib.objectInit ∈ lw_tbl) (hi : Cond.instanceMethod Lib.objectInit ∈ lw_tbl) (hc : Cond.code Lib.objectInit ⟨#[0xb1]⟩ 1 none ∈ lw_tbl) (hw : az_wd st ≤ 8)
    (kk : ez G M (d + 1) mc ms (pc + 3) ls st h Q) : ez G M (d + 1) mc ms pc ls (vo b :: st) h Q := by
  refine rz_go (st' := st) (fun _ hs => okS_t hs) (fun p e R s m args below meth c H locs cells slots LS Z C hl' hs hL k => ?_) kk
  have h9 := C.2.2.2.2.2.2.2.2
  exact W.objInit C.1 C.2.1 C.2.2.2.2.1 (C.2.2.2.2.2.1 _ hl rfl) (C.2.2.2.2.2.1 _ hi rfl) (C.2.2.2.2.2.1 _ hc rfl) (g := F0 m pc LS ((vo b :: st).map (az_cv G))) rfl (hL.1.trans C.2.2.1.symm) (a := az_ad G b) (rest := st.map (az_cv G)) rfl hd (by omega) (by show 2 * 0 + _ + 12 ≤ _; rw [wd_of]; omega) k
end CZ
