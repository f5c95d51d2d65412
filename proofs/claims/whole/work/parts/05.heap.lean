/-! THE CLEAN MACHINE'S HEAP -/
theorem A_lt {G : az_G} {H H1 : Heap} (hb : ∀ q, q < G.2.2.2.1 → H1[q]? = H[q]?) : ∀ a : Nat, a < H.size → ¬ az_A G a → H1[a]? = H[a]? := fun a _ h2 => hb a (Nat.not_le.mp h2)
theorem str_kept {G : az_G} {s : State} {H H1 : Heap} (h : az_str G s H) (hb : ∀ q, q < G.2.2.2.1 → H1[q]? = H[q]?) : az_str G s H1 := by
  have hk := A_lt (H := H) (H1 := H1) hb
  obtain ⟨h1, h2, h3, h4, h5, h6⟩ := h
  refine ⟨fun i hi => ?_, h2, h3, h4.kept hk, h5.imp (fun q => q.kept hk) (fun q => q.kept hk), h6⟩
  obtain ⟨a1, a2, a3, a4, a5, a6, a7⟩ := h1 i hi
  exact ⟨a1, a2, a3, a4.kept hk, a5.kept hk, a6.kept hk, a7.kept hk⟩
theorem str_moved {G : az_G} {s U : State} {H : Heap} (h : az_str G s H) (hW : s.WarmedH U.vm) : az_str G U H := by
  have ha := hW.alike
  obtain ⟨h1, h2, h3, h4, h5, kA, h6, h7⟩ := h
  obtain ⟨k', hk', he⟩ := ha.2.2 _ _ h6
  refine ⟨fun i hi => ?_, h2, h3, h4.moved ha, h5.imp (fun q => q.moved ha) (fun q => q.moved ha), k', hk', by rw [he]; exact h7⟩
  obtain ⟨a1, a2, a3, a4, a5, a6, a7⟩ := h1 i hi
  exact ⟨a1.warm hW, a2, a3, a4.moved ha, a5.moved ha, a6.moved ha, a7.moved ha⟩
theorem con_kept {G : az_G} {s : State} {H H1 : Heap} (h : az_con G s H) (hb : ∀ q, q < G.2.2.2.1 → H1[q]? = H[q]?) : az_con G s H1 :=
  ⟨fun xs hx => ⟨(h.1 xs hx).1, (h.1 xs hx).2.1.kept (hb _ (h.1 xs hx).1), (h.1 xs hx).2.2⟩, h.2.1, str_kept h.2.2 hb⟩
section HZ
variable {G : az_G} {h : az_H} {s : State} {H : Heap} {locs : List Loc}
theorem ws_get {i : Nat} (h1 : 16 ≤ i) (h2 : i < h.2) : (az_ws G h)[i - 16]? = some (G.2.2.2.1 + (i - 16), az_ce G (h.1 i)) := by
  unfold az_ws
  rw [List.getElem?_map, List.getElem?_range (by omega)]
  simp [Nat.sub_add_cancel h1]
theorem ws_at {k : Nat} {q : Nat × va_E} (hq : (az_ws G h)[k]? = some q) : k < h.2 - 16 ∧ q = (G.2.2.2.1 + k, az_ce G (h.1 (k + 16))) := by
  unfold az_ws at hq
  rw [List.getElem?_map] at hq
  by_cases hk : k < h.2 - 16
  · rw [List.getElem?_range hk] at hq
    simp at hq
    exact ⟨hk, hq.symm⟩
  · rw [List.getElem?_eq_none (by simp; omega)] at hq
    simp at hq
theorem ws_D : va_D (az_A G) (az_ws G h) := by
  refine ⟨fun i j p q hp hq e => ?_, fun k q hq => ?_⟩
  · rw [(ws_at hp).2, (ws_at hq).2] at e
    simp at e
    exact e
  · rw [(ws_at hq).2]
    exact Nat.le_add_right _ _
theorem ws_set {i : Nat} {c : az_C} (h1 : 16 ≤ i) (h2 : i < h.2) : az_ws G (hset h i c) = (az_ws G h).set (i - 16) (G.2.2.2.1 + (i - 16), az_ce G c) := by
  apply List.ext_getElem?
  intro k
  rw [List.getElem?_set]
  unfold az_ws
  rw [List.getElem?_map, List.getElem?_map, hset_sz]
  by_cases hk : k < h.2 - 16
  · rw [List.getElem?_range hk]
    by_cases e : i - 16 = k
    · subst e
      have e2 : i - 16 + 16 = i := Nat.sub_add_cancel h1
      simp [e2, hset, hk]
    · have e2 : k + 16 ≠ i := by omega
      simp [e, e2, hset]
  · have e : ¬ i - 16 = k := by omega
    rw [if_neg e, List.getElem?_eq_none (by simp; omega)]
    rfl
theorem ws_psh {c : az_C} (h1 : 16 ≤ h.2) : az_ws G (hpsh h c) = az_ws G h ++ [(G.2.2.2.1 + (h.2 - 16), az_ce G c)] := by
  unfold az_ws
  have e : (hpsh h c).2 - 16 = (h.2 - 16) + 1 := by show h.2 + 1 - 16 = _; omega
  rw [e, List.range_succ, List.map_append]
  congr 1
  · apply List.map_congr_left
    intro i hi
    have hi' := List.mem_range.mp hi
    have e2 : i + 16 ≠ h.2 := by omega
    simp [hpsh, e2]
  · have e2 : h.2 - 16 + 16 = h.2 := Nat.sub_add_cancel h1
    simp [hpsh, e2]
theorem ad_of {a : Nat} (h1 : 16 ≤ a) : az_ad G a = G.2.2.2.1 + (a - 16) := by
  unfold az_ad
  rw [if_neg (by omega)]
theorem cell_at {a : Nat} (hR : az_Rel G s h H locs) (hr : az_reg (h.1 a)) : va_at G.2.1 classes (az_ad G a, az_ce G (h.1 a)) H := by
  obtain ⟨⟨r1, r2, rP, rg, rr, rc, rd⟩, r3, rK, rS, rt⟩ := hR
  obtain ⟨g1, g2⟩ := rg a hr
  rw [ad_of g1]
  exact rP _ _ (ws_get g1 g2)
theorem below_b {H1 : Heap} {locs1 : List Loc} (h0 : G.2.2.2.1 ≤ s.heap.size) (hS : va_S (az_A G) s.heap H locs) (hS1 : va_S (az_A G) s.heap H1 locs1) : ∀ q, q < G.2.2.2.1 → H1[q]? = H[q]? := fun q hq => by
  have hn : ¬ az_A G q := Nat.not_le.mpr hq
  rw [hS1.2.1 q (Nat.lt_of_lt_of_le hq h0) hn, hS.2.1 q (Nat.lt_of_lt_of_le hq h0) hn]
/-- one cell of ours has changed -/
theorem rel_put {a k : Nat} {c : az_C} {H1 : Heap} (hR : az_Rel G s h H locs) (h0 : az_reg (h.1 a)) (hreg : az_reg c) (hok : az_okC c)
    (he : va_at G.2.1 classes (az_ad G a, az_ce G c) H1) (hz : H1.size = H.size) (ho : ∀ q, q ≠ az_ad G a → H1[q]? = H[q]?) : az_Rel G s (hset h a c) H1 (locs ++ [⟨az_ad G a, k⟩]) := by
  obtain ⟨⟨r1, r2, rP, rg, rr, rc, rd⟩, r3, rK, rS, rt⟩ := hR
  obtain ⟨g1, g2⟩ := rg a h0
  have ea := ad_of (G := G) g1
  have hS1 : va_S (az_A G) s.heap H1 (locs ++ [⟨az_ad G a, k⟩]) := rS.put hz ho (by rw [ea]; exact Nat.le_add_right _ _)
  have hb := below_b r3 rS hS1
  refine ⟨⟨r1, by rw [hz]; exact r2, ?_, fun i hi => ?_, fun i i1 i2 => ?_, fun i hi => ?_, fun i hi => ?_⟩, r3, rK, hS1, con_kept rt hb⟩
  · rw [ws_set g1 g2, ← ea]
    exact rP.set ws_D (by rw [ws_get g1 g2, ea]) he ho
  · by_cases e : i = a
    · subst e
      exact ⟨g1, g2⟩
    · rw [hset_ne e] at hi
      exact rg i hi
  · by_cases e : i = a
    · subst e
      rw [hset_at]
      exact ⟨hreg, hok⟩
    · rw [hset_ne e]
      exact rr i i1 i2
  · rw [hset_ne (by omega)]
    exact rc i hi
  · have hi : h.2 ≤ i := hi
    rw [hset_ne (by omega)]
    exact rd i hi
/-- one cell more -/
theorem rel_psh {c : az_C} {H1 : Heap} (hR : az_Rel G s h H locs) (hreg : az_reg c) (hok : az_okC c)
    (he : va_at G.2.1 classes (az_ad G h.2, az_ce G c) H1) (hz : H1.size = H.size + 1) (ho : ∀ q, q < H.size → H1[q]? = H[q]?) : az_Rel G s (hpsh h c) H1 locs := by
  obtain ⟨⟨r1, r2, rP, rg, rr, rc, rd⟩, r3, rK, rS, rt⟩ := hR
  have ea := ad_of (G := G) r1
  have hS1 : va_S (az_A G) s.heap H1 locs := ⟨Nat.le_trans rS.1 (by omega), fun q q1 q2 => (ho q (Nat.lt_of_lt_of_le q1 rS.1)).trans (rS.2.1 q q1 q2), rS.2.2⟩
  have hb := below_b r3 rS hS1
  refine ⟨⟨by show 16 ≤ h.2 + 1; omega, by show _ = _ + (h.2 + 1); omega, ?_, fun i hi => ?_, fun i i1 i2 => ?_, fun i hi => ?_, fun i hi => ?_⟩, r3, rK, hS1, con_kept rt hb⟩
  · rw [ws_psh r1, ← ea]
    refine (rP.kept (fun k q hq => ho _ ((rP k q hq).lt))).app (fun k q hq => ?_)
    have hk : k < 1 := (List.getElem?_eq_some_iff.mp hq).1
    rw [show k = 0 by omega] at hq
    cases hq
    exact he
  · by_cases e : i = h.2
    · subst e
      exact ⟨r1, Nat.lt_succ_self _⟩
    · have e2 : (hpsh h c).1 i = h.1 i := by simp [hpsh, e]
      rw [e2] at hi
      exact ⟨(rg i hi).1, Nat.lt_succ_of_lt (rg i hi).2⟩
  · by_cases e : i = h.2
    · subst e
      have e2 : (hpsh h c).1 h.2 = c := by simp [hpsh]
      rw [e2]
      exact ⟨hreg, hok⟩
    · have e2 : (hpsh h c).1 i = h.1 i := by simp [hpsh, e]
      rw [e2]
      exact rr i i1 (by have : i < h.2 + 1 := i2; omega)
  · have e : i ≠ h.2 := by omega
    have e2 : (hpsh h c).1 i = h.1 i := by simp [hpsh, e]
    rw [e2]
    exact rc i hi
  · have hi : h.2 + 1 ≤ i := hi
    have e : i ≠ h.2 := by omega
    have e2 : (hpsh h c).1 i = h.1 i := by simp [hpsh, e]
    rw [e2]
    exact rd i (by omega)
end HZ
/-! fields -/
def az_cls (ci : Nat) (C : String) (T : u_T) (N : Nat) (ty : Nat → FieldType) : Prop :=
  classes[ci]? = some (C, T, N) ∧ (∀ w ∈ u_ws C T N, w ∈ lw_tbl) ∧ (∀ k, k < N → parseFieldDescriptor (T k).2.2.1 = some (ty k)) ∧ ∀ a, a < N → ∀ b, b < N → a ≠ b → (T a).2.1 ≠ (T b).2.1
/-- in class own the entry index is field k of class ci, of type t -/
def az_fl (own : String) (index ci k : Nat) (t : FieldType) (fin : Bool) : Prop :=
  ∃ (C : String) (T : u_T) (N : Nat) (ty : Nat → FieldType), az_cls ci C T N ty ∧ k < N ∧ Cond.fieldLink own index (T k).1 (T k).2.1 (T k).2.2.1 ∈ lw_tbl ∧ ty k = t ∧ (T k).2.2.2 = fin ∧ (fin = true → (T k).1 = own)
theorem good_lay (C : String) (T : u_T) (k : Nat) : goodWord (u_lay C T k) = true := by
  unfold u_lay
  split <;> rfl
theorem good_ws {C : String} {T : u_T} {N : Nat} {w : Cond} (hw : w ∈ u_ws C T N) : goodWord w = true := by
  obtain ⟨k, -, rfl⟩ := List.mem_map.mp hw
  exact good_lay C T k
theorem fit_of {G : az_G} {t : FieldType} {v : az_V} (h : az_fit t v) : narrow t (az_cv G v) = az_cv G v ∧ fits t (az_cv G v) = true := by
  unfold az_fit at h
  split at h
  · exact ⟨rfl, rfl⟩
  · rcases h with rfl | rfl
    · exact ⟨rfl, rfl⟩
    · exact ⟨rfl, rfl⟩
  · rename_i x
    have hw : w8 x = x := by unfold w8; omega
    refine ⟨congrArg Value.int ((w8_of x).trans (by rw [hw])), ?_⟩
    show (decide (-128 ≤ Int32.ofInt x) && decide (Int32.ofInt x ≤ 127)) = true
    rw [Bool.and_eq_true, decide_eq_true_eq, decide_eq_true_eq, show (-128 : Int32) = Int32.ofInt (-128) from rfl, show (127 : Int32) = Int32.ofInt 127 from rfl, i32_le (by decide) ⟨by omega, by omega⟩, i32_le ⟨by omega, by omega⟩ (by decide)]
    omega
  · rename_i x
    have hw : x % 65536 = x := by omega
    refine ⟨congrArg Value.int ((i2c_of x).trans (by rw [hw])), ?_⟩
    show (decide (0 ≤ Int32.ofInt x) && decide (Int32.ofInt x ≤ 65535)) = true
    rw [Bool.and_eq_true, decide_eq_true_eq, decide_eq_true_eq, show (0 : Int32) = Int32.ofInt 0 from rfl, show (65535 : Int32) = Int32.ofInt 65535 from rfl, i32_le (by decide) ⟨by omega, by omega⟩, i32_le ⟨by omega, by omega⟩ (by decide)]
    omega
  · exact ⟨rfl, rfl⟩
  · rename_i r
    cases r <;> exact ⟨rfl, rfl⟩
  · rename_i r
    cases r <;> exact ⟨rfl, rfl⟩
  · exact absurd h id
section RH
variable {G : az_G} {M : az_M} {d mc ms pc : Nat} {ls : List (Option az_V)} {st : List az_V} {h : az_H} {Q : Option az_V → az_H → Prop}
theorem reg_fl {own : String} {index ci k : Nat} {t : FieldType} {fin : Bool} (hf : az_fl own index ci k t fin) : ∃ (r : vw_C), classes[ci]? = some r ∧ k < r.2.2 := by
  obtain ⟨C, T, N, ty, hc, hk, -⟩ := hf
  exact ⟨_, hc.1, hk⟩
theorem rz_getf {a index ci k : Nat} {t : FieldType} {fin : Bool} {fs : List az_V} {v : az_V} (hd : decode M.2.1 pc = .ok (.getfield index, 3)) (hf : az_fl M.1.cls index ci k t fin) (hg : h.1 a = cO ci fs) (hv : fs[k]? = some v)
    (kk : ez G M d mc ms (pc + 3) ls (v :: st) h Q) : ez G M d mc ms pc ls (vo a :: st) h Q := by
  intro p e R s m args below meth c H locs cells slots LS Z C hR hl hs hL h1 h2 hk
  obtain ⟨Cn, T, N, ty, ⟨hc, hin, hty, hnm⟩, hkN, hlink, ht, -⟩ := hf
  have hreg : az_reg (h.1 a) := by rw [hg]; exact ⟨_, hc⟩
  obtain ⟨g1, g2⟩ := (rel_g hR) a hreg
  have hok : az_ok v := by
    have h3 := ((rel_r hR) a g1 g2).2
    rw [hg] at h3
    exact h3.1 v (List.mem_of_getElem? hv)
  have he : (az_ws G h)[a - 16]? = some (az_ad G a, .inr (ci, fs.map (az_cv G))) := by
    rw [ws_get g1 g2, hg, ad_of g1]
    rfl
  refine va_get (Ts := u_ws Cn T N) C.1 C.2.1 (fun w hw => C.2.2.2.2.2.1 w (hin w hw) (good_ws hw)) (fun _ h => h) C.2.2.2.2.1 (rel_K hR) (rel_P hR) (a - 16) he hc k hkN (C.2.2.2.2.2.1 _ hlink rfl) (fun _ h => h) (v := az_cv G v) (by rw [List.getElem?_map, hv]; rfl) hd ?_
  exact kk p e R s m args below meth c H locs cells slots LS Z C hR hl (okS_c hok (okS_t hs)) hL h1 h2 hk
theorem ok_set {fs : List az_V} {k : Nat} {v : az_V} {ci : Nat} (h : az_okC (cO ci fs)) (hv : az_ok v) : az_okC (cO ci (fs.set k v)) := by
  refine ⟨fun u hu => ?_, ?_⟩
  · rcases List.mem_or_eq_of_mem_set hu with hu | rfl
    · exact h.1 u hu
    · exact hv
  · obtain ⟨r, h1, h2⟩ := h.2
    exact ⟨r, h1, by rw [List.length_set]; exact h2⟩
theorem rz_putf {a index ci k : Nat} {t : FieldType} {fin : Bool} {fs : List az_V} {v : az_V} (hd : decode M.2.1 pc = .ok (.putfield index, 3)) (hf : az_fl M.1.cls index ci k t fin) (hfin : fin = false ∨ M.1.name = "<init>") (hg : h.1 a = cO ci fs) (hv : az_fit t v)
    (kk : ez G M d mc ms (pc + 3) ls st (hset h a (cO ci (fs.set k v))) Q) : ez G M d mc ms pc ls (v :: vo a :: st) h Q := by
  intro p e R s m args below meth c H locs cells slots LS Z C hR hl hs hL h1 h2 hk
  obtain ⟨Cn, T, N, ty, ⟨hc, hin, hty, hnm⟩, hkN, hlink, ht, hfl, hown⟩ := hf
  have hreg : az_reg (h.1 a) := by rw [hg]; exact ⟨_, hc⟩
  obtain ⟨g1, g2⟩ := (rel_g hR) a hreg
  have hokc := ((rel_r hR) a g1 g2).2
  rw [hg] at hokc
  have hokn := ok_set (k := k) hokc (okS_h hs)
  have hlen : fs.length = N := by
    obtain ⟨r, hr1, hr2⟩ := hokc.2
    cases hr1.symm.trans hc
    exact hr2
  have hts : ∀ w ∈ u_ws Cn T N, w.before args s = true := fun w hw => C.2.2.2.2.2.1 w (hin w hw) (good_ws hw)
  have hK := (rel_K hR)
  have hap := va_apart (own := M.1.cls) hts (fun _ h => h) ty hty hnm hK hc
  have hat := cell_at hR hreg
  rw [hg] at hat
  obtain ⟨r, hr, cell, q1, q2, q3, q4⟩ := hat
  have hr' : r = (Cn, T, N) := Option.some.inj (hr.symm.trans hc)
  subst hr'
  obtain ⟨hS, hfc, kC, hkC, hkind⟩ := hK.1 ci _ hc
  obtain ⟨cf, kf, fi, f, hi, hsl⟩ := hS k hkN
  have hst := (u_facts hfc hkC (u_lays hts (fun _ h => h) hkN) hi).1
  have hlay := hts _ (u_in_lay hkN)
  unfold u_lay at hlay
  rw [hfl] at hlay
  have hft := fit_of (G := G) hv
  rw [← ht] at hft
  have fin' : ∀ H' : Heap, H'[az_ad G a]? = some (cell.setSlot f.slot (az_cv G v)) → H'.size = H.size → (∀ q, q ≠ az_ad G a → H'[q]? = H[q]?) → W p G.1 e R s m args below meth c H' (locs ++ [⟨az_ad G a, f.slot⟩]) cells slots Z (F0 m (pc + 3) LS (st.map (az_cv G))) := by
    intro H' e1 e2 e3
    have he : va_at G.2.1 classes (az_ad G a, az_ce G (cO ci (fs.set k v))) H' := by
      rw [hsl] at e1
      refine ⟨_, hc, t_OB.to (V := updV (vp_V (fs.map (az_cv G))) k (az_cv G v)) ⟨_, e1, q2, q3, t_set q4 hap hkN _⟩ (fun j _ => ?_)⟩
      rw [List.map_set]
      exact vp_updV_set (by rw [List.length_map]; omega) (az_cv G v) j
    exact kk p e R s m args below meth c H' _ cells slots LS Z C (rel_put hR hreg ⟨_, hc⟩ hokn he e2 e3) hl (okS_t (okS_t hs)) hL h1 h2 hk
  cases fin with
  | false =>
    rw [if_neg (by decide)] at hlay
    exact W.putK C.1 C.2.1 (f := f) ⟨C.2.2.2.2.1, C.2.2.2.2.2.1 _ hlink rfl, ⟨_, _, _, hi⟩, hst⟩ (by rw [q2]; exact u_store hfc hkC hkind hlay hi (hty k hkN) hft.1 hft.2) q1 q3 (by rw [hsl]; exact k2_hasslot (q4 k hkN)) rfl rfl hd fin'
  | true =>
    rw [if_pos rfl] at hlay
    have hcf : m.cls = cf := by
      obtain ⟨_, _, c', _, _, _, -, -, hf', -, -, -, hown2, -⟩ := Cond.laysFinal_spec hlay
      have e1 : c' = cf := by have := hi.symm.trans hf'; simp at this; exact this.1.symm
      rw [hown rfl] at hown2
      rw [← e1]; exact Option.some.inj (C.2.2.2.2.1.symm.trans hown2)
    have hin2 : meth.name = "<init>" := by
      rcases hfin with q | q
      · cases q
      · exact C.2.2.2.2.2.2.2.1 q
    exact W.putFinK C.1 C.2.1 C.2.2.2.2.1 (C.2.2.2.2.2.1 _ hlink rfl) hi hst hcf hin2 (by rw [q2]; exact u_fits hfc hkC hkind (Or.inr hlay) hi (hty k hkN) hft.1 hft.2) q1 q3 (by rw [hsl]; exact k2_hasslot (q4 k hkN)) rfl rfl hd fin'
/-! arrays -/
theorem reg_ty {G : az_G} {t : FieldType} (ht : t ∈ arrT) : ∃ t0 : Nat, (az_ty G)[t0]? = some (G.2.2.1 t, t) := by
  obtain ⟨t0, h0⟩ := List.getElem?_of_mem ht
  exact ⟨t0, by rw [List.getElem?_map, h0]; rfl⟩
theorem in_of {i : Int} {n : Nat} (hi : -2147483648 ≤ i ∧ i < 2147483648) (h0 : 0 ≤ i) (h1 : i < n) : vp_in (Int32.ofInt i) n := by
  rw [vp_in_iff, w32_toInt, w32_id hi.1 hi.2]
  exact ⟨h0, h1⟩
theorem rz_alen {a : Nat} {n : Int} (hd : decode M.2.1 pc = .ok (.arraylength, 1)) (hg : (∃ t xs, t ∈ arrT ∧ h.1 a = cA t xs ∧ (xs.length : Int) = n) ∨ ∃ t rs, t ∈ arrT ∧ h.1 a = cR t rs ∧ (rs.length : Int) = n) (hr : -2147483648 ≤ n ∧ n < 2147483648)
    (kk : ez G M d mc ms (pc + 1) ls (vi n :: st) h Q) : ez G M d mc ms pc ls (vo a :: st) h Q := by
  intro p e R s m args below meth c H locs cells slots LS Z C hR hl hs hL h1 h2 hk
  have kk' := kk p e R s m args below meth c H locs cells slots LS Z C hR hl (okS_c (v := vi n) hr (okS_t hs)) hL h1 h2 hk
  rcases hg with ⟨t, xs, ht, hg, hn⟩ | ⟨t, xs, ht, hg, hn⟩
  · obtain ⟨g1, g2⟩ := (rel_g hR) a (by rw [hg]; exact ht)
    obtain ⟨t0, ht0⟩ := reg_ty (G := G) ht
    refine va_alen C.1 C.2.1 (rel_K hR) (rel_P hR) (a - 16) t0 (by rw [ws_get g1 g2, hg, ad_of g1]; rfl) ht0 (v := Int32.ofInt n) (by rw [← hn]; rfl) hd kk'
  · obtain ⟨g1, g2⟩ := (rel_g hR) a (by rw [hg]; exact ht)
    obtain ⟨t0, ht0⟩ := reg_ty (G := G) ht
    refine va_alen C.1 C.2.1 (rel_K hR) (rel_P hR) (a - 16) t0 (by rw [ws_get g1 g2, hg, ad_of g1]; rfl) ht0 (v := Int32.ofInt n) (by rw [← hn]; rfl) hd kk'
end RH
