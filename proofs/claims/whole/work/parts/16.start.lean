/-! THE CLAIM OUT OF ONE WALK OF THE LAW'S BODY. Your part is whole_start (and what it stands on); all else here is the same for every law, but numbers. -/
def R_law : String := "InvariantSearchLaw"
def lw_P (b : Addr) (xs : List Int32) (args : Array Value) (s : State) : Prop := args = #[.ref b] ∧ s.IntsAt b xs ∧ xs.length ≤ 2560 ∧ (Jvm.Cond.and given_1 narrow_1).before args s = true
def lw_Q (_ : Array Value) (s : State) (o : Outcome) (t : State) : Prop := o = .returned (some (.int 1)) ∧ Framed s o t [] 600000 7302250
def lw_Z (below : List Frame) (a : Array Value) (s : State) : State → Prop := fun t => ∃ o, t.status = .running ∧ Ended t below o ∧ lw_Q a s o t
/-- the law's own end, with 1 on the stack, nothing written that was there before, its room as the claim has it -/
theorem lw_ret {p : Program} {l : Launch} {e : Env} {s : State} {m : MethodId} {below : List Frame} {meth : Method} {c : Code} {b : Nat} (hx : p.tables.exec = Jvm.exec) (hb : c.code = code) (hr : meth.sig.returnType = ret) (hlocks : meth.locks = false) {pc : Nat} {H : Heap} {ls : Array Slot} (hdg : decode code pc = .ok (.ireturn, 1)) : W p l e room_1 s m #[Value.ref b] below meth c H [] 600000 7302250 (lw_Z below #[Value.ref b] s) (F0 m pc ls [.int 1]) := by
  intro T hT X
  obtain ⟨fs, hret, hrun, hended, hW, hframe⟩ := X.leave (v := some (.int 1)) (hlocks := hlocks) (fun h => by rw [hr] at h; cases h)
  have hmeth' : T.vm.method? m = some meth := X.method'
  refine ⟨T.setFrames fs, ?_, .returned (some (.int 1)), hrun, hended, rfl, ⟨_, rfl⟩, hW, hframe⟩
  jvm_step X.here [X.here.top, hx, hb, hdg, hmeth', hr, ret, narrow_b1]
  (try refine ⟨rfl, ?_⟩); (try refine ⟨rfl, ?_⟩)
  first | (intro acts; rw [hret _ acts rfl rfl rfl]) | rw [hret _ _ rfl rfl rfl]
  exact Steps.refl _
/-- what holds at the law's entry: the machine, the code, the tables' words (any of lw_tbl by 'hts w (by decide +kernel)'), the script of L ints xs at the cell b, what the Statement gives of the start (any of its parts by flat_of_before) -/
def lw_At (p : Program) (s : State) (m : MethodId) (meth : Method) (c : Code) (b L : Nat) (xs : Nat → Int32) : Prop :=
  p.tables.exec = Jvm.exec ∧ c.code = code ∧ meth.sig.returnType = ret ∧ c.maxLocals = 4 ∧ s.vm.findClass R_law = some m.cls ∧ (∀ w ∈ lw_tbl, w.before #[Value.ref b] s = true) ∧ va_X b L xs s s.heap ∧ b < s.heap.size ∧ meth.locks = false ∧ (Jvm.Cond.and given_1 narrow_1).before #[Value.ref b] s = true

/-! the start: from the law's entry into the clean machine -/
theorem grd_ok {args : Array Value} {s : State} (hts : ∀ w ∈ lw_tbl, w.before args s = true) : ∃ (kA : Class) (c comp : ClassId), s.vm.findClass "[[I" = some c ∧ s.vm.findClass "[I" = some comp ∧ s.vm.classes[c]? = some kA ∧ kA.kind = .array comp (.array .int) := by
  have h := hts _ k_215
  unfold Cond.before at h
  simp only [Cond.holds, Cond.value, beq_iff_eq] at h
  cases hc : s.vm.findClass (FieldType.array .int).toString with
  | none => simp [hc] at h
  | some comp =>
    simp only [hc, Option.bind_some, Option.bind_eq_some_iff, Option.map_eq_some_iff] at h
    obtain ⟨c, hi, k, hk, hb⟩ := h
    obtain ⟨hlt, hp, -⟩ := Array.findIdx?_eq_some_iff_getElem.mp hi
    have hkk : s.vm.classes[c] = k := (Array.getElem?_eq_some_iff.mp hk).2
    rw [hkk] at hp
    cases hkind : k.kind with
    | array component ty =>
      rw [hkind] at hb hp
      simp at hb hp
      exact ⟨k, c, comp, hb.2, hc, hk, by rw [hkind, hp, hb.1]⟩
    | _ => rw [hkind] at hb; simp at hb
theorem arr_ok {args : Array Value} {s : State} (hts : ∀ w ∈ lw_tbl, w.before args s = true) : ∀ t ∈ arrT, ∃ cA : ClassId, ArrOfT s cA t ∧ va_RA s cA t := by
  have pr : ∀ t : FieldType, Cond.arrayClass t ∈ lw_tbl → (∀ C, t ≠ .object C) → ∃ cA : ClassId, ArrOfT s cA t ∧ va_RA s cA t := by
    intro t hw hn
    obtain ⟨c, k, comp, h1, h2, h3⟩ := Cond.arrayClass_spec (hts _ hw)
    refine ⟨c, fun n z => ⟨fun k h => (by cases h), k, h2, comp, h3⟩, ?_⟩
    cases t <;> first | exact h1 | exact absurd rfl (hn _)
  have ob : ∀ C : String, Cond.arrayOver (.object C) ∈ lw_tbl → ∃ cA : ClassId, ArrOfT s cA (.object C) ∧ va_RA s cA (.object C) := by
    intro C hw
    obtain ⟨comp, c, k, h1, -, h3, h4, h5⟩ := Cond.arrayOver_spec (hts _ hw)
    exact ⟨c, fun n z => ⟨fun k h => (by cases h), k, h3, comp, h4⟩, k, comp, h3, h4, h1, h5⟩
  have ar : ∀ u : FieldType, Cond.arrayOver (.array u) ∈ lw_tbl → ∃ cA : ClassId, ArrOfT s cA (.array u) ∧ va_RA s cA (.array u) := by
    intro u hw
    have h := hts _ hw
    unfold Cond.before at h
    simp only [Cond.holds, Cond.value, beq_iff_eq] at h
    cases hc : s.vm.findClass (FieldType.array u).toString with
    | none => simp [hc] at h
    | some comp =>
      simp only [hc, Option.bind_some, Option.bind_eq_some_iff, Option.map_eq_some_iff] at h
      obtain ⟨c, hi, k, hk, hb⟩ := h
      obtain ⟨hlt, hp, -⟩ := Array.findIdx?_eq_some_iff_getElem.mp hi
      have hkk : s.vm.classes[c] = k := (Array.getElem?_eq_some_iff.mp hk).2
      rw [hkk] at hp
      cases hkind : k.kind with
      | array component ty =>
        rw [hkind] at hb hp
        simp at hb hp
        exact ⟨c, fun n z => ⟨fun k h => (by cases h), k, hk, comp, by rw [hkind, hp, hb.1]⟩, hb.2⟩
      | _ => rw [hkind] at hb; simp at hb
  intro t ht
  simp only [arrT, List.mem_cons, List.not_mem_nil, or_false] at ht
  rcases ht with rfl | rfl | rfl | rfl | rfl | rfl | rfl
  · exact pr _ k_155 (fun _ h => by cases h)
  · exact pr _ k_126 (fun _ h => by cases h)
  · exact pr _ k_1238 (fun _ h => by cases h)
  · exact pr _ k_235 (fun _ h => by cases h)
  · exact ob _ k_163
  · exact ob _ k_165
  · exact ar _ k_215
theorem cls_ok {args : Array Value} {s : State} (hts : ∀ w ∈ lw_tbl, w.before args s = true) : ∀ c : Nat, ∃ (cC : ClassId) (iS : Nat → Nat), ∀ q : vw_C, classes[c]? = some q → u_Kn s q.1 q.2.1 q.2.2 cC iS
  | 0 => by
    obtain ⟨cC, iS, h⟩ := u_known (C := RX0) (T := TX0) (N := 4) (n := 4) hts in_X0 (hts _ k_192)
    exact ⟨cC, iS, fun q hq => by cases hq; exact h⟩
  | 1 => by
    obtain ⟨cC, iS, h⟩ := u_known (C := RX1) (T := TX1) (N := 5) (n := 5) hts in_X1 (hts _ k_632)
    exact ⟨cC, iS, fun q hq => by cases hq; exact h⟩
  | 2 => by
    obtain ⟨cC, iS, h⟩ := u_known (C := RX2) (T := TX2) (N := 4) (n := 4) hts in_X2 (hts _ k_288)
    exact ⟨cC, iS, fun q hq => by cases hq; exact h⟩
  | 3 => by
    obtain ⟨cC, iS, h⟩ := u_known (C := RX3) (T := TX3) (N := 6) (n := 6) hts in_X3 (hts _ k_243)
    exact ⟨cC, iS, fun q hq => by cases hq; exact h⟩
  | 4 => by
    obtain ⟨cC, iS, h⟩ := u_known (C := RX4) (T := TX4) (N := 6) (n := 6) hts in_X4 (hts _ k_186)
    exact ⟨cC, iS, fun q hq => by cases hq; exact h⟩
  | 5 => by
    obtain ⟨cC, iS, h⟩ := u_known (C := RX5) (T := TX5) (N := 7) (n := 7) hts in_X5 (hts _ k_128)
    exact ⟨cC, iS, fun q hq => by cases hq; exact h⟩
  | 6 => by
    obtain ⟨cC, iS, h⟩ := u_known (C := RX6) (T := TX6) (N := 4) (n := 4) hts in_X6 (hts _ k_294)
    exact ⟨cC, iS, fun q hq => by cases hq; exact h⟩
  | 7 => by
    obtain ⟨cC, iS, h⟩ := u_known (C := RX7) (T := TX7) (N := 6) (n := 6) hts in_X7 (hts _ k_237)
    exact ⟨cC, iS, fun q hq => by cases hq; exact h⟩
  | 8 => by
    obtain ⟨cC, iS, h⟩ := u_known (C := RX8) (T := TX8) (N := 6) (n := 6) hts in_X8 (hts _ k_102)
    exact ⟨cC, iS, fun q hq => by cases hq; exact h⟩
  | 9 => by
    obtain ⟨cC, iS, h⟩ := u_known (C := RX9) (T := TX9) (N := 6) (n := 6) hts in_X9 (hts _ k_157)
    exact ⟨cC, iS, fun q hq => by cases hq; exact h⟩
  | 10 => by
    obtain ⟨cC, iS, h⟩ := u_known (C := RX10) (T := TX10) (N := 12) (n := 12) hts in_X10 (hts _ k_94)
    exact ⟨cC, iS, fun q hq => by cases hq; exact h⟩
  | 11 => by
    obtain ⟨cC, iS, h⟩ := u_known (C := RX11) (T := TX11) (N := 59) (n := 59) hts in_X11 (hts _ k_1055)
    exact ⟨cC, iS, fun q hq => by cases hq; exact h⟩
  | c + 12 => ⟨0, fun _ => 0, fun q hq => by cases hq⟩
theorem ex_ok {args : Array Value} {s : State} (hts : ∀ w ∈ lw_tbl, w.before args s = true) : ∀ w ∈ lw_ex, va_Nw w s := by
  have h1 : ∀ w ∈ lw_ex, w ∈ lw_tbl := by decide +kernel
  intro w hw
  have hz := hts w (h1 w hw)
  have hk : (∃ a i x b, w = Cond.methodLinkNest a i x b) ∨ (∃ C T, w = Cond.castable C T) ∨ (∃ C, w = Cond.arrayOver (.object C)) := by
    clear hz
    revert w
    simp [lw_ex]
  rcases hk with ⟨a, i, x, b, rfl⟩ | ⟨C, T, rfl⟩ | ⟨C, rfl⟩
  · exact va_Nw.of rfl hz
  · exact va_Nw.of rfl hz
  · exact va_AO.of hz
abbrev fl0 : List Cond := flatC (Jvm.Cond.and given_1 narrow_1)
abbrev tm0 (i : Nat) : Term := .string "InvariantSearch$Text" (skI i)
theorem gm_map (xs : List Int) (j : Nat) : (xs.map Int32.ofInt).getD j 0 = Int32.ofInt (xs.getD j 0) := by
  simp only [List.getD_eq_getElem?_getD, List.getElem?_map]
  cases xs[j]? <;> rfl
def len0 : List Nat := [4, 2, 3, 14]
def byt0 : List (List Int32) := [(skB 0).map Int32.ofInt, (skB 1).map Int32.ofInt, (skB 2).map Int32.ofInt, (skB 3).map Int32.ofInt]
theorem st_1 : ∀ i, i < 4 → Cond.exactly (tm0 i) "java/lang/String" ∈ fl0 := by decide +kernel
theorem st_2 : ∀ i, i < 4 → Cond.eq (.field (tm0 i) "java/lang/String" "coder" "B") (.int 0) ∈ fl0 := by decide +kernel
theorem st_3 : ∀ i, i < 4 → Cond.arrayOf (.field (tm0 i) "java/lang/String" "value" "[B") .byte ∈ fl0 := by decide +kernel
theorem st_4 : ∀ i, i < 4 → Cond.eq (.length (.field (tm0 i) "java/lang/String" "value" "[B")) (.int (Int32.ofNat (len0.getD i 0))) ∈ fl0 := by decide +kernel
theorem st_5 : ∀ i, i < 4 → ∀ j, j < len0.getD i 0 → Cond.eq (.elem (.field (tm0 i) "java/lang/String" "value" "[B") (.int (Int32.ofNat j))) (.int ((byt0.getD i []).getD j 0)) ∈ fl0 := by decide +kernel
theorem st_6 : ∀ i, i < 4 → ∀ j, j < 4 → i ≠ j → Cond.not (Cond.eq (tm0 i) (tm0 j)) ∈ fl0 ∨ Cond.not (Cond.eq (tm0 j) (tm0 i)) ∈ fl0 := by decide +kernel
theorem st_7 : ∀ i, i < 4 → len0.getD i 0 < 2 ^ 31 := by decide +kernel
theorem st_8 : ∀ i, i < 4 → len0.getD i 0 = (skB i).length := by decide +kernel
theorem st_9 : ∀ i, i < 4 → byt0.getD i [] = (skB i).map Int32.ofInt := by decide +kernel
theorem st_w : ∀ i, i < 4 → Cond.stringRef RX8 (skI i) (skT i) ∈ lw_tbl := fun i hi => by
  match i, hi with
  | 0, _ => exact k_429
  | 1, _ => exact k_482
  | 2, _ => exact k_483
  | 3, _ => exact k_492
theorem str_ok {b : Nat} {s : State} (hts : ∀ w ∈ lw_tbl, w.before #[Value.ref b] s = true) (hgv : (Jvm.Cond.and given_1 narrow_1).before #[Value.ref b] s = true) :
    ∃ (k con : Nat → Nat), ∀ i, i < 4 → vk_R RX8 (skI i) (skT i) (k i) s ∧ va_O "java/lang/String" (k i) (fun q => s.heap.size ≤ q) s s.heap ∧ va_OF "java/lang/String" "coder" "B" (.int 0) (k i) (fun q => s.heap.size ≤ q) s s.heap ∧ va_OF "java/lang/String" "value" "[B" (.ref (con i)) (k i) (fun q => s.heap.size ≤ q) s s.heap ∧
      va_T .byte (con i) (skB i).length (fun j => .int (Int32.ofInt ((skB i).getD j 0))) (fun q => s.heap.size ≤ q) s s.heap := by
  have hf : ∀ c ∈ fl0, c.before #[Value.ref b] s = true := flat_of_before _ hgv
  obtain ⟨adK, adV, hS, he⟩ := vk_Sof (args := #[Value.ref b]) (s := s) (N := 4) (tm := tm0) (len := len0) (byt := byt0) (A := fun q => s.heap.size ≤ q) st_7 (fun i hi => hf _ (st_1 i hi)) (fun i hi => hf _ (st_2 i hi)) (fun i hi => hf _ (st_3 i hi)) (fun i hi => hf _ (st_4 i hi)) (fun i hi j hj => hf _ (st_5 i hi j hj))
    (fun i j hi hj hne => (st_6 i hi j hj hne).imp (fun h => hf _ h) (fun h => hf _ h)) (fun a ha => Nat.not_le.mpr ha)
  refine ⟨adK, adV, fun i hi => ?_⟩
  obtain ⟨h1, h2, h3, h4⟩ := hS.1 i hi
  refine ⟨vk_R.of (hts _ (st_w i hi)) (he i hi), h1, h2, h3, ?_⟩
  rw [st_8 i hi, st_9 i hi] at h4
  simp only [gm_map] at h4
  exact h4
/-- the clean machine's heap at the start, for a script -/
def con0 (xs : List Int) : Nat → az_C := fun i => if i = 0 then cA .float xs else if i < 5 then cO 101 [vo (i + 4), vi 0] else if i < 9 then cA .short (skB (i - 5)) else cO 999 []
def heap0 (xs : List Int) : az_H := (fun i => if i < 16 then con0 xs i else cO 999 [], 16)
theorem con0_s (ys : List Int) : ∀ i, i < 4 → con0 ys (i + 1) = cO 101 [vo (i + 5), vi 0] ∧ con0 ys (i + 5) = cA .short (skB i) := by
  intro i hi
  unfold con0
  refine ⟨?_, ?_⟩
  · rw [if_neg (by omega), if_pos (by omega)]
  · rw [if_neg (by omega), if_neg (by omega), if_pos (by omega), show i + 5 - 5 = i by omega]
theorem con0_o {ys : List Int} {i : Nat} {fs : List az_V} (h : con0 ys i = cO 101 fs) : 1 ≤ i ∧ i < 5 := by
  unfold con0 at h
  split at h
  · cases h
  · split at h
    · omega
    · split at h <;> cases h
theorem con0_b {ys : List Int} {i : Nat} {fs : List Int} (h : con0 ys i = cA .short fs) : 5 ≤ i ∧ i < 9 := by
  unfold con0 at h
  split at h
  · cases h
  · split at h
    · cases h
    · split at h
      · omega
      · cases h
theorem con0_r {ys : List Int} {i : Nat} : ¬ az_reg (con0 ys i) := by
  intro h
  unfold con0 at h
  split at h
  · exact absurd (show FieldType.float ∈ arrT from h) (by decide)
  · split at h
    · obtain ⟨r, hr⟩ := h; cases hr
    · split at h
      · exact absurd (show FieldType.short ∈ arrT from h) (by decide)
      · obtain ⟨r, hr⟩ := h; cases hr
theorem start_of (hlaw : ∀ (G : az_G) (xs : List Int), G.2.2.2.2.2 = con0 xs → xs.length ≤ 2560 → (∀ x ∈ xs, -2147483648 ≤ x ∧ x < 2147483648) → ez G mL_law 300 600000 7302250 0 [some (vo 0), none, none, none] [] (heap0 xs) (fun v _ => v = some (vi 1)))
    {p : Program} {e : Env} {s : State} {m : MethodId} {below : List Frame} {meth : Method} {c : Code} (l : Launch) {b L : Nat} {xs : Nat → Int32} (hL : L ≤ 2560) (C0 : lw_At p s m meth c b L xs) : W p l e room_1 s m #[Value.ref b] below meth c s.heap [] 0 0 (lw_Z below #[Value.ref b] s) (entryFrame m ([Value.ref b] : List Value).toArray 4) := by
  obtain ⟨hx, hb, hr, hml, hown, hts, hX, hbl, hlocks, hgv⟩ := id C0
  have hf := flat_of_before _ hgv
  obtain ⟨kk, kv, hstr⟩ := str_ok hts hgv
  have hcl := cls_ok hts
  have har := arr_ok hts
  have hA : ∀ a : Nat, a < s.heap.size → ¬ (fun q : Nat => s.heap.size ≤ q) a := fun a ha => Nat.not_le.mpr ha
  have hcs : (Term.static "java/lang/String" "COMPACT_STRINGS" "Z").eval #[Value.ref b] s none [] s = some (.int 1) := va_eqi (hf (Cond.eq (.static "java/lang/String" "COMPACT_STRINGS" "Z") (.int 1)) (by decide +kernel))
  have hZ1 : va_Z "java/lang/String" "COMPACT_STRINGS" "Z" (.int 1) (fun q => s.heap.size ≤ q) s s.heap := va_Zof (hts _ k_443) (hts _ k_85) hcs hA
  have hZ2 : va_Zq "jdk/internal/util/Preconditions" "SIOOBE_FORMATTER" "Ljava/util/function/BiFunction;" (fun q => s.heap.size ≤ q) s s.heap := va_Zqof (hts _ k_459) (hts _ k_87) (hf (Cond.isRef (.static "jdk/internal/util/Preconditions" "SIOOBE_FORMATTER" "Ljava/util/function/BiFunction;")) (by decide +kernel)) hA
  obtain ⟨t9, hZ3⟩ : ∃ t9 : Nat, va_Z "jdk/internal/util/Preconditions" "SIOOBE_FORMATTER" "Ljava/util/function/BiFunction;" .null (fun q => s.heap.size ≤ q) s s.heap ∨ va_Z "jdk/internal/util/Preconditions" "SIOOBE_FORMATTER" "Ljava/util/function/BiFunction;" (.ref t9) (fun q => s.heap.size ≤ q) s s.heap := by
    rcases hZ2 with h | ⟨t, h⟩
    · exact ⟨0, Or.inl h⟩
    · exact ⟨t, Or.inr h⟩
  obtain ⟨ys, hyl, hyg, hyr⟩ : ∃ ys : List Int, ys.length = L ∧ (∀ j, j < L → Int32.ofInt (ys.getD j 0) = xs j) ∧ ∀ x ∈ ys, -2147483648 ≤ x ∧ x < 2147483648 := by
    refine ⟨(List.range L).map (fun j => (xs j).toInt), by simp, fun j hj => by simp [hj], fun x hx => ?_⟩
    obtain ⟨j, -, rfl⟩ := List.mem_map.mp hx
    exact i32_rng _
  obtain ⟨dC, hdC⟩ : ∃ dC : Nat → ClassId × (Nat → Nat), ∀ c q, classes[c]? = some q → u_Kn s q.1 q.2.1 q.2.2 (dC c).1 (dC c).2 :=
    ⟨fun c => (Classical.choose (hcl c), Classical.choose (Classical.choose_spec (hcl c))), fun c q hq => Classical.choose_spec (Classical.choose_spec (hcl c)) q hq⟩
  obtain ⟨dA, hdA⟩ : ∃ dA : FieldType → ClassId, ∀ t ∈ arrT, ArrOfT s (dA t) t ∧ va_RA s (dA t) t := by
    have : ∀ t, ∃ c : ClassId, t ∈ arrT → ArrOfT s c t ∧ va_RA s c t := fun t => by
      by_cases ht : t ∈ arrT
      · obtain ⟨c, hc⟩ := har t ht
        exact ⟨c, fun _ => hc⟩
      · exact ⟨0, fun h => absurd h ht⟩
    exact ⟨fun t => Classical.choose (this t), fun t ht => Classical.choose_spec (this t) ht⟩
  obtain ⟨ka, hka0, hka1, hka2, hka9⟩ : ∃ ka : Nat → Nat, ka 0 = b ∧ (∀ i, i < 4 → ka (i + 1) = kk i) ∧ (∀ i, i < 4 → ka (i + 5) = kv i) ∧ ka 9 = t9 := by
    refine ⟨fun i => if i = 0 then b else if i < 5 then kk (i - 1) else if i < 9 then kv (i - 5) else t9, rfl, fun i hi => ?_, fun i hi => ?_, rfl⟩
    · show (if i + 1 = 0 then b else if i + 1 < 5 then kk (i + 1 - 1) else if i + 1 < 9 then kv (i + 1 - 5) else t9) = _
      rw [if_neg (by omega), if_pos (by omega), show i + 1 - 1 = i by omega]
    · show (if i + 5 = 0 then b else if i + 5 < 5 then kk (i + 5 - 1) else if i + 5 < 9 then kv (i + 5 - 5) else t9) = _
      rw [if_neg (by omega), if_neg (by omega), if_pos (by omega), show i + 5 - 5 = i by omega]
  obtain ⟨G, e1, e2, e3, e4, e5, e6⟩ : ∃ G : az_G, G.1 = l ∧ G.2.1 = (fun c => (dC c).1, fun c => (dC c).2) ∧ G.2.2.1 = dA ∧ G.2.2.2.1 = s.heap.size ∧ G.2.2.2.2.1 = ka ∧ G.2.2.2.2.2 = con0 ys := ⟨(l, (fun c => (dC c).1, fun c => (dC c).2), dA, s.heap.size, ka, con0 ys), rfl, rfl, rfl, rfl, rfl, rfl⟩
  have hAe : az_A G = fun q => s.heap.size ≤ q := by unfold az_A; rw [e4]
  have hK : va_K G.2.1 classes (az_ty G) s := by
    rw [e2]
    refine ⟨fun k q hq => hdC k q hq, fun k q hq => ?_⟩
    rw [List.getElem?_map] at hq
    cases ht : arrT[k]? with
    | none => rw [ht] at hq; cases hq
    | some t =>
      rw [ht] at hq
      cases hq
      show ArrOfT s (G.2.2.1 t) t ∧ va_RA s (G.2.2.1 t) t
      rw [e3]
      exact hdA t (List.mem_of_getElem? ht)
  have hcon : az_con G s s.heap := by
    refine ⟨fun zs hz => ?_, ex_ok hts, fun i hi => ?_, fun i hi h => ?_, fun i hi h => ?_, ?_, ?_, ?_⟩
    · rw [e6] at hz
      have hz' : cA .float ys = cA .float zs := hz
      cases hz'
      rw [e5, e4, hka0]
      refine ⟨hbl, ?_, by omega, fun x hx => hyr x hx⟩
      obtain ⟨scr, q1, q2, q3, q4, q5⟩ := hX
      refine ⟨scr, q1, q2, q3, by rw [hyl]; exact q4, fun j hj => ?_⟩
      rw [hyl] at hj
      show scr.slots[j]? = some (.int (Int32.ofInt (ys.getD j 0)))
      rw [hyg j hj]
      exact q5 j hj
    · obtain ⟨a1, a2, a3, a4, a5⟩ := hstr i hi
      rw [e5, e6, hka1 i hi, hka2 i hi, hAe]
      exact ⟨a1, (con0_s ys i hi).1, (con0_s ys i hi).2, a2, a3, a4, a5⟩
    · obtain ⟨fs, h⟩ := h
      rw [e6] at h
      exact con0_o h
    · obtain ⟨fs, h⟩ := h
      rw [e6] at h
      exact con0_b h
    · rw [hAe]; exact hZ1
    · rw [hAe, e5, hka9]; exact hZ3
    · obtain ⟨kA, c, comp, g1, g2, g3, g4⟩ := grd_ok hts
      rw [e3]
      have p1 : s.vm.findClass "[[I" = some (dA (.array .int)) := (hdA (.array .int) (by decide)).2
      have p2 : s.vm.findClass "[I" = some (dA .int) := (hdA .int (by decide)).2
      have q1 : dA (.array .int) = c := Option.some.inj (p1.symm.trans g1)
      have q2 : dA .int = comp := Option.some.inj (p2.symm.trans g2)
      rw [q1, q2]
      exact ⟨kA, g3, g4⟩
  have h0 : ∀ i, i < 16 → (heap0 ys).1 i = con0 ys i := fun i hi => if_pos hi
  have h1 : ∀ i, 16 ≤ i → (heap0 ys).1 i = cO 999 [] := fun i hi => if_neg (by omega)
  have hnr : ∀ i, ¬ az_reg ((heap0 ys).1 i) := by
    intro i
    by_cases hi : i < 16
    · rw [h0 i hi]; exact con0_r
    · rw [h1 i (by omega)]
      rintro ⟨r, hr⟩
      cases hr
  have hR : az_Rel G s (heap0 ys) s.heap [] := by
    refine ⟨⟨Nat.le_refl _, by rw [e4]; rfl, fun k q hq => ?_, fun i h => absurd h (hnr i), fun i i1 i2 => ?_, fun i hi => by rw [h0 i hi, e6], fun i hi => h1 i hi⟩, by rw [e4]; exact Nat.le_refl _, hK, va_S.rf, hcon⟩
    · exact absurd (ws_at hq).1 (Nat.not_lt_zero _)
    · have i2 : i < 16 := i2
      omega
  have C : az_Ctx mL_law 300 p s m #[Value.ref b] meth c room_1 := ⟨hx, hb, hml, hr, hown, fun w hw _ => hts w hw, hlocks, fun h => absurd h (by decide), by decide, by decide⟩
  have hl := lv_entry ([.ref b]) (n := 4) (Nat.le_of_ble_eq_true rfl)
  rw [lg_entry_eq]
  have hl2 : lv_has ((lg_sl ([.ref b] : List Value) ++ List.replicate (4 - (lg_sl ([.ref b] : List Value)).length) Slot.unset).toArray) 4 (az_ll G 0 [some (vo 0), none, none, none]) := by
    have e7 : az_ll G 0 [some (vo 0), none, none, none] = lv_args 0 ([.ref b] : List Value) := by
      show [(0, Value.ref (az_ad G 0))] = [(0, Value.ref b)]
      rw [ad_k (by decide), e5, hka0]
    rw [e7]
    exact hl
  rw [← e1]
  refine hlaw G ys e6 (by omega) hyr p e room_1 s m #[Value.ref b] below meth c s.heap [] 0 0 _ _ C hR (fun v hv => ?_) (fun v hv => by cases hv) hl2 (Nat.le_refl _) (Nat.le_refl _) ?_
  · simp at hv
    subst hv
    trivial
  · intro pc' LS' v h' H' locs' hR' hok hrt hq hdg
    subst hq
    refine va_forget (fun q hq => by have := hR'.2.2.2.1.2.2 q hq; rw [hAe] at this; exact this) ?_
    exact lw_ret hx hb hr hlocks hdg
