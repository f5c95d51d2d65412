/-! THE CLEAN MACHINE. Values, cells and heaps without addresses of the JVM; a judgement 'ez' over them, with a rule an instruction. -/
/-! numbers as an int and a long hold them -/
def w32 (x : Int) : Int := (x + 2147483648) % 4294967296 - 2147483648
def w64 (x : Int) : Int := (x + 9223372036854775808) % 18446744073709551616 - 9223372036854775808
theorem w32_lo (x : Int) : -2147483648 ≤ w32 x := by unfold w32; omega
theorem w32_hi (x : Int) : w32 x < 2147483648 := by unfold w32; omega
theorem w64_lo (x : Int) : -9223372036854775808 ≤ w64 x := by unfold w64; omega
theorem w64_hi (x : Int) : w64 x < 9223372036854775808 := by unfold w64; omega
theorem w32_id {x : Int} (h1 : -2147483648 ≤ x) (h2 : x < 2147483648) : w32 x = x := by unfold w32; omega
theorem w64_id {x : Int} (h1 : -9223372036854775808 ≤ x) (h2 : x < 9223372036854775808) : w64 x = x := by unfold w64; omega
theorem w32_bmod (x : Int) : w32 x = x.bmod (2 ^ 32) := by
  unfold w32 Int.bmod
  simp only []
  split <;> omega
theorem w64_bmod (x : Int) : w64 x = x.bmod (2 ^ 64) := by
  unfold w64 Int.bmod
  simp only []
  split <;> omega
theorem w32_of (x : Int) : Int32.ofInt (w32 x) = Int32.ofInt x := by
  rw [w32_bmod, ← Int32.toInt_inj, Int32.toInt_ofInt, Int32.toInt_ofInt]
  exact Int.bmod_bmod
theorem w64_of (x : Int) : Int64.ofInt (w64 x) = Int64.ofInt x := by
  rw [w64_bmod, ← Int64.toInt_inj, Int64.toInt_ofInt, Int64.toInt_ofInt]
  exact Int.bmod_bmod
theorem w32_toInt (x : Int) : (Int32.ofInt x).toInt = w32 x := by rw [w32_bmod, Int32.toInt_ofInt]
theorem w64_toInt (x : Int) : (Int64.ofInt x).toInt = w64 x := by rw [w64_bmod, Int64.toInt_ofInt]
/-- the int of a machine number is in its range -/
theorem i32_rng (z : Int32) : -2147483648 ≤ z.toInt ∧ z.toInt < 2147483648 := by
  have h : z.toInt = w32 z.toInt := by rw [← w32_toInt, Int32.ofInt_toInt]
  rw [h]; exact ⟨w32_lo _, w32_hi _⟩
theorem i64_rng (z : Int64) : -9223372036854775808 ≤ z.toInt ∧ z.toInt < 9223372036854775808 := by
  have h : z.toInt = w64 z.toInt := by rw [← w64_toInt, Int64.ofInt_toInt]
  rw [h]; exact ⟨w64_lo _, w64_hi _⟩
theorem i32_lt {x y : Int} (hx : -2147483648 ≤ x ∧ x < 2147483648) (hy : -2147483648 ≤ y ∧ y < 2147483648) : Int32.ofInt x < Int32.ofInt y ↔ x < y := by
  rw [Int32.lt_iff_toInt_lt, w32_toInt, w32_toInt, w32_id hx.1 hx.2, w32_id hy.1 hy.2]
theorem i32_le {x y : Int} (hx : -2147483648 ≤ x ∧ x < 2147483648) (hy : -2147483648 ≤ y ∧ y < 2147483648) : Int32.ofInt x ≤ Int32.ofInt y ↔ x ≤ y := by
  rw [Int32.le_iff_toInt_le, w32_toInt, w32_toInt, w32_id hx.1 hx.2, w32_id hy.1 hy.2]
theorem i32_eq {x y : Int} (hx : -2147483648 ≤ x ∧ x < 2147483648) (hy : -2147483648 ≤ y ∧ y < 2147483648) : Int32.ofInt x = Int32.ofInt y ↔ x = y := by
  rw [← Int32.toInt_inj, w32_toInt, w32_toInt, w32_id hx.1 hx.2, w32_id hy.1 hy.2]
theorem i32_nat {x : Int} (hx : -2147483648 ≤ x ∧ x < 2147483648) : (Int32.ofInt x).toNatClampNeg = x.toNat := Int32.toNatClampNeg_ofInt_of_le hx.1 hx.2
/-! bits: by way of the machine's own numbers -/
def bAnd (x y : Int) : Int := (Int32.ofInt x &&& Int32.ofInt y).toInt
def bOr (x y : Int) : Int := (Int32.ofInt x ||| Int32.ofInt y).toInt
def bXor (x y : Int) : Int := (Int32.ofInt x ^^^ Int32.ofInt y).toInt
def bShl (x y : Int) : Int := (Int32.ofInt x <<< (Int32.ofInt y &&& 31)).toInt
def bShr (x y : Int) : Int := (Int32.ofInt x >>> (Int32.ofInt y &&& 31)).toInt
def bUshr (x y : Int) : Int := ((Int32.ofInt x).toUInt32 >>> ((Int32.ofInt y).toUInt32 &&& Int32.toUInt32 31)).toInt32.toInt
def bDiv (x y : Int) : Int := (Int32.ofInt x / Int32.ofInt y).toInt
def bRem (x y : Int) : Int := (Int32.ofInt x - Int32.ofInt x / Int32.ofInt y * Int32.ofInt y).toInt
def lAnd (x y : Int) : Int := (Int64.ofInt x &&& Int64.ofInt y).toInt
def lOr (x y : Int) : Int := (Int64.ofInt x ||| Int64.ofInt y).toInt
def lXor (x y : Int) : Int := (Int64.ofInt x ^^^ Int64.ofInt y).toInt
def lShl (x y : Int) : Int := (Int64.ofInt x <<< ((Int32.ofInt y).toInt64 &&& 63)).toInt
def lUshr (x y : Int) : Int := ((Int64.ofInt x).toUInt64 >>> ((Int32.ofInt y).toInt64.toUInt64 &&& Int64.toUInt64 63)).toInt64.toInt
def lDiv (x y : Int) : Int := (Int64.ofInt x / Int64.ofInt y).toInt
def lCmp (x y : Int) : Int := if x < y then -1 else if x = y then 0 else 1
/-- a byte of an int -/
def w8 (x : Int) : Int := (x + 128) % 256 - 128
theorem w8_of (x : Int) : (Int32.ofInt x).toInt8.toInt32 = Int32.ofInt (w8 x) := by
  rw [← Int32.toInt_inj, Int8.toInt_toInt32, Int32.toInt8_ofInt, Int8.toInt_ofInt, w32_toInt, w32_id (by unfold w8; omega) (by unfold w8; omega)]
  unfold w8 Int.bmod
  simp only [Int8.size]
  split <;> omega
/-! values: an int, a long, a reference (none: null). cells: an object (its class's number, its fields), an array of numbers, an array of references (its component's type, what it holds). A heap: its cells, how many. -/
abbrev az_V : Type := Int ⊕ (Int ⊕ Option Nat)
abbrev az_C : Type := (Nat × List az_V) ⊕ ((FieldType × List Int) ⊕ (FieldType × List (Option Nat)))
abbrev az_H : Type := (Nat → az_C) × Nat
abbrev vi (x : Int) : az_V := .inl x
abbrev vl (x : Int) : az_V := .inr (.inl x)
abbrev vr (r : Option Nat) : az_V := .inr (.inr r)
abbrev vo (i : Nat) : az_V := .inr (.inr (some i))
abbrev vn : az_V := .inr (.inr none)
abbrev cO (ci : Nat) (fs : List az_V) : az_C := .inl (ci, fs)
abbrev cA (t : FieldType) (xs : List Int) : az_C := .inr (.inl (t, xs))
abbrev cR (t : FieldType) (rs : List (Option Nat)) : az_C := .inr (.inr (t, rs))
/-- a heap with one cell changed, with one cell more -/
def hset (h : az_H) (a : Nat) (c : az_C) : az_H := (fun j => if j = a then c else h.1 j, h.2)
def hpsh (h : az_H) (c : az_C) : az_H := (fun j => if j = h.2 then c else h.1 j, h.2 + 1)
theorem hset_at (h : az_H) (a : Nat) (c : az_C) : (hset h a c).1 a = c := if_pos rfl
theorem hset_ne {h : az_H} {a j : Nat} {c : az_C} (e : j ≠ a) : (hset h a c).1 j = h.1 j := if_neg e
theorem hset_sz (h : az_H) (a : Nat) (c : az_C) : (hset h a c).2 = h.2 := rfl
theorem hset_set (h : az_H) (a : Nat) (c c' : az_C) : hset (hset h a c) a c' = hset h a c' := by
  refine Prod.ext (funext fun j => ?_) rfl
  by_cases e : j = a
  · simp [hset, e]
  · simp [hset, e]
theorem hset_same {h : az_H} {a : Nat} {c : az_C} (e : h.1 a = c) : hset h a c = h := by
  refine Prod.ext (funext fun j => ?_) rfl
  by_cases e1 : j = a
  · subst e1; simp [hset, e]
  · simp [hset, e1]
theorem hset_comm {h : az_H} {a b : Nat} {c d : az_C} (e : a ≠ b) : hset (hset h a c) b d = hset (hset h b d) a c := by
  refine Prod.ext (funext fun j => ?_) rfl
  by_cases e1 : j = a
  · subst e1; simp [hset, e]
  · simp [hset, e1]
/-! which are the machine's: its numbers are in their ranges -/
def az_ok : az_V → Prop
  | .inl x => -2147483648 ≤ x ∧ x < 2147483648
  | .inr (.inl x) => -9223372036854775808 ≤ x ∧ x < 9223372036854775808
  | .inr (.inr _) => True
def az_okt (t : FieldType) (x : Int) : Prop := match t with
  | .long => -9223372036854775808 ≤ x ∧ x < 9223372036854775808
  | .byte => -128 ≤ x ∧ x < 128
  | .boolean => 0 ≤ x ∧ x < 2
  | .char => 0 ≤ x ∧ x < 65536
  | .short => -32768 ≤ x ∧ x < 32768
  | _ => -2147483648 ≤ x ∧ x < 2147483648
def az_okC : az_C → Prop
  | .inl (ci, fs) => (∀ v ∈ fs, az_ok v) ∧ ∃ r : vw_C, classes[ci]? = some r ∧ fs.length = r.2.2
  | .inr (.inl (t, xs)) => ∀ x ∈ xs, az_okt t x
  | .inr (.inr _) => True
/-! and how they stand in the machine. G: the launch, the classes' numbers and slots, the array classes, where the first cell of ours lies, where the sixteen constants lie, and what they are -/
abbrev az_G : Type := Launch × va_G × (FieldType → ClassId) × Nat × (Nat → Nat) × (Nat → az_C)
def az_ad (G : az_G) (i : Nat) : Nat := if i < 16 then G.2.2.2.2.1 i else G.2.2.2.1 + (i - 16)
def az_cv (G : az_G) : az_V → Value
  | .inl x => .int (Int32.ofInt x)
  | .inr (.inl x) => .long (Int64.ofInt x)
  | .inr (.inr r) => va_rf (r.map (az_ad G))
def az_ce (G : az_G) : az_C → va_E
  | .inl (ci, fs) => .inr (ci, fs.map (az_cv G))
  | .inr (.inl (t, xs)) => .inl (G.2.2.1 t, xs.length, if t = .long then .inr (.inl fun j => Int64.ofInt (xs.getD j 0)) else .inl fun j => Int32.ofInt (xs.getD j 0))
  | .inr (.inr (t, rs)) => .inl (G.2.2.1 t, rs.length, .inr (.inr (.inr (.inr fun j => (rs.getD j none).map (az_ad G)))))
/-- a cell of ours (a constant is none) -/
def az_reg : az_C → Prop
  | .inl (ci, _) => ∃ r : vw_C, classes[ci]? = some r
  | .inr (.inl (t, _)) => t ∈ arrT
  | .inr (.inr (t, _)) => t ∈ arrT
def az_ws (G : az_G) (h : az_H) : va_W := (List.range (h.2 - 16)).map fun i => (G.2.2.2.1 + i, az_ce G (h.1 (i + 16)))
abbrev az_ty (G : az_G) : List (ClassId × FieldType) := arrT.map fun t => (G.2.2.1 t, t)
abbrev az_A (G : az_G) : Nat → Prop := fun q => G.2.2.2.1 ≤ q
/-- the String constants: where in the pool of Text, their texts, their bytes -/
def skI (i : Nat) : Nat := match i with
  | 0 => 61
  | 1 => 67
  | 2 => 69
  | _ => 53
def skT (i : Nat) : String := match i with
  | 0 => "need"
  | 1 => "if"
  | 2 => "pay"
  | _ => "+-*/<=&|!(){};"
def skB (i : Nat) : List Int := match i with
  | 0 => [110, 101, 101, 100]
  | 1 => [105, 102]
  | 2 => [112, 97, 121]
  | _ => [43, 45, 42, 47, 60, 61, 38, 124, 33, 40, 41, 123, 125, 59]
/-- what is said of them (String i is the constant i + 1, its bytes the constant i + 5), and of the JDK's statics -/
def az_str (G : az_G) (s : State) (H : Heap) : Prop :=
  (∀ i, i < 4 → vk_R RX8 (skI i) (skT i) (G.2.2.2.2.1 (i + 1)) s ∧ G.2.2.2.2.2 (i + 1) = cO 101 [vo (i + 5), vi 0] ∧ G.2.2.2.2.2 (i + 5) = cA .short (skB i) ∧
    va_O "java/lang/String" (G.2.2.2.2.1 (i + 1)) (az_A G) s H ∧ va_OF "java/lang/String" "coder" "B" (.int 0) (G.2.2.2.2.1 (i + 1)) (az_A G) s H ∧ va_OF "java/lang/String" "value" "[B" (.ref (G.2.2.2.2.1 (i + 5))) (G.2.2.2.2.1 (i + 1)) (az_A G) s H ∧
    va_T .byte (G.2.2.2.2.1 (i + 5)) (skB i).length (fun j => .int (Int32.ofInt ((skB i).getD j 0))) (az_A G) s H) ∧
  (∀ i, i < 16 → (∃ fs, G.2.2.2.2.2 i = cO 101 fs) → 1 ≤ i ∧ i < 5) ∧ (∀ i, i < 16 → (∃ xs, G.2.2.2.2.2 i = cA .short xs) → 5 ≤ i ∧ i < 9) ∧
  va_Z "java/lang/String" "COMPACT_STRINGS" "Z" (.int 1) (az_A G) s H ∧ (va_Z "jdk/internal/util/Preconditions" "SIOOBE_FORMATTER" "Ljava/util/function/BiFunction;" .null (az_A G) s H ∨ va_Z "jdk/internal/util/Preconditions" "SIOOBE_FORMATTER" "Ljava/util/function/BiFunction;" (.ref (G.2.2.2.2.1 9)) (az_A G) s H) ∧
  ∃ kA : Class, s.vm.classes[G.2.2.1 (.array .int)]? = some kA ∧ kA.kind = .array (G.2.2.1 .int) (.array .int)
/-- what is said of the constants (the script is the constant 0), and of words that go with no table -/
def az_con (G : az_G) (s : State) (H : Heap) : Prop :=
  (∀ xs : List Int, G.2.2.2.2.2 0 = cA .float xs → G.2.2.2.2.1 0 < G.2.2.2.1 ∧ va_X (G.2.2.2.2.1 0) xs.length (fun j => Int32.ofInt (xs.getD j 0)) s H ∧ xs.length < 2 ^ 31 ∧ ∀ x ∈ xs, az_okt .int x) ∧ (∀ w ∈ lw_ex, va_Nw w s) ∧ az_str G s H
/-- the heap is h -/
def az_heap (G : az_G) (h : az_H) (H : Heap) : Prop :=
  16 ≤ h.2 ∧ H.size + 16 = G.2.2.2.1 + h.2 ∧ va_P G.2.1 classes (az_ws G h) H ∧ (∀ i, az_reg (h.1 i) → 16 ≤ i ∧ i < h.2) ∧ (∀ i, 16 ≤ i → i < h.2 → az_reg (h.1 i) ∧ az_okC (h.1 i)) ∧ (∀ i, i < 16 → h.1 i = G.2.2.2.2.2 i) ∧ ∀ i, h.2 ≤ i → h.1 i = cO 999 []
def az_Rel (G : az_G) (s : State) (h : az_H) (H : Heap) (locs : List Loc) : Prop :=
  az_heap G h H ∧ G.2.2.2.1 ≤ s.heap.size ∧ va_K G.2.1 classes (az_ty G) s ∧ va_S (az_A G) s.heap H locs ∧ az_con G s H
section REL
variable {G : az_G} {h : az_H} {s : State} {H : Heap} {locs : List Loc}
theorem rel_K (hR : az_Rel G s h H locs) : va_K G.2.1 classes (az_ty G) s := hR.2.2.1
theorem rel_P (hR : az_Rel G s h H locs) : va_P G.2.1 classes (az_ws G h) H := hR.1.2.2.1
theorem rel_g (hR : az_Rel G s h H locs) : ∀ i, az_reg (h.1 i) → 16 ≤ i ∧ i < h.2 := hR.1.2.2.2.1
theorem rel_r (hR : az_Rel G s h H locs) : ∀ i, 16 ≤ i → i < h.2 → az_reg (h.1 i) ∧ az_okC (h.1 i) := hR.1.2.2.2.2.1
theorem rel_z (hR : az_Rel G s h H locs) : H.size + 16 = G.2.2.2.1 + h.2 := hR.1.2.1
theorem rel_n (hR : az_Rel G s h H locs) : 16 ≤ h.2 := hR.1.1
end REL
/-! locals -/
def az_ll (G : az_G) : Nat → List (Option az_V) → List (Nat × Value)
  | _, [] => []
  | i, none :: t => az_ll G (i + 1) t
  | i, some v :: t => (i, az_cv G v) :: az_ll G (i + 1) t
def az_kl (ls : List (Option az_V)) (i : Nat) : List (Option az_V) := match i with
  | 0 => ls
  | j + 1 => match ls[j]? with
    | some (some (.inr (.inl _))) => ls.set j none
    | _ => ls
def az_s1 (ls : List (Option az_V)) (i : Nat) (v : az_V) : List (Option az_V) := (az_kl ls i).set i (some v)
def az_s2 (ls : List (Option az_V)) (i : Nat) (v : az_V) : List (Option az_V) := ((az_kl ls i).set i (some v)).set (i + 1) none
/-! a method: its name, code, number of locals, answer -/
abbrev az_M : Type := MethodName × ByteArray × Nat × Option FieldType
def az_Ctx (M : az_M) (d : Nat) (p : Program) (s : State) (m : MethodId) (args : Array Value) (meth : Method) (c : Code) (R : Room) : Prop :=
  p.tables.exec = Jvm.exec ∧ c.code = M.2.1 ∧ c.maxLocals = M.2.2.1 ∧ meth.sig.returnType = M.2.2.2 ∧ s.vm.findClass M.1.cls = some m.cls ∧ (∀ w ∈ lw_tbl, goodWord w = true → w.before args s = true) ∧ meth.locks = false ∧ (M.1.name = "<init>" → meth.name = "<init>") ∧ d ≤ R.frames ∧ 64 * d ≤ R.locals
def az_okS (st : List az_V) : Prop := ∀ v ∈ st, az_ok v
def az_okL (ls : List (Option az_V)) : Prop := ∀ v, some v ∈ ls → az_ok v
def az_ri : Option az_V → Instr
  | none => .return_
  | some (.inl _) => .ireturn
  | some (.inr (.inl _)) => .lreturn
  | some (.inr (.inr _)) => .areturn
/-- may a variable of type t hold v -/
def az_fit (t : FieldType) (v : az_V) : Prop := match t, v with
  | .int, .inl _ => True
  | .boolean, .inl x => x = 0 ∨ x = 1
  | .byte, .inl x => -128 ≤ x ∧ x < 128
  | .char, .inl x => 0 ≤ x ∧ x < 65536
  | .long, .inr (.inl _) => True
  | .object _, .inr (.inr _) => True
  | .array _, .inr (.inr _) => True
  | _, _ => False
def az_rt (t : Option FieldType) (v : Option az_V) : Prop := match t, v with
  | none, none => True
  | some t, some v => az_fit t v
  | _, _ => False
/-- from this place of method M, with d frames left, making at most mc cells of ms slots, the machine comes to a return with Q -/
def ez (G : az_G) (M : az_M) (d mc ms pc : Nat) (ls : List (Option az_V)) (st : List az_V) (h : az_H) (Q : Option az_V → az_H → Prop) : Prop :=
  ∀ (p : Program) (e : Env) (R : Room) (s : State) (m : MethodId) (args : Array Value) (below : List Frame) (meth : Method) (c : Code) (H : Heap) (locs : List Loc) (cells slots : Nat) (LS : Array Slot) (Z : State → Prop),
    az_Ctx M d p s m args meth c R → az_Rel G s h H locs → az_okL ls → az_okS st → lv_has LS M.2.2.1 (az_ll G 0 ls) → cells + mc ≤ R.cells → slots + ms ≤ R.slots →
    (∀ (pc' : Nat) (LS' : Array Slot) (v : Option az_V) (h' : az_H) (H' : Heap) (locs' : List Loc), az_Rel G s h' H' locs' → (∀ x, v = some x → az_ok x) → az_rt M.2.2.2 v → Q v h' → decode M.2.1 pc' = .ok (az_ri v, 1) →
      W p G.1 e R s m args below meth c H' locs' (cells + mc) (slots + ms) Z (F0 m pc' LS' (v.map (az_cv G)).toList)) →
    W p G.1 e R s m args below meth c H locs cells slots Z (F0 m pc LS (st.map (az_cv G)))
