/-! what a stretch of code asks: read by the rules, told by these words -/
def lShr (x y : Int) : Int := (Int64.ofInt x >>> ((Int32.ofInt y).toInt64 &&& 63)).toInt
def rdI (h : az_H) (a ci k : Nat) (K : Int → Prop) : Prop := match h.1 a with
  | .inl (c, fs) => match fs[k]? with
    | some (.inl v) => c = ci ∧ K v
    | _ => False
  | _ => False
def rdL (h : az_H) (a ci k : Nat) (K : Int → Prop) : Prop := match h.1 a with
  | .inl (c, fs) => match fs[k]? with
    | some (.inr (.inl v)) => c = ci ∧ K v
    | _ => False
  | _ => False
def rdO (h : az_H) (a ci k : Nat) (K : Nat → Prop) : Prop := match h.1 a with
  | .inl (c, fs) => match fs[k]? with
    | some (.inr (.inr (some v))) => c = ci ∧ K v
    | _ => False
  | _ => False
def wrF (h : az_H) (a ci k : Nat) (t : FieldType) (v : az_V) (K : az_H → Prop) : Prop := match h.1 a with
  | .inl (c, fs) => c = ci ∧ az_fit t v ∧ K (hset h a (cO c (fs.set k v)))
  | _ => False
def ldI (h : az_H) (a : Nat) (t : FieldType) (i : Int) (K : Int → Prop) : Prop := match h.1 a with
  | .inr (.inl (t', xs)) => t' = t ∧ 0 ≤ i ∧ i < xs.length ∧ K (xs.getD i.toNat 0)
  | _ => False
def ldR (h : az_H) (a : Nat) (t : FieldType) (i : Int) (K : Option Nat → Prop) : Prop := match h.1 a with
  | .inr (.inr (t', xs)) => t' = t ∧ 0 ≤ i ∧ i < xs.length ∧ K (xs.getD i.toNat none)
  | _ => False
def stI (h : az_H) (a : Nat) (t : FieldType) (i x : Int) (K : az_H → Prop) : Prop := match h.1 a with
  | .inr (.inl (t', xs)) => t' = t ∧ 0 ≤ i ∧ i < xs.length ∧ K (hset h a (cA t' (xs.set i.toNat x)))
  | _ => False
def stR (h : az_H) (a : Nat) (C : String) (ci : Nat) (i : Int) (r : Option Nat) (K : az_H → Prop) : Prop := match h.1 a with
  | .inr (.inr (t', xs)) => t' = .object C ∧ (∀ b, r = some b → ∃ fs, h.1 b = cO ci fs) ∧ 0 ≤ i ∧ i < xs.length ∧ K (hset h a (cR t' (xs.set i.toNat r)))
  | _ => False
def aln (h : az_H) (a : Nat) (K : Int → Prop) : Prop := match h.1 a with
  | .inr (.inl (t, xs)) => t ∈ arrT ∧ (xs.length : Int) < 2147483648 ∧ K xs.length
  | .inr (.inr (t, xs)) => t ∈ arrT ∧ (xs.length : Int) < 2147483648 ∧ K xs.length
  | _ => False
def nnR (r : Option Nat) (K : Nat → Prop) : Prop := match r with
  | some a => K a
  | none => False
def rcv (h : az_H) (a ci : Nat) (K : Prop) : Prop := match h.1 a with
  | .inl (c, _) => c = ci ∧ K
  | _ => False
def acp (h : az_H) (a0 a : Nat) (sp dp n : Int) (K : az_H → Prop) : Prop := match h.1 a0, h.1 a with
  | .inr (.inl (t, xs)), .inr (.inl (t', ys)) => t = .int ∧ t' = .int ∧ 0 ≤ sp ∧ 0 ≤ dp ∧ 0 ≤ n ∧ sp + n ≤ xs.length ∧ dp + n ≤ ys.length ∧ K (hset h a (cA t' (cpyL xs ys sp.toNat dp.toNat n.toNat)))
  | _, _ => False
def atI (v : Option az_V) (K : Int → Prop) : Prop := match v with
  | some (.inl r) => K r
  | _ => False
def atL (v : Option az_V) (K : Int → Prop) : Prop := match v with
  | some (.inr (.inl r)) => K r
  | _ => False
def atR (v : Option az_V) (K : Option Nat → Prop) : Prop := match v with
  | some (.inr (.inr r)) => K r
  | _ => False
def atV (v : Option az_V) (K : Prop) : Prop := match v with
  | none => K
  | _ => False
def alk (h : az_H) (a : Nat) (K : Int → Prop) : Prop := match h.1 a with
  | .inr (.inl (t, xs)) => t = .short ∧ K xs.length
  | _ => False
def clA (h : az_H) (a n : Nat) (K : Nat → az_H → Prop) : Prop := match h.1 a with
  | .inr (.inl (t, xs)) => t = .int ∧ xs.length ≤ n ∧ K h.2 (hpsh h (cA t xs))
  | _ => False
def isA (h : az_H) (a : Nat) (K : Prop) : Prop := match h.1 a with
  | .inr (.inl (t, _)) => t = .int ∧ K
  | _ => False
theorem alk_e {h : az_H} {a : Nat} {K : Int → Prop} (hF : alk h a K) : ∃ xs : List Int, ∃ n : Int, h.1 a = cA .short xs ∧ (xs.length : Int) = n ∧ K n := by
  unfold alk at hF
  split at hF
  next t xs e => obtain ⟨rfl, hF⟩ := hF; exact ⟨xs, _, e, rfl, hF⟩
  next => exact absurd hF id
theorem clA_e {h : az_H} {a n : Nat} {K : Nat → az_H → Prop} (hF : clA h a n K) : ∃ xs : List Int, h.1 a = cA .int xs ∧ xs.length ≤ n ∧ K h.2 (hpsh h (cA .int xs)) := by
  unfold clA at hF
  split at hF
  next t xs e => obtain ⟨rfl, h1, hF⟩ := hF; exact ⟨xs, e, h1, hF⟩
  next => exact absurd hF id
theorem isA_e {h : az_H} {a : Nat} {K : Prop} (hF : isA h a K) : ∃ xs : List Int, h.1 a = cA .int xs ∧ K := by
  unfold isA at hF
  split at hF
  next t xs e => obtain ⟨rfl, hF⟩ := hF; exact ⟨xs, e, hF⟩
  next => exact absurd hF id
def scL (h : az_H) (K : Int → Prop) : Prop := match h.1 0 with
  | .inr (.inl (t, xs)) => t = .float ∧ K xs.length
  | _ => False
theorem scL_e {h : az_H} {K : Int → Prop} (hF : scL h K) : ∃ xs : List Int, ∃ n : Int, h.1 0 = cA .float xs ∧ (xs.length : Int) = n ∧ K n := by
  unfold scL at hF
  split at hF
  next t xs e => obtain ⟨rfl, hF⟩ := hF; exact ⟨xs, _, e, rfl, hF⟩
  next => exact absurd hF id
def nwG (h : az_H) (K : Nat → az_H → Prop) : Prop := K h.2 (hgrd h)
theorem nwG_e {h : az_H} {K : Nat → az_H → Prop} (hF : nwG h K) : K h.2 (hgrd h) := hF
def nwO (h : az_H) (c : az_C) (K : Nat → az_H → Prop) : Prop := K h.2 (hpsh h c)
theorem nwO_e {h : az_H} {c : az_C} {K : Nat → az_H → Prop} (hF : nwO h c K) : K h.2 (hpsh h c) := hF
section VE
variable {h : az_H} {a ci k : Nat} {t : FieldType} {i x : Int}
theorem rdI_e {K : Int → Prop} (hF : rdI h a ci k K) : ∃ fs v, h.1 a = cO ci fs ∧ fs[k]? = some (vi v) ∧ K v := by
  unfold rdI at hF
  split at hF
  next c fs e =>
    split at hF
    next v e2 => obtain ⟨rfl, hF⟩ := hF; exact ⟨fs, v, e, e2, hF⟩
    next => exact absurd hF id
  next => exact absurd hF id
theorem rdL_e {K : Int → Prop} (hF : rdL h a ci k K) : ∃ fs v, h.1 a = cO ci fs ∧ fs[k]? = some (vl v) ∧ K v := by
  unfold rdL at hF
  split at hF
  next c fs e =>
    split at hF
    next v e2 => obtain ⟨rfl, hF⟩ := hF; exact ⟨fs, v, e, e2, hF⟩
    next => exact absurd hF id
  next => exact absurd hF id
theorem rdO_e {K : Nat → Prop} (hF : rdO h a ci k K) : ∃ fs v, h.1 a = cO ci fs ∧ fs[k]? = some (vo v) ∧ K v := by
  unfold rdO at hF
  split at hF
  next c fs e =>
    split at hF
    next v e2 => obtain ⟨rfl, hF⟩ := hF; exact ⟨fs, v, e, e2, hF⟩
    next => exact absurd hF id
  next => exact absurd hF id
theorem wrF_e {v : az_V} {K : az_H → Prop} (hF : wrF h a ci k t v K) : ∃ fs, h.1 a = cO ci fs ∧ az_fit t v ∧ K (hset h a (cO ci (fs.set k v))) := by
  unfold wrF at hF
  split at hF
  next c fs e => obtain ⟨rfl, h2, hF⟩ := hF; exact ⟨fs, e, h2, hF⟩
  next => exact absurd hF id
theorem ldI_e {K : Int → Prop} (hF : ldI h a t i K) : ∃ xs, h.1 a = cA t xs ∧ 0 ≤ i ∧ i < xs.length ∧ K (xs.getD i.toNat 0) := by
  unfold ldI at hF
  split at hF
  next t' xs e => obtain ⟨rfl, h1, h2, hF⟩ := hF; exact ⟨xs, e, h1, h2, hF⟩
  next => exact absurd hF id
theorem ldR_e {K : Option Nat → Prop} (hF : ldR h a t i K) : ∃ xs, h.1 a = cR t xs ∧ 0 ≤ i ∧ i < xs.length ∧ K (xs.getD i.toNat none) := by
  unfold ldR at hF
  split at hF
  next t' xs e => obtain ⟨rfl, h1, h2, hF⟩ := hF; exact ⟨xs, e, h1, h2, hF⟩
  next => exact absurd hF id
theorem stI_e {K : az_H → Prop} (hF : stI h a t i x K) : ∃ xs, h.1 a = cA t xs ∧ 0 ≤ i ∧ i < xs.length ∧ K (hset h a (cA t (xs.set i.toNat x))) := by
  unfold stI at hF
  split at hF
  next t' xs e => obtain ⟨rfl, h1, h2, hF⟩ := hF; exact ⟨xs, e, h1, h2, hF⟩
  next => exact absurd hF id
theorem stR_e {C : String} {r : Option Nat} {K : az_H → Prop} (hF : stR h a C ci i r K) : ∃ xs, h.1 a = cR (.object C) xs ∧ (∀ b, r = some b → ∃ fs, h.1 b = cO ci fs) ∧ 0 ≤ i ∧ i < xs.length ∧ K (hset h a (cR (.object C) (xs.set i.toNat r))) := by
  unfold stR at hF
  split at hF
  next t' xs e => obtain ⟨rfl, h0, h1, h2, hF⟩ := hF; exact ⟨xs, e, h0, h1, h2, hF⟩
  next => exact absurd hF id
theorem aln_e {K : Int → Prop} (hF : aln h a K) : ∃ n : Int, ((∃ t xs, t ∈ arrT ∧ h.1 a = cA t xs ∧ (xs.length : Int) = n) ∨ ∃ t rs, t ∈ arrT ∧ h.1 a = cR t rs ∧ (rs.length : Int) = n) ∧ (-2147483648 ≤ n ∧ n < 2147483648) ∧ K n := by
  unfold aln at hF
  split at hF
  next t xs e => exact ⟨xs.length, Or.inl ⟨t, xs, hF.1, e, rfl⟩, ⟨by omega, hF.2.1⟩, hF.2.2⟩
  next t xs e => exact ⟨xs.length, Or.inr ⟨t, xs, hF.1, e, rfl⟩, ⟨by omega, hF.2.1⟩, hF.2.2⟩
  next => exact absurd hF id
theorem nnR_e {r : Option Nat} {K : Nat → Prop} (hF : nnR r K) : ∃ a, r = some a ∧ K a := by
  cases r with
  | none => exact absurd hF id
  | some a => exact ⟨a, rfl, hF⟩
theorem rcv_e {K : Prop} (hF : rcv h a ci K) : ∃ fs, h.1 a = cO ci fs ∧ K := by
  unfold rcv at hF
  split at hF
  next c fs e => obtain ⟨rfl, hF⟩ := hF; exact ⟨fs, e, hF⟩
  next => exact absurd hF id
theorem acp_e {a0 : Nat} {sp dp n : Int} {K : az_H → Prop} (hF : acp h a0 a sp dp n K) : ∃ xs ys, h.1 a0 = cA .int xs ∧ h.1 a = cA .int ys ∧ 0 ≤ sp ∧ 0 ≤ dp ∧ 0 ≤ n ∧ sp + n ≤ xs.length ∧ dp + n ≤ ys.length ∧ K (hset h a (cA .int (cpyL xs ys sp.toNat dp.toNat n.toNat))) := by
  unfold acp at hF
  split at hF
  next t xs t' ys e e' => obtain ⟨rfl, rfl, h1⟩ := hF; exact ⟨xs, ys, e, e', h1⟩
  next => exact absurd hF id
theorem atI_e {v : Option az_V} {K : Int → Prop} (hF : atI v K) : ∃ r, v = some (vi r) ∧ K r := by
  unfold atI at hF
  split at hF
  next r => exact ⟨r, rfl, hF⟩
  next => exact absurd hF id
theorem atL_e {v : Option az_V} {K : Int → Prop} (hF : atL v K) : ∃ r, v = some (vl r) ∧ K r := by
  unfold atL at hF
  split at hF
  next r => exact ⟨r, rfl, hF⟩
  next => exact absurd hF id
theorem atR_e {v : Option az_V} {K : Option Nat → Prop} (hF : atR v K) : ∃ r, v = some (vr r) ∧ K r := by
  unfold atR at hF
  split at hF
  next r => exact ⟨r, rfl, hF⟩
  next => exact absurd hF id
theorem atV_e {v : Option az_V} {K : Prop} (hF : atV v K) : v = none ∧ K := by
  unfold atV at hF
  split at hF
  next => exact ⟨rfl, hF⟩
  next => exact absurd hF id
end VE
theorem ite_t {c A B : Prop} {_ : Decidable c} (hF : if c then A else B) (hc : c) : A := by rwa [if_pos hc] at hF
theorem ite_f {c A B : Prop} {_ : Decidable c} (hF : if c then A else B) (hc : ¬ c) : B := by rwa [if_neg hc] at hF
theorem lC_lt {x y : Int} : lCmp x y < 0 ↔ x < y := by unfold lCmp; split <;> (try split) <;> omega
theorem lC_ge {x y : Int} : 0 ≤ lCmp x y ↔ y ≤ x := by unfold lCmp; split <;> (try split) <;> omega
theorem lC_gt {x y : Int} : 0 < lCmp x y ↔ y < x := by unfold lCmp; split <;> (try split) <;> omega
theorem lC_le {x y : Int} : lCmp x y ≤ 0 ↔ x ≤ y := by unfold lCmp; split <;> (try split) <;> omega
theorem lC_eq {x y : Int} : lCmp x y = 0 ↔ x = y := by unfold lCmp; split <;> (try split) <;> omega
section RK
variable {G : az_G} {M : az_M} {d mc ms pc : Nat} {ls : List (Option az_V)} {st : List az_V} {h : az_H} {Q : Option az_V → az_H → Prop}
/-- locals are forgotten -/
def az_kp : List Bool → List (Option az_V) → List (Option az_V)
  | true :: b, o :: t => o :: az_kp b t
  | false :: b, _ :: t => none :: az_kp b t
  | _, _ => []
theorem kp_at {b : List Bool} : ∀ {ls : List (Option az_V)} {j : Nat} {v : az_V}, (az_kp b ls)[j]? = some (some v) → ls[j]? = some (some v) := by
  induction b with
  | nil => intro ls j v h; simp [az_kp] at h
  | cons c b ih =>
    intro ls j v h
    cases ls with
    | nil => cases c <;> simp [az_kp] at h
    | cons o t =>
      cases j with
      | zero => cases c <;> simpa [az_kp] using h
      | succ j =>
        rw [List.getElem?_cons_succ]
        cases c
        · exact ih (by simpa [az_kp] using h)
        · exact ih (by simpa [az_kp] using h)
theorem ez_kp {ls' : List (Option az_V)} (b : List Bool) (hl : az_kp b ls = ls') (kk : ez G M d mc ms pc ls' st h Q) : ez G M d mc ms pc ls st h Q := by
  subst hl
  intro p e R s m args below meth c H locs cells slots LS Z C hR hl hs hL h1 h2 hk
  refine kk p e R s m args below meth c H locs cells slots LS Z C hR (fun v hv => ?_) hs ⟨hL.1, hL.2.1, fun q hq => hL.2.2 q ?_⟩ h1 h2 hk
  · obtain ⟨j, hj⟩ := List.getElem?_of_mem hv
    exact hl v (List.mem_of_getElem? (kp_at hj))
  · obtain ⟨j, v, g1, g2⟩ := mem_ll.mp hq
    exact mem_ll.mpr ⟨j, v, kp_at g1, g2⟩
theorem rz_lshr {x y : Int} (hd : decode M.2.1 pc = .ok (.lshr, 1)) (kk : ez G M d mc ms (pc + 1) ls (vl (lShr x y) :: st) h Q) : ez G M d mc ms pc ls (vi y :: vl x :: st) h Q := by
  refine rz_go (st' := vl (lShr x y) :: st) (fun hl hs => okS_c (i64_rng _) (okS_t (okS_t hs))) (fun p e R s m args below meth c H locs cells slots LS Z C hl hs hL k => ?_) kk
  refine lv_lshr C.1 C.2.1 hd rfl ?_
  rw [List.map_cons, show az_cv G (vl (lShr x y)) = .long (Int64.ofInt x >>> ((Int32.ofInt y).toInt64 &&& 63)) from by simp only [az_cv, lShr, Int64.ofInt_toInt]] at k
  exact k
/-- in class own the entry index is field k of class ci, to be read -/
def az_fr (own : String) (index ci k : Nat) : Prop :=
  ∃ (C : String) (T : u_T) (N : Nat) (ty : Nat → FieldType), az_cls ci C T N ty ∧ k < N ∧ Cond.fieldLink own index (T k).1 (T k).2.1 (T k).2.2.1 ∈ lw_tbl
theorem rz_getg {a index ci k : Nat} {fs : List az_V} {v : az_V} (hd : decode M.2.1 pc = .ok (.getfield index, 3)) (hf : az_fr M.1.cls index ci k) (hg : h.1 a = cO ci fs) (hv : fs[k]? = some v)
    (kk : ez G M d mc ms (pc + 3) ls (v :: st) h Q) : ez G M d mc ms pc ls (vo a :: st) h Q := by
  intro p e R s m args below meth c H locs cells slots LS Z C hR hl hs hL h1 h2 hk
  obtain ⟨Cn, T, N, ty, ⟨hc, hin, hty, hnm⟩, hkN, hlink⟩ := hf
  have hreg : az_reg (h.1 a) := by rw [hg]; exact ⟨_, hc⟩
  obtain ⟨g1, g2⟩ := (rel_g hR) a hreg
  have hok : az_ok v := by
    have h3 := ((rel_r hR) a g1 g2).2
    rw [hg] at h3
    exact h3.1 v (List.mem_of_getElem? hv)
  have he : (az_ws G h)[a - 16]? = some (az_ad G a, .inr (ci, fs.map (az_cv G))) := by
    rw [ws_get g1 g2, hg, ad_of g1]
    rfl
  refine va_get (Ts := u_ws Cn T N) C.1 C.2.1 (fun w hw => C.2.2.2.2.2.1 w (hin w hw) (good_ws hw)) (fun _ h => h) C.2.2.2.2.1 (rel_K hR) (rel_P hR) (a - 16) he hc k hkN (C.2.2.2.2.2.1 _ hlink rfl) (fun _ h => h) (v := az_cv G v) (by rw [List.getElem?_map, hv]; rfl) hd ?_
  exact kk p e R s m args below meth c H locs cells slots LS Z C hR hl (okS_c hok (okS_t hs)) hL h1 h2 hk
end RK
