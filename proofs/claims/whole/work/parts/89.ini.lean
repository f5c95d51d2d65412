/-! THE START, and the law -/
def s00 (a : Nat) (_ : Int) : Int := match a with | 67 => -1 | _ => 0
theorem rgm_cst {α : Type} (n : Nat) (c : α) : rgm n (fun _ => c) = List.replicate n c := by
  unfold rgm
  rw [List.map_const', List.length_range]
theorem A0_eq (i : Nat) : rgm (n0 i) (s00 i) = A0 i := rgm_cst (n0 i) (match i with | 67 => -1 | _ => 0)
theorem B0_eq (i : Nat) : rgm (m0 i) (fun _ => none) = B0 i := rgm_cst (m0 i) none
theorem s00_z {a : Nat} {k : Int} (h : a ≠ 67) : s00 a k = 0 := by
  unfold s00
  split
  · exact absurd rfl h
  · rfl
theorem ini_ok (xs : List Int) (h : az_H) (h2 : h.2 = 89) (hc : ∀ i, i < 16 → h.1 i = con0 xs i) (hu : ∀ i, 89 ≤ i → h.1 i = cO 999 []) : Inv xs (PH h (fun _ _ => 0) A0 B0) := by
  refine ⟨h, s00, fun _ _ => none, fun _ => none, fun _ => none, fun _ => (0, fun _ => 0, fun _ => 0, fun _ => 0), ?_, hc, ⟨by omega, fun i hi => hu i (by omega)⟩, ⟨fun k _ _ => ⟨fun _ => rfl, fun c z => by cases z⟩, fun i _ _ => ⟨fun _ => rfl, fun q z => by cases z⟩⟩, ⟨fun k _ _ => ⟨fun _ => rfl, fun c z => by cases z⟩, fun i _ _ => ⟨fun _ => (show (-1 : Int) < 0 by decide), fun q z => by cases z⟩⟩, jT_0 rfl rfl, fun k _ _ => ⟨fun _ => rfl, fun c z => (by cases z), Int.le_refl _, by show (0 : Int) ≤ 24; decide⟩, ⟨rfl, ⟨Int.le_refl _, by show (0 : Int) ≤ 8; decide⟩, fun i i0 i1 => ?_⟩, fun i _ _ => ⟨rfl, Int.le_refl _, by show (0 : Int) ≤ 1000000; decide⟩, ⟨fun k _ _ => ⟨⟨Int.le_refl _, by show (0 : Int) < 16777216; decide⟩, fun l _ _ => ?_⟩, rfl, rfl⟩, ⟨fun k _ _ => rfl, fun k _ _ => ⟨by show (-2147483648 : Int) ≤ 0; decide, by show (0 : Int) < 2147483648; decide⟩, rfl⟩, ⟨rfl, ⟨Int.le_refl _, by show (0 : Int) ≤ 30; decide⟩, fun i i0 i1 => ?_⟩, ⟨rfl, ⟨Int.le_refl _, by show (0 : Int) ≤ 20; decide⟩, fun i i0 i1 => ?_⟩, ⟨rfl, ⟨Int.le_refl _, by show (0 : Int) ≤ 8; decide⟩, fun i i0 i1 => ?_⟩, rfl⟩
  · refine Prod.ext (funext fun i => ?_) rfl
    show (if 16 ≤ i ∧ i < 89 then pcx i (fun _ => 0) (A0 i) (B0 i) else h.1 i) = if 16 ≤ i ∧ i < 89 then pcx i (fun k => s00 i k) (rgm (n0 i) (s00 i)) (rgm (m0 i) (fun _ => none)) else h.1 i
    rw [A0_eq, B0_eq]
    by_cases c : i = 67
    · subst c
      rfl
    · rw [show (fun k : Nat => s00 i (k : Int)) = fun _ => 0 from funext fun k => s00_z c]
  · have : i < (0 : Int) := i1
    omega
  · show (0 : Int) = 0 / 2 ^ l.toNat % 2
    rw [Int.zero_ediv, Int.zero_emod]
  · have : i < (0 : Int) := i1
    omega
  · have : i < (0 : Int) := i1
    omega
  · have : i < (0 : Int) := i1
    omega
theorem law_ok (G : az_G) (xs : List Int) : lawOK xs (Inv xs) G 299 := by
  refine ⟨?_, fun a b c e _ _ _ _ => st_feed (D := 297), fun a ha => st_cut (D := 297) ha, fun a _ => st_method (D := 229), st_rule (D := 239), fun a b c e _ _ hc _ => st_actor (D := 295) hc, fun a b c e _ _ _ _ => st_call (D := 287), st_start (D := 296), fun a _ => st_state (D := 298), fun a _ => st_holds (D := 294), fun a b c e _ _ _ _ => st_choice (D := 297), st_fresh (D := 295), fun a b _ _ => st_every (D := 285), st_states (D := 298), fun a b c _ _ _ => st_draw (D := 285), fun a b c _ _ _ => st_row (D := 297) (lOr_rg _ _).1 (lOr_rg _ _).2, fun a b _ _ => st_least (D := 285), fun a b _ _ => st_at (D := 296), fun a b _ _ => st_breaks (D := 286), fun a b _ _ => st_profit (D := 286), fun a b _ hb => st_met (D := 296) hb, fun a b _ _ => st_kept (D := 296), fun a ha => st_told (D := 296) ha⟩
  rintro hh ⟨h, s, r, cs, hk, ru, rfl, hc, -⟩
  exact LH_ps hc
