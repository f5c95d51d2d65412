/-! the two constructors -/
def A0 : Nat → List Int := fun i => List.replicate (match i with
  | 18 => 208 | 20 => 208 | 21 => 208 | 24 => 6 | 25 => 4 | 29 => 19 | 31 => 19 | 32 => 19 | 33 => 19 | 34 => 32 | 37 => 7600 | 38 => 400 | 39 => 400 | 40 => 400 | 41 => 1024 | 43 => 12 | 46 => 96 | 47 => 8 | 49 => 240 | 50 => 20 | 52 => 12 | 53 => 19
  | 55 => 208 | 56 => 4500 | 57 => 4500 | 58 => 4500 | 59 => 15 | 60 => 6 | 61 => 6 | 62 => 300 | 63 => 6 | 64 => 19 | 65 => 19 | 66 => 4 | 67 => 4 | 68 => 4 | 69 => 144 | 70 => 300 | 71 => 3 | 72 => 3 | 73 => 3 | 74 => 3 | 75 => 57 | 76 => 30 | 77 => 30 | 78 => 30 | 79 => 30 | 80 => 20 | 81 => 240 | 82 => 12 | 83 => 8 | 84 => 96 | 85 => 7619 | 86 => 401 | 87 => 401 | 88 => 401
  | _ => 0) (match i with | 67 => -1 | _ => 0)
def B0 : Nat → List (Option Nat) := fun i => List.replicate (match i with
  | 23 => 6 | 26 => 4 | 42 => 30 | 51 => 8 | _ => 0) none
section INI
variable {G : az_G} {d : Nat} {Q : Option az_V → az_H → Prop} {h h0 : az_H}
/-- the cells 17 to n - 1 are made -/
def iS (h0 : az_H) (n : Nat) (h : az_H) : Prop := h.2 = n ∧ (∀ i, 17 ≤ i → i < n → h.1 i = pcx i (fun _ => 0) (A0 i) (B0 i)) ∧ (∀ i, i < 16 → h.1 i = h0.1 i) ∧ ∀ i, n ≤ i → h.1 i = h0.1 i
set_option maxRecDepth 20000 in
set_option maxHeartbeats 4000000 in
theorem iX8 (hS : iS h0 17 h) (hq : ∀ h', iS h0 19 h' → h'.1 16 = h.1 16 → Q none h') : cz G mX8_init (d + 3) 1 208 [vo h.2] (hpsh h (cO 8 [vn, vi 0, vi 0, vi 0, vi 0, vi 0])) Q := by
  obtain ⟨h1, h2⟩ := h
  obtain ⟨hs, s1, s2, s3⟩ := hS
  have hs : h2 = 17 := hs
  subst hs
  refine vX8_init ?_
  repeat (first
    | with_reducible refine nwO_i ?_
    | with_reducible refine nwG_i ?_
    | with_reducible refine atV_i ?_
    | with_reducible refine atI_i ?_
    | (with_reducible apply rdO_i
       · exact rfl
       · exact rfl)
    | (with_reducible apply rdI_i
       · exact rfl
       · exact rfl)
    | (with_reducible apply wrF_i
       · exact rfl
       · exact True.intro)
    | with_reducible refine vX8_init ?_
    | with_reducible refine vX5_init ?_
    | with_reducible refine vX9_init ?_
    | with_reducible refine vX4_init ?_
    | with_reducible refine vX0_init ?_
    | with_reducible refine vX7_init ?_
    | with_reducible refine vX3_init ?_
    | with_reducible refine vX2_init ?_
    | with_reducible refine vX6_init ?_
    | with_reducible refine sJ9_max ?_
    | refine ⟨by decide, by decide, ?_⟩)
  refine hq _ ⟨rfl, fun i i1 i2 => ?_, fun i i1 => ?_, fun i i1 => ?_⟩ rfl
  · rcases (show i = 17 ∨ i = 18 by omega) with rfl | rfl
    · rfl
    · rfl
  · rw [← s2 i i1]
    simp [hset, hpsh, hgrd, show ¬ i = 17 by omega, show ¬ i = 18 by omega]
  · rw [← s3 i (by omega)]
    simp [hset, hpsh, hgrd, show ¬ i = 17 by omega, show ¬ i = 18 by omega]
set_option maxRecDepth 20000 in
set_option maxHeartbeats 4000000 in
theorem iX5 (hS : iS h0 19 h) (hq : ∀ h', iS h0 22 h' → h'.1 16 = h.1 16 → Q none h') : cz G mX5_init (d + 3) 2 416 [vo h.2, vo 17] (hpsh h (cO 5 [vn, vn, vn, vi 0, vi 0, vi 0, vi 0])) Q := by
  obtain ⟨h1, h2⟩ := h
  obtain ⟨hs, s1, s2, s3⟩ := hS
  have hs : h2 = 19 := hs
  subst hs
  refine vX5_init ?_
  repeat (first
    | with_reducible refine nwO_i ?_
    | with_reducible refine nwG_i ?_
    | with_reducible refine atV_i ?_
    | with_reducible refine atI_i ?_
    | (with_reducible apply rdO_i
       · exact rfl
       · exact rfl)
    | (with_reducible apply rdI_i
       · exact rfl
       · exact rfl)
    | (with_reducible apply wrF_i
       · exact rfl
       · exact True.intro)
    | with_reducible refine vX8_init ?_
    | with_reducible refine vX5_init ?_
    | with_reducible refine vX9_init ?_
    | with_reducible refine vX4_init ?_
    | with_reducible refine vX0_init ?_
    | with_reducible refine vX7_init ?_
    | with_reducible refine vX3_init ?_
    | with_reducible refine vX2_init ?_
    | with_reducible refine vX6_init ?_
    | with_reducible refine sJ9_max ?_
    | refine ⟨by decide, by decide, ?_⟩)
  refine hq _ ⟨rfl, fun i i1 i2 => ?_, fun i i1 => ?_, fun i i1 => ?_⟩ rfl
  · by_cases hi : i < 19
    · rw [← s1 i i1 hi]
      simp [hset, hpsh, hgrd, show ¬ i = 19 by omega, show ¬ i = 20 by omega, show ¬ i = 21 by omega]
    · rcases (show i = 19 ∨ i = 20 ∨ i = 21 by omega) with rfl | rfl | rfl
      · rfl
      · rfl
      · rfl
  · rw [← s2 i i1]
    simp [hset, hpsh, hgrd, show ¬ i = 19 by omega, show ¬ i = 20 by omega, show ¬ i = 21 by omega]
  · rw [← s3 i (by omega)]
    simp [hset, hpsh, hgrd, show ¬ i = 19 by omega, show ¬ i = 20 by omega, show ¬ i = 21 by omega]
set_option maxRecDepth 20000 in
set_option maxHeartbeats 4000000 in
theorem iX9 (hS : iS h0 22 h) (hq : ∀ h', iS h0 27 h' → h'.1 16 = h.1 16 → Q none h') : cz G mX9_init (d + 3) 4 20 [vo h.2] (hpsh h (cO 9 [vn, vn, vn, vn, vi 0, vi 0])) Q := by
  obtain ⟨h1, h2⟩ := h
  obtain ⟨hs, s1, s2, s3⟩ := hS
  have hs : h2 = 22 := hs
  subst hs
  refine vX9_init ?_
  repeat (first
    | with_reducible refine nwO_i ?_
    | with_reducible refine nwG_i ?_
    | with_reducible refine atV_i ?_
    | with_reducible refine atI_i ?_
    | (with_reducible apply rdO_i
       · exact rfl
       · exact rfl)
    | (with_reducible apply rdI_i
       · exact rfl
       · exact rfl)
    | (with_reducible apply wrF_i
       · exact rfl
       · exact True.intro)
    | with_reducible refine vX8_init ?_
    | with_reducible refine vX5_init ?_
    | with_reducible refine vX9_init ?_
    | with_reducible refine vX4_init ?_
    | with_reducible refine vX0_init ?_
    | with_reducible refine vX7_init ?_
    | with_reducible refine vX3_init ?_
    | with_reducible refine vX2_init ?_
    | with_reducible refine vX6_init ?_
    | with_reducible refine sJ9_max ?_
    | refine ⟨by decide, by decide, ?_⟩)
  refine hq _ ⟨rfl, fun i i1 i2 => ?_, fun i i1 => ?_, fun i i1 => ?_⟩ rfl
  · by_cases hi : i < 22
    · rw [← s1 i i1 hi]
      simp [hset, hpsh, hgrd, show ¬ i = 22 by omega, show ¬ i = 23 by omega, show ¬ i = 24 by omega, show ¬ i = 25 by omega, show ¬ i = 26 by omega]
    · rcases (show i = 22 ∨ i = 23 ∨ i = 24 ∨ i = 25 ∨ i = 26 by omega) with rfl | rfl | rfl | rfl | rfl
      · rfl
      · rfl
      · rfl
      · rfl
      · rfl
  · rw [← s2 i i1]
    simp [hset, hpsh, hgrd, show ¬ i = 22 by omega, show ¬ i = 23 by omega, show ¬ i = 24 by omega, show ¬ i = 25 by omega, show ¬ i = 26 by omega]
  · rw [← s3 i (by omega)]
    simp [hset, hpsh, hgrd, show ¬ i = 22 by omega, show ¬ i = 23 by omega, show ¬ i = 24 by omega, show ¬ i = 25 by omega, show ¬ i = 26 by omega]
set_option maxRecDepth 20000 in
set_option maxHeartbeats 4000000 in
theorem iX4 (hS : iS h0 27 h) (hq : ∀ h', iS h0 35 h' → h'.1 16 = h.1 16 → Q none h') : cz G mX4_init (d + 3) 7 115 [vo h.2, vo 22] (hpsh h (cO 4 [vn, vn, vn, vn, vn, vi 0])) Q := by
  obtain ⟨h1, h2⟩ := h
  obtain ⟨hs, s1, s2, s3⟩ := hS
  have hs : h2 = 27 := hs
  subst hs
  refine vX4_init ?_
  repeat (first
    | with_reducible refine nwO_i ?_
    | with_reducible refine nwG_i ?_
    | with_reducible refine atV_i ?_
    | with_reducible refine atI_i ?_
    | (with_reducible apply rdO_i
       · exact rfl
       · exact rfl)
    | (with_reducible apply rdI_i
       · exact rfl
       · exact rfl)
    | (with_reducible apply wrF_i
       · exact rfl
       · exact True.intro)
    | with_reducible refine vX8_init ?_
    | with_reducible refine vX5_init ?_
    | with_reducible refine vX9_init ?_
    | with_reducible refine vX4_init ?_
    | with_reducible refine vX0_init ?_
    | with_reducible refine vX7_init ?_
    | with_reducible refine vX3_init ?_
    | with_reducible refine vX2_init ?_
    | with_reducible refine vX6_init ?_
    | with_reducible refine sJ9_max ?_
    | refine ⟨by decide, by decide, ?_⟩)
  refine hq _ ⟨rfl, fun i i1 i2 => ?_, fun i i1 => ?_, fun i i1 => ?_⟩ rfl
  · by_cases hi : i < 27
    · rw [← s1 i i1 hi]
      simp [hset, hpsh, hgrd, show ¬ i = 27 by omega, show ¬ i = 28 by omega, show ¬ i = 29 by omega, show ¬ i = 30 by omega, show ¬ i = 31 by omega, show ¬ i = 32 by omega, show ¬ i = 33 by omega, show ¬ i = 34 by omega]
    · rcases (show i = 27 ∨ i = 28 ∨ i = 29 ∨ i = 30 ∨ i = 31 ∨ i = 32 ∨ i = 33 ∨ i = 34 by omega) with rfl | rfl | rfl | rfl | rfl | rfl | rfl | rfl
      · rfl
      · rfl
      · rfl
      · rfl
      · rfl
      · rfl
      · rfl
      · rfl
  · rw [← s2 i i1]
    simp [hset, hpsh, hgrd, show ¬ i = 27 by omega, show ¬ i = 28 by omega, show ¬ i = 29 by omega, show ¬ i = 30 by omega, show ¬ i = 31 by omega, show ¬ i = 32 by omega, show ¬ i = 33 by omega, show ¬ i = 34 by omega]
  · rw [← s3 i (by omega)]
    simp [hset, hpsh, hgrd, show ¬ i = 27 by omega, show ¬ i = 28 by omega, show ¬ i = 29 by omega, show ¬ i = 30 by omega, show ¬ i = 31 by omega, show ¬ i = 32 by omega, show ¬ i = 33 by omega, show ¬ i = 34 by omega]
set_option maxRecDepth 20000 in
set_option maxHeartbeats 4000000 in
theorem iX7 (hS : iS h0 35 h) (hq : ∀ h', iS h0 44 h' → h'.1 16 = h.1 16 → Q none h') : cz G mX7_init (d + 3) 8 9872 [vo h.2, vo 27] (hpsh h (cO 7 [vn, vn, vn, vn, vi 0, vi 0])) Q := by
  obtain ⟨h1, h2⟩ := h
  obtain ⟨hs, s1, s2, s3⟩ := hS
  have hs : h2 = 35 := hs
  subst hs
  refine vX7_init ?_
  repeat (first
    | with_reducible refine nwO_i ?_
    | with_reducible refine nwG_i ?_
    | with_reducible refine atV_i ?_
    | with_reducible refine atI_i ?_
    | (with_reducible apply rdO_i
       · exact rfl
       · exact rfl)
    | (with_reducible apply rdI_i
       · exact rfl
       · exact rfl)
    | (with_reducible apply wrF_i
       · exact rfl
       · exact True.intro)
    | with_reducible refine vX8_init ?_
    | with_reducible refine vX5_init ?_
    | with_reducible refine vX9_init ?_
    | with_reducible refine vX4_init ?_
    | with_reducible refine vX0_init ?_
    | with_reducible refine vX7_init ?_
    | with_reducible refine vX3_init ?_
    | with_reducible refine vX2_init ?_
    | with_reducible refine vX6_init ?_
    | with_reducible refine sJ9_max ?_
    | refine ⟨by decide, by decide, ?_⟩)
  refine hq _ ⟨rfl, fun i i1 i2 => ?_, fun i i1 => ?_, fun i i1 => ?_⟩ rfl
  · by_cases hi : i < 35
    · rw [← s1 i i1 hi]
      simp [hset, hpsh, hgrd, show ¬ i = 35 by omega, show ¬ i = 36 by omega, show ¬ i = 37 by omega, show ¬ i = 38 by omega, show ¬ i = 39 by omega, show ¬ i = 40 by omega, show ¬ i = 41 by omega, show ¬ i = 42 by omega, show ¬ i = 43 by omega]
    · rcases (show i = 35 ∨ i = 36 ∨ i = 37 ∨ i = 38 ∨ i = 39 ∨ i = 40 ∨ i = 41 ∨ i = 42 ∨ i = 43 by omega) with rfl | rfl | rfl | rfl | rfl | rfl | rfl | rfl | rfl
      · rfl
      · rfl
      · rfl
      · rfl
      · rfl
      · rfl
      · rfl
      · rfl
      · rfl
  · rw [← s2 i i1]
    simp [hset, hpsh, hgrd, show ¬ i = 35 by omega, show ¬ i = 36 by omega, show ¬ i = 37 by omega, show ¬ i = 38 by omega, show ¬ i = 39 by omega, show ¬ i = 40 by omega, show ¬ i = 41 by omega, show ¬ i = 42 by omega, show ¬ i = 43 by omega]
  · rw [← s3 i (by omega)]
    simp [hset, hpsh, hgrd, show ¬ i = 35 by omega, show ¬ i = 36 by omega, show ¬ i = 37 by omega, show ¬ i = 38 by omega, show ¬ i = 39 by omega, show ¬ i = 40 by omega, show ¬ i = 41 by omega, show ¬ i = 42 by omega, show ¬ i = 43 by omega]
set_option maxRecDepth 20000 in
set_option maxHeartbeats 4000000 in
theorem iX2 (hS : iS h0 44 h) (hq : ∀ h', iS h0 48 h' → h'.1 16 = h.1 16 → Q none h') : cz G mX2_init (d + 3) 3 484 [vo h.2, vo 35, vo 22] (hpsh h (cO 2 [vn, vn, vn, vi 0])) Q := by
  obtain ⟨h1, h2⟩ := h
  obtain ⟨hs, s1, s2, s3⟩ := hS
  have hs : h2 = 44 := hs
  subst hs
  refine vX2_init ?_
  repeat (first
    | with_reducible refine nwO_i ?_
    | with_reducible refine nwG_i ?_
    | with_reducible refine atV_i ?_
    | with_reducible refine atI_i ?_
    | (with_reducible apply rdO_i
       · exact rfl
       · exact rfl)
    | (with_reducible apply rdI_i
       · exact rfl
       · exact rfl)
    | (with_reducible apply wrF_i
       · exact rfl
       · exact True.intro)
    | with_reducible refine vX8_init ?_
    | with_reducible refine vX5_init ?_
    | with_reducible refine vX9_init ?_
    | with_reducible refine vX4_init ?_
    | with_reducible refine vX0_init ?_
    | with_reducible refine vX7_init ?_
    | with_reducible refine vX3_init ?_
    | with_reducible refine vX2_init ?_
    | with_reducible refine vX6_init ?_
    | with_reducible refine sJ9_max ?_
    | refine ⟨by decide, by decide, ?_⟩)
  refine hq _ ⟨rfl, fun i i1 i2 => ?_, fun i i1 => ?_, fun i i1 => ?_⟩ rfl
  · by_cases hi : i < 44
    · rw [← s1 i i1 hi]
      simp [hset, hpsh, hgrd, show ¬ i = 44 by omega, show ¬ i = 45 by omega, show ¬ i = 46 by omega, show ¬ i = 47 by omega]
    · rcases (show i = 44 ∨ i = 45 ∨ i = 46 ∨ i = 47 by omega) with rfl | rfl | rfl | rfl
      · rfl
      · rfl
      · rfl
      · rfl
  · rw [← s2 i i1]
    simp [hset, hpsh, hgrd, show ¬ i = 44 by omega, show ¬ i = 45 by omega, show ¬ i = 46 by omega, show ¬ i = 47 by omega]
  · rw [← s3 i (by omega)]
    simp [hset, hpsh, hgrd, show ¬ i = 44 by omega, show ¬ i = 45 by omega, show ¬ i = 46 by omega, show ¬ i = 47 by omega]
set_option maxRecDepth 20000 in
set_option maxHeartbeats 4000000 in
theorem iX6 (hS : iS h0 48 h) (hq : ∀ h', iS h0 51 h' → h'.1 16 = h.1 16 → Q none h') : cz G mX6_init (d + 3) 2 480 [vo h.2, vi 20] (hpsh h (cO 6 [vi 0, vn, vn, vi 0])) Q := by
  obtain ⟨h1, h2⟩ := h
  obtain ⟨hs, s1, s2, s3⟩ := hS
  have hs : h2 = 48 := hs
  subst hs
  refine vX6_init ?_
  repeat (first
    | with_reducible refine nwO_i ?_
    | with_reducible refine nwG_i ?_
    | with_reducible refine atV_i ?_
    | with_reducible refine atI_i ?_
    | (with_reducible apply rdO_i
       · exact rfl
       · exact rfl)
    | (with_reducible apply rdI_i
       · exact rfl
       · exact rfl)
    | (with_reducible apply wrF_i
       · exact rfl
       · exact True.intro)
    | with_reducible refine vX8_init ?_
    | with_reducible refine vX5_init ?_
    | with_reducible refine vX9_init ?_
    | with_reducible refine vX4_init ?_
    | with_reducible refine vX0_init ?_
    | with_reducible refine vX7_init ?_
    | with_reducible refine vX3_init ?_
    | with_reducible refine vX2_init ?_
    | with_reducible refine vX6_init ?_
    | with_reducible refine sJ9_max ?_
    | refine ⟨by decide, by decide, ?_⟩)
  refine hq _ ⟨rfl, fun i i1 i2 => ?_, fun i i1 => ?_, fun i i1 => ?_⟩ rfl
  · by_cases hi : i < 48
    · rw [← s1 i i1 hi]
      simp [hset, hpsh, hgrd, show ¬ i = 48 by omega, show ¬ i = 49 by omega, show ¬ i = 50 by omega]
    · rcases (show i = 48 ∨ i = 49 ∨ i = 50 by omega) with rfl | rfl | rfl
      · rfl
      · rfl
      · rfl
  · rw [← s2 i i1]
    simp [hset, hpsh, hgrd, show ¬ i = 48 by omega, show ¬ i = 49 by omega, show ¬ i = 50 by omega]
  · rw [← s3 i (by omega)]
    simp [hset, hpsh, hgrd, show ¬ i = 48 by omega, show ¬ i = 49 by omega, show ¬ i = 50 by omega]
end INI
