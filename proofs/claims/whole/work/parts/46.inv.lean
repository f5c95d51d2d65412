/-! THE INVARIANT: class and reference tell the same -/
def jH (h : az_H) : Prop := 89 ≤ h.2 ∧ ∀ i, h.2 ≤ i → h.1 i = cO 999 []
def jT (s : Nat → Int → Int) : Prop := s 17 1 = s 54 1 ∧ (0 ≤ s 54 1 ∧ s 54 1 ≤ 208) ∧ ∀ i, 0 ≤ i → i < s 54 1 → s 18 i = s 55 i ∧ 32 ≤ s 55 i ∧ s 55 i ≤ 126
def jL (h : az_H) (s : Nat → Int → Int) (r : Nat → Int → Option Nat) (cs : Int → Option Cd) : Prop := ∀ k, 0 ≤ k → k < 6 → (cs k = none → s 60 k = 0) ∧ (∀ c, cs k = some c → ∃ b, r 23 k = some b ∧ cCode h b (s 60 k) c) ∧ 0 ≤ s 60 k ∧ s 60 k ≤ 24
def jR (h : az_H) (s : Nat → Int → Int) (r : Nat → Int → Option Nat) (ru : Int → Cd) : Prop := s 16 10 = s 54 13 ∧ (0 ≤ s 54 13 ∧ s 54 13 ≤ 8) ∧ ∀ i, 0 ≤ i → i < s 54 13 → wfR (ru i) ∧ rCode s (6 + i) (ru i) ∧ ∃ b lv, r 51 i = some b ∧ cCode h b lv (ru i)
def jA (s : Nat → Int → Int) : Prop := ∀ i, 0 ≤ i → i < 4 → s 25 i = s 66 i ∧ 0 ≤ s 66 i ∧ s 66 i ≤ 1000000
def jM (s : Nat → Int → Int) : Prop := metR (s 24) (s 69) ∧ s 22 4 = 0 ∧ s 54 29 = 0
def jS (s : Nat → Int → Int) : Prop := eq19 (s 53) (s 65) ∧ rgN (s 65) ∧ s 16 11 = s 54 27
def jC (h : az_H) (s : Nat → Int → Int) (r : Nat → Int → Option Nat) : Prop := s 35 4 = s 54 40 ∧ (0 ≤ s 54 40 ∧ s 54 40 ≤ 30) ∧ ∀ i, 0 ≤ i → i < s 54 40 → (0 ≤ s 76 i ∧ s 76 i < 4) ∧ (0 ≤ s 77 i ∧ s 77 i < 6) ∧ ∃ b, r 42 i = some b ∧ 89 ≤ b ∧ h.1 b = cO 0 [vi (s 76 i), vi (s 77 i), vi (s 78 i), vi (s 79 i)]
/-- rows: how many, of how many at most, lengths and entries, entries below m -/
def jQ (n n' m M : Int) (l l' g g' : Int → Int) : Prop := n = n' ∧ (0 ≤ n' ∧ n' ≤ M) ∧ ∀ i, 0 ≤ i → i < n' → l i = l' i ∧ (0 ≤ l' i ∧ l' i ≤ 12) ∧ ∀ j, 0 ≤ j → j < l' i → g (12 * i + j) = g' (12 * i + j) ∧ 0 ≤ g' (12 * i + j) ∧ g' (12 * i + j) < m
def jW (s : Nat → Int → Int) : Prop := jQ (s 48 3) (s 54 45) (s 54 40) 20 (s 50) (s 80) (s 49) (s 81)
def jK (s : Nat → Int → Int) : Prop := jQ (s 45 3) (s 54 50) (s 54 40) 8 (s 47) (s 83) (s 46) (s 84)
def jE (s : Nat → Int → Int) : Prop := s 35 5 = s 54 53
def J (h : az_H) (s : Nat → Int → Int) (r : Nat → Int → Option Nat) (cs : Int → Option Cd) (hk : Int → Option (Int × Int)) (ru : Int → Cd) : Prop :=
  jH h ∧ CEnv h r cs hk ∧ REnv s cs hk ∧ jT s ∧ jL h s r cs ∧ jR h s r ru ∧ jA s ∧ jM s ∧ jS s ∧ jC h s r ∧ jW s ∧ jK s ∧ jE s
def Inv (xs : List Int) (hh : az_H) : Prop := ∃ h s r cs hk ru, hh = PS h s r ∧ (∀ i, i < 16 → h.1 i = con0 xs i) ∧ J h s r cs hk ru
/-! frames -/
def psA (a : Nat) : Prop := a = 16 ∨ a = 18 ∨ a = 25 ∨ a = 35 ∨ (45 ≤ a ∧ a ≤ 50) ∨ a = 53 ∨ (55 ≤ a ∧ a ≤ 61) ∨ (65 ≤ a ∧ a ≤ 68) ∨ (76 ≤ a ∧ a ≤ 81) ∨ a = 83 ∨ a = 84
def psK (k : Int) : Prop := k = 1 ∨ k = 13 ∨ k = 27 ∨ k = 40 ∨ k = 45 ∨ k = 50 ∨ k = 53
/-- only what nothing rests on has changed (and what was met) -/
def sc (s s' : Nat → Int → Int) : Prop := (∀ a, psA a → s' a = s a) ∧ s' 17 1 = s 17 1 ∧ ∀ k, psK k → s' 54 k = s 54 k
theorem sc_rf {s : Nat → Int → Int} : sc s s := ⟨fun _ _ => rfl, rfl, fun _ _ => rfl⟩
theorem sc_tr {s s' s'' : Nat → Int → Int} (h1 : sc s s') (h2 : sc s' s'') : sc s s'' := ⟨fun a x => (h2.1 a x).trans (h1.1 a x), h2.2.1.trans h1.2.1, fun k x => (h2.2.2 k x).trans (h1.2.2 k x)⟩
theorem sc_M {q : Nat} {s s' : Nat → Int → Int} (hq : 31 ≤ q) (h1 : frM q s s') : sc s s' := ⟨fun a x => h1 a (by unfold psA at x; omega) (by unfold psA at x; omega) (by unfold psA at x; omega) (by unfold psA at x; omega) (by unfold psA at x; omega) (by unfold psA at x; omega), by rw [h1 17 (by decide) (by decide) (by decide) (by decide) (by decide) (by omega)], fun k _ => by rw [h1 54 (by decide) (by decide) (by decide) (by decide) (by decide) (by omega)]⟩
theorem sc_X {s s' : Nat → Int → Int} (h1 : frX s s') : sc s s' := ⟨fun a x => h1.1 a (by unfold psA at x; omega) (by unfold psA at x; omega) (by unfold psA at x; omega), by rw [h1.1 17 (by decide) (by decide) (by decide)], fun k x => h1.2 k (by unfold psK at x; omega) (by unfold psK at x; omega) (by unfold psK at x; omega) (by unfold psK at x; omega)⟩
theorem sc_up {s : Nat → Int → Int} {b : Nat} {g : Int → Int} (hb : ¬ psA b) (h17 : b ≠ 17) (h54 : b ≠ 54) : sc s (up s b g) := ⟨fun a x => up_ne (fun e => hb (by rw [← e]; exact x)), by rw [up_ne (Ne.symm h17)], fun k _ => by rw [up_ne (Ne.symm h54)]⟩
theorem sc_uf {s : Nat → Int → Int} {b : Nat} {k v : Int} (hb : ¬ psA b) (h17 : b ≠ 17) (h54 : b ≠ 54) : sc s (uf s b k v) := sc_up hb h17 h54
theorem sc_54 {s : Nat → Int → Int} {k v : Int} (hk : ¬ psK k) : sc s (uf s 54 k v) := ⟨fun a x => up_ne (by unfold psA at x; omega), rfl, fun j x => by
  show ud (s 54) k v j = _
  exact ud_ne (fun e => hk (by rw [← e]; exact x))⟩
theorem sc_17 {s : Nat → Int → Int} {k v : Int} (hk : k ≠ 1) : sc s (uf s 17 k v) := ⟨fun a x => up_ne (by unfold psA at x; omega), by
  show ud (s 17) k v 1 = _
  exact ud_ne (Ne.symm hk), fun j x => rfl⟩
theorem jT_e {s s' : Nat → Int → Int} (e1 : s' 17 1 = s 17 1) (e2 : s' 54 1 = s 54 1) (e3 : s' 18 = s 18) (e4 : s' 55 = s 55) (hj : jT s) : jT s' := by unfold jT at *; rw [e1, e2, e3, e4]; exact hj
theorem jL_e {h : az_H} {s s' : Nat → Int → Int} {r : Nat → Int → Option Nat} {cs : Int → Option Cd} (e1 : s' 60 = s 60) (hj : jL h s r cs) : jL h s' r cs := by unfold jL at *; rw [e1]; exact hj
theorem jR_e {h : az_H} {s s' : Nat → Int → Int} {r : Nat → Int → Option Nat} {ru : Int → Cd} (e1 : s' 16 10 = s 16 10) (e2 : s' 54 13 = s 54 13) (e3 : s' 56 = s 56) (e4 : s' 57 = s 57) (e5 : s' 58 = s 58) (e6 : s' 59 = s 59) (hj : jR h s r ru) : jR h s' r ru := by unfold jR rCode at *; rw [e1, e2, e3, e4, e5, e6]; exact hj
theorem jA_e {s s' : Nat → Int → Int} (e1 : s' 25 = s 25) (e2 : s' 66 = s 66) (hj : jA s) : jA s' := by unfold jA at *; rw [e1, e2]; exact hj
theorem jM_e {s s' : Nat → Int → Int} (e1 : s' 24 = s 24) (e2 : s' 69 = s 69) (e3 : s' 22 4 = s 22 4) (e4 : s' 54 29 = s 54 29) (hj : jM s) : jM s' := by unfold jM at *; rw [e1, e2, e3, e4]; exact hj
theorem jS_e {s s' : Nat → Int → Int} (e1 : s' 53 = s 53) (e2 : s' 65 = s 65) (e3 : s' 16 11 = s 16 11) (e4 : s' 54 27 = s 54 27) (hj : jS s) : jS s' := by unfold jS at *; rw [e1, e2, e3, e4]; exact hj
theorem jC_e {h : az_H} {s s' : Nat → Int → Int} {r : Nat → Int → Option Nat} (e1 : s' 35 4 = s 35 4) (e2 : s' 54 40 = s 54 40) (e3 : s' 76 = s 76) (e4 : s' 77 = s 77) (e5 : s' 78 = s 78) (e6 : s' 79 = s 79) (hj : jC h s r) : jC h s' r := by unfold jC at *; rw [e1, e2, e3, e4, e5, e6]; exact hj
theorem jW_e {s s' : Nat → Int → Int} (e1 : s' 48 3 = s 48 3) (e2 : s' 54 45 = s 54 45) (e3 : s' 54 40 = s 54 40) (e4 : s' 50 = s 50) (e5 : s' 80 = s 80) (e6 : s' 49 = s 49) (e7 : s' 81 = s 81) (hj : jW s) : jW s' := by unfold jW at *; rw [e1, e2, e3, e4, e5, e6, e7]; exact hj
theorem jK_e {s s' : Nat → Int → Int} (e1 : s' 45 3 = s 45 3) (e2 : s' 54 50 = s 54 50) (e3 : s' 54 40 = s 54 40) (e4 : s' 47 = s 47) (e5 : s' 83 = s 83) (e6 : s' 46 = s 46) (e7 : s' 84 = s 84) (hj : jK s) : jK s' := by unfold jK at *; rw [e1, e2, e3, e4, e5, e6, e7]; exact hj
theorem jE_e {s s' : Nat → Int → Int} (e1 : s' 35 5 = s 35 5) (e2 : s' 54 53 = s 54 53) (hj : jE s) : jE s' := by unfold jE at *; rw [e1, e2]; exact hj
theorem REnv_e {s s' : Nat → Int → Int} {cs : Int → Option Cd} {hk : Int → Option (Int × Int)} (e1 : s' 56 = s 56) (e2 : s' 57 = s 57) (e3 : s' 58 = s 58) (e4 : s' 59 = s 59) (e5 : s' 61 = s 61) (e6 : s' 67 = s 67) (e7 : s' 68 = s 68) (hj : REnv s cs hk) : REnv s' cs hk := by unfold REnv rCode at *; rw [e1, e2, e3, e4, e5, e6, e7]; exact hj
theorem J_sc {h : az_H} {s s' : Nat → Int → Int} {r : Nat → Int → Option Nat} {cs : Int → Option Cd} {hk : Int → Option (Int × Int)} {ru : Int → Cd} (hs : sc s s') (hm : jM s') (hj : J h s r cs hk ru) : J h s' r cs hk ru := by
  obtain ⟨a1, a2, a3, a4, a5, a6, a7, a8, a9, a10, a11, a12, a13⟩ := hj
  have e : ∀ a, psA a → s' a = s a := hs.1
  have k : ∀ a, psK a → s' 54 a = s 54 a := hs.2.2
  have e16 := e 16 (by unfold psA; omega)
  have e35 := e 35 (by unfold psA; omega)
  have e45 := e 45 (by unfold psA; omega)
  have e48 := e 48 (by unfold psA; omega)
  refine ⟨a1, a2, REnv_e (e 56 (by unfold psA; omega)) (e 57 (by unfold psA; omega)) (e 58 (by unfold psA; omega)) (e 59 (by unfold psA; omega)) (e 61 (by unfold psA; omega)) (e 67 (by unfold psA; omega)) (e 68 (by unfold psA; omega)) a3, jT_e hs.2.1 (k 1 (by unfold psK; omega)) (e 18 (by unfold psA; omega)) (e 55 (by unfold psA; omega)) a4, jL_e (e 60 (by unfold psA; omega)) a5, jR_e (by rw [e16]) (k 13 (by unfold psK; omega)) (e 56 (by unfold psA; omega)) (e 57 (by unfold psA; omega)) (e 58 (by unfold psA; omega)) (e 59 (by unfold psA; omega)) a6, jA_e (e 25 (by unfold psA; omega)) (e 66 (by unfold psA; omega)) a7, hm, jS_e (e 53 (by unfold psA; omega)) (e 65 (by unfold psA; omega)) (by rw [e16]) (k 27 (by unfold psK; omega)) a9, jC_e (by rw [e35]) (k 40 (by unfold psK; omega)) (e 76 (by unfold psA; omega)) (e 77 (by unfold psA; omega)) (e 78 (by unfold psA; omega)) (e 79 (by unfold psA; omega)) a10, jW_e (by rw [e48]) (k 45 (by unfold psK; omega)) (k 40 (by unfold psK; omega)) (e 50 (by unfold psA; omega)) (e 80 (by unfold psA; omega)) (e 49 (by unfold psA; omega)) (e 81 (by unfold psA; omega)) a11, jK_e (by rw [e45]) (k 50 (by unfold psK; omega)) (k 40 (by unfold psK; omega)) (e 47 (by unfold psA; omega)) (e 83 (by unfold psA; omega)) (e 46 (by unfold psA; omega)) (e 84 (by unfold psA; omega)) a12, jE_e (by rw [e35]) (k 53 (by unfold psK; omega)) a13⟩
/-! a heap that has grown -/
def hx (h h' : az_H) : Prop := ∀ i, i < h.2 → h'.1 i = h.1 i
theorem hx_rf {h : az_H} : hx h h := fun _ _ => rfl
theorem hx_psh {h : az_H} {c : az_C} : hx h (hpsh h c) := fun i hi => by
  show (if i = h.2 then c else h.1 i) = _
  rw [if_neg (by omega)]
theorem jH_psh {h : az_H} {c : az_C} (hj : jH h) : jH (hpsh h c) := by
  refine ⟨?_, fun i hi => ?_⟩
  · show 89 ≤ h.2 + 1
    have := hj.1
    omega
  · have hi' : h.2 + 1 ≤ i := hi
    show (if i = h.2 then c else h.1 i) = _
    rw [if_neg (by omega)]
    exact hj.2 i (by omega)
theorem jH_lt {h : az_H} {b : Nat} {c : az_C} (hj : jH h) (hb : h.1 b = c) (hc : c ≠ cO 999 []) : b < h.2 := by
  rcases Nat.lt_or_ge b h.2 with x | x
  · exact x
  · exact absurd (hb.symm.trans (hj.2 b x)) hc
theorem ne_O {ci : Nat} {fs : List az_V} (h : ci ≠ 999) : cO ci fs ≠ cO 999 [] := by
  intro e
  unfold cO at e
  simp only [Sum.inl.injEq, Prod.mk.injEq] at e
  exact h e.1
theorem ne_A {t : FieldType} {fs : List Int} : cA t fs ≠ cO 999 [] := by
  intro e
  unfold cO cA at e
  cases e
theorem cCode_x {h h' : az_H} {b : Nat} {lv : Int} {c : Cd} (hj : jH h) (x : hx h h') (hC : cCode h b lv c) : cCode h' b lv c := by
  obtain ⟨ops, args, st, bo, ba, b9, bo9, ba9, hb, hbo, hba, hr⟩ := hC
  exact ⟨ops, args, st, bo, ba, b9, bo9, ba9, (x b (jH_lt hj hb (ne_O (by decide)))).trans hb, (x bo (jH_lt hj hbo ne_A)).trans hbo, (x ba (jH_lt hj hba ne_A)).trans hba, hr⟩
theorem CEnv_x {h h' : az_H} {r : Nat → Int → Option Nat} {cs : Int → Option Cd} {hk : Int → Option (Int × Int)} (hj : jH h) (x : hx h h') (hE : CEnv h r cs hk) : CEnv h' r cs hk := by
  refine ⟨fun k k0 k1 => ⟨(hE.1 k k0 k1).1, fun c hc => ?_⟩, fun i i0 i1 => ⟨(hE.2 i i0 i1).1, fun q hq => ?_⟩⟩
  · obtain ⟨b, lv, q1, q2, q3⟩ := (hE.1 k k0 k1).2 c hc
    exact ⟨b, lv, q1, cCode_x hj x q2, q3⟩
  · obtain ⟨q1, b, q2, q3, q4⟩ := (hE.2 i i0 i1).2 q hq
    exact ⟨q1, b, q2, q3, (x b (jH_lt hj q4 (ne_O (by decide)))).trans q4⟩
theorem jL_x {h h' : az_H} {s : Nat → Int → Int} {r : Nat → Int → Option Nat} {cs : Int → Option Cd} (hj : jH h) (x : hx h h') (hE : jL h s r cs) : jL h' s r cs := by
  refine fun k k0 k1 => ⟨(hE k k0 k1).1, fun c hc => ?_, (hE k k0 k1).2.2⟩
  obtain ⟨b, q1, q2⟩ := (hE k k0 k1).2.1 c hc
  exact ⟨b, q1, cCode_x hj x q2⟩
theorem jR_x {h h' : az_H} {s : Nat → Int → Int} {r : Nat → Int → Option Nat} {ru : Int → Cd} (hj : jH h) (x : hx h h') (hE : jR h s r ru) : jR h' s r ru := by
  refine ⟨hE.1, hE.2.1, fun i i0 i1 => ?_⟩
  obtain ⟨q1, q2, b, lv, q3, q4⟩ := hE.2.2 i i0 i1
  exact ⟨q1, q2, b, lv, q3, cCode_x hj x q4⟩
theorem jC_x {h h' : az_H} {s : Nat → Int → Int} {r : Nat → Int → Option Nat} (hj : jH h) (x : hx h h') (hE : jC h s r) : jC h' s r := by
  refine ⟨hE.1, hE.2.1, fun i i0 i1 => ?_⟩
  obtain ⟨q1, q2, b, q3, q4, q5⟩ := hE.2.2 i i0 i1
  exact ⟨q1, q2, b, q3, q4, (x b (jH_lt hj q5 (ne_O (by decide)))).trans q5⟩
theorem J_x {h h' : az_H} {s : Nat → Int → Int} {r : Nat → Int → Option Nat} {cs : Int → Option Cd} {hk : Int → Option (Int × Int)} {ru : Int → Cd} (x : hx h h') (hj' : jH h') (hj : J h s r cs hk ru) : J h' s r cs hk ru := by
  obtain ⟨a1, a2, a3, a4, a5, a6, a7, a8, a9, a10, a11, a12, a13⟩ := hj
  exact ⟨hj', CEnv_x a1 x a2, a3, a4, jL_x a1 x a5, jR_x a1 x a6, a7, a8, a9, jC_x a1 x a10, a11, a12, a13⟩
/-! a step of the law -/
theorem LH_ps {xs : List Int} {h : az_H} {s : Nat → Int → Int} {r : Nat → Int → Option Nat} (hc : ∀ i, i < 16 → h.1 i = con0 xs i) : LH xs (PS h s r) := by
  refine ⟨?_, ⟨_, PS_in ⟨by decide, by decide⟩⟩, ⟨_, PS_in ⟨by decide, by decide⟩⟩⟩
  rw [PS_low (by decide), hc 0 (by decide)]
  rfl
/-- after the class: x is its answer, and the reference goes on from there -/
def aft (xs : List Int) (G : az_G) (D : Nat) (Mr : az_M) (as : List az_V) (v : Option az_V) (h1 : az_H) : Prop := ∃ h' s' r' x, v = some (vi x) ∧ h1 = PS h' s' r' ∧ (∀ i, i < 16 → h'.1 i = con0 xs i) ∧ cz G Mr D 0 0 (vo 54 :: as) (PS h' s' r') (fun v2 h2 => v2 = some (vi x) ∧ ∃ s'' cs' hk' ru', h2 = PS h' s'' r' ∧ J h' s'' r' cs' hk' ru')
theorem stp_i {xs : List Int} {G : az_G} {D mc ms : Nat} {Mc Mr : az_M} {as : List az_V} (H : ∀ h s r cs hk ru, (∀ i, i < 16 → h.1 i = con0 xs i) → J h s r cs hk ru → cz G Mc D mc ms (vo 16 :: as) (PS h s r) (aft xs G D Mr as)) : stp xs (Inv xs) G D mc ms Mc Mr as := by
  rintro hh ⟨h, s, r, cs, hk, ru, rfl, hc, hJ⟩
  refine cz_mono ?_ (H h s r cs hk ru hc hJ)
  rintro v h1 ⟨h', s', r', x, rfl, rfl, hc', hz⟩
  refine ⟨LH_ps hc', ?_⟩
  rw [atI_q]
  refine cz_mono ?_ hz
  rintro v2 h2 ⟨rfl, s'', cs', hk', ru', rfl, hJ'⟩
  rw [atI_q]
  exact ⟨rfl, h', s'', r', cs', hk', ru', rfl, hc', hJ'⟩
/-- the end of a call that changes nothing the class holds -/
theorem aft_i {xs : List Int} {G : az_G} {D : Nat} {Mr : az_M} {as : List az_V} {x : Int} {h : az_H} {s : Nat → Int → Int} {r : Nat → Int → Option Nat} (hc : ∀ i, i < 16 → h.1 i = con0 xs i) (hz : cz G Mr D 0 0 (vo 54 :: as) (PS h s r) (fun v2 h2 => v2 = some (vi x) ∧ ∃ s'' cs' hk' ru', h2 = PS h s'' r ∧ J h s'' r cs' hk' ru')) : aft xs G D Mr as (some (vi x)) (PS h s r) := ⟨h, s, r, x, rfl, rfl, hc, hz⟩
theorem fin_i {h : az_H} {s : Nat → Int → Int} {r : Nat → Int → Option Nat} {cs : Int → Option Cd} {hk : Int → Option (Int × Int)} {ru : Int → Cd} {x y : Int} (e : y = x) (hJ : J h s r cs hk ru) : some (vi y) = some (vi x) ∧ ∃ s'' cs' hk' ru', PS h s r = PS h s'' r ∧ J h s'' r cs' hk' ru' := ⟨by rw [e], s, cs, hk, ru, rfl, hJ⟩
