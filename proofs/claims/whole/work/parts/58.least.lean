/-! A ROW MADE LEAST -/
abbrev Rw : Type := (Int → Int) × Nat
def tryE (B : (Int → Int) → Nat → Option Nat) (p : Rw) (i : Nat) : Rw := if i < p.2 then (match B (er p.1 i) (p.2 - 1) with | some b => (er p.1 i, b + 1) | none => p) else p
def lsI (B : (Int → Int) → Nat → Option Nat) : Nat → Rw → Rw
  | 0, p => p
  | i + 1, p => lsI B i (tryE B p i)
def lsO (B : (Int → Int) → Nat → Option Nat) : Nat → Rw → Rw
  | 0, p => p
  | f + 1, p => if (lsI B p.2 p).2 = p.2 then lsI B p.2 p else lsO B f (lsI B p.2 p)
/-- a row that is well: its length, its entries -/
def okR (m : Int) (p : Rw) : Prop := 1 ≤ p.2 ∧ p.2 ≤ 12 ∧ ∀ k : Int, 0 ≤ k → k < p.2 → 0 ≤ p.1 k ∧ p.1 k < m
def agR (g : Int → Int) (p : Rw) : Prop := ∀ k : Int, 0 ≤ k → k < p.2 → g k = p.1 k
section LP
variable {B : (Int → Int) → Nat → Option Nat} {m : Int}
theorem tryE_ok (hB : ∀ g n b, B g n = some b → b < n) {p : Rw} {i : Nat} (h : okR m p) : okR m (tryE B p i) ∧ (tryE B p i).2 ≤ p.2 := by
  unfold tryE
  by_cases c : i < p.2
  · rw [if_pos c]
    cases hb : B (er p.1 i) (p.2 - 1) with
    | none => exact ⟨h, Nat.le_refl _⟩
    | some b =>
      have := hB _ _ _ hb
      have h2 := h.2.1
      refine ⟨⟨by show 1 ≤ b + 1; omega, by show b + 1 ≤ 12; omega, fun k k0 k1 => ?_⟩, by show b + 1 ≤ p.2; omega⟩
      have k1' : k < ((b + 1 : Nat) : Int) := k1
      show 0 ≤ er p.1 i k ∧ er p.1 i k < m
      unfold er
      by_cases ck : k < i
      · rw [if_pos ck]; exact h.2.2 k k0 (by omega)
      · rw [if_neg ck]; exact h.2.2 (k + 1) (by omega) (by omega)
  · rw [if_neg c]; exact ⟨h, Nat.le_refl _⟩
theorem lsI_ok (hB : ∀ g n b, B g n = some b → b < n) : ∀ (i : Nat) {p : Rw}, okR m p → okR m (lsI B i p) ∧ (lsI B i p).2 ≤ p.2
  | 0, _, h => ⟨h, Nat.le_refl _⟩
  | i + 1, p, h => by
    have h1 := tryE_ok hB (i := i) h
    have h2 := lsI_ok hB i h1.1
    exact ⟨h2.1, Nat.le_trans h2.2 h1.2⟩
theorem lsO_ok (hB : ∀ g n b, B g n = some b → b < n) : ∀ (f : Nat) {p : Rw}, okR m p → okR m (lsO B f p)
  | 0, _, h => h
  | f + 1, p, h => by
    unfold lsO
    split
    · exact (lsI_ok hB p.2 h).1
    · exact lsO_ok hB f (lsI_ok hB p.2 h).1
end LP
def frL (s s' : Nat → Int → Int) : Prop := ∀ a, a ≠ 22 → a ≠ 24 → a ≠ 27 → a ≠ 29 → a ≠ 34 → ¬ (31 ≤ a ∧ a ≤ 33) → a ≠ 43 → a ≠ 52 → s' a = s a
theorem frL_rf {s : Nat → Int → Int} : frL s s := fun _ _ _ _ _ _ _ _ _ => rfl
theorem frL_tr {s s' s'' : Nat → Int → Int} (h1 : frL s s') (h2 : frL s' s'') : frL s s'' := fun a x1 x2 x3 x4 x5 x6 x7 x8 => (h2 a x1 x2 x3 x4 x5 x6 x7 x8).trans (h1 a x1 x2 x3 x4 x5 x6 x7 x8)
theorem frL_M {s s' : Nat → Int → Int} (h1 : frM 31 s s') : frL s s' := fun a x1 x2 x3 x4 x5 x6 _ _ => h1 a x1 x2 x3 x4 x5 x6
theorem frL_up {s : Nat → Int → Int} {b : Nat} {g : Int → Int} (hb : b = 43 ∨ b = 52) : frL s (up s b g) := fun a _ _ _ _ _ _ x7 x8 => up_ne (by omega)
def frY (s s' : Nat → Int → Int) : Prop := (∀ a, a ≠ 54 → a ≠ 64 → ¬ (69 ≤ a ∧ a ≤ 75) → a ≠ 82 → s' a = s a) ∧ ∀ k, k ≠ 30 → k ≠ 32 → k ≠ 33 → k ≠ 34 → k ≠ 48 → s' 54 k = s 54 k
theorem frY_rf {s : Nat → Int → Int} : frY s s := ⟨fun _ _ _ _ _ => rfl, fun _ _ _ _ _ _ => rfl⟩
theorem frY_tr {s s' s'' : Nat → Int → Int} (h1 : frY s s') (h2 : frY s' s'') : frY s s'' := ⟨fun a x y t u => (h2.1 a x y t u).trans (h1.1 a x y t u), fun k x y t u v => (h2.2 k x y t u v).trans (h1.2 k x y t u v)⟩
theorem frY_X {s s' : Nat → Int → Int} (h1 : frX s s') : frY s s' := ⟨fun a x y t _ => h1.1 a x y t, fun k x y t u _ => h1.2 k x y t u⟩
theorem frY_82 {s : Nat → Int → Int} {g : Int → Int} : frY s (up s 82 g) := ⟨fun a _ _ _ u => up_ne u, fun k _ _ _ _ _ => rfl⟩
theorem frY_48 {s : Nat → Int → Int} {v : Int} : frY s (uf s 54 48 v) := ⟨fun a x _ _ _ => up_ne x, fun k _ _ _ _ u => ud_ne u⟩
def frC (Mm : Int → Int) (s s' : Nat → Int → Int) : Prop := frL s s' ∧ metR (s' 24) Mm ∧ s' 22 4 = 0
def mE (s s' : Nat → Int → Int) : Prop := ∀ i, 0 ≤ i → i < 144 → s' 69 i = s 69 i
def frZ (s s' : Nat → Int → Int) : Prop := frY s s' ∧ mE s s' ∧ s' 54 29 = 0
/-- what the class's runs need -/
def KC (h : az_H) (s : Nat → Int → Int) (r : Nat → Int → Option Nat) (cs : Int → Option Cd) (hk : Int → Option (Int × Int)) (ru : Int → Cd) (ch : Ch) (m nr : Int) (M : Int → Int) : Prop :=
  CEnv h r cs hk ∧ s 35 4 = m ∧ m ≤ 30 ∧ hCh h r ch m ∧ (∀ b, 0 ≤ b → b < nr → wfR (ru b) ∧ ∃ bb lv, r 51 b = some bb ∧ cCode h bb lv (ru b)) ∧ ∀ i, 0 ≤ i → i < 4 → s 25 i = M i ∧ 0 ≤ M i ∧ M i ≤ 1000000
/-- what the reference's runs need -/
def KR (s : Nat → Int → Int) (cs : Int → Option Cd) (hk : Int → Option (Int × Int)) (ru : Int → Cd) (ch : Ch) (m nr : Int) (M : Int → Int) : Prop :=
  REnv s cs hk ∧ s 54 40 = m ∧ m ≤ 30 ∧ (∀ i, 0 ≤ i → i < m → ch i = (s 76 i, s 77 i, s 78 i, s 79 i) ∧ (0 ≤ (ch i).1 ∧ (ch i).1 < 4) ∧ (0 ≤ (ch i).2.1 ∧ (ch i).2.1 < 6)) ∧ (s 54 13 = nr ∧ nr ≤ 8 ∧ ∀ b, 0 ≤ b → b < nr → wfR (ru b) ∧ rCode s (6 + b) (ru b)) ∧ ∀ i, 0 ≤ i → i < 4 → s 66 i = M i ∧ 0 ≤ M i ∧ M i ≤ 1000000
theorem KC_J {h : az_H} {s : Nat → Int → Int} {r : Nat → Int → Option Nat} {cs : Int → Option Cd} {hk : Int → Option (Int × Int)} {ru : Int → Cd} (hJ : J h s r cs hk ru) : KC h s r cs hk ru (chS s) (s 54 40) (s 54 13) (s 66) := by
  obtain ⟨a1, a2, a3, a4, a5, a6, a7, a8, a9, a10, a11, a12, a13⟩ := hJ
  exact ⟨a2, a10.1, a10.2.1.2, hCh_J a10, fun b b0 b1 => ⟨(a6.2.2 b b0 b1).1, (a6.2.2 b b0 b1).2.2⟩, a7⟩
theorem KR_J {h : az_H} {s : Nat → Int → Int} {r : Nat → Int → Option Nat} {cs : Int → Option Cd} {hk : Int → Option (Int × Int)} {ru : Int → Cd} (hJ : J h s r cs hk ru) : KR s cs hk ru (chS s) (s 54 40) (s 54 13) (s 66) := by
  obtain ⟨a1, a2, a3, a4, a5, a6, a7, a8, a9, a10, a11, a12, a13⟩ := hJ
  exact ⟨a3, rfl, a10.2.1.2, fun i i0 i1 => ⟨rfl, (a10.2.2 i i0 i1).1, (a10.2.2 i i0 i1).2.1⟩, ⟨rfl, a6.2.1.2, fun b b0 b1 => ⟨(a6.2.2 b b0 b1).1, (a6.2.2 b b0 b1).2.1⟩⟩, fun i i0 i1 => ⟨rfl, (a7 i i0 i1).2⟩⟩
theorem KC_e {h : az_H} {s s' : Nat → Int → Int} {r : Nat → Int → Option Nat} {cs : Int → Option Cd} {hk : Int → Option (Int × Int)} {ru : Int → Cd} {ch : Ch} {m nr : Int} {M : Int → Int} (e1 : s' 35 4 = s 35 4) (e2 : s' 25 = s 25) (hK : KC h s r cs hk ru ch m nr M) : KC h s' r cs hk ru ch m nr M := by
  unfold KC at *
  rw [e1, e2]
  exact hK
theorem KR_e {s s' : Nat → Int → Int} {cs : Int → Option Cd} {hk : Int → Option (Int × Int)} {ru : Int → Cd} {ch : Ch} {m nr : Int} {M : Int → Int} (e1 : s' 56 = s 56) (e2 : s' 57 = s 57) (e3 : s' 58 = s 58) (e4 : s' 59 = s 59) (e5 : s' 61 = s 61) (e6 : s' 67 = s 67) (e7 : s' 68 = s 68) (e8 : s' 54 40 = s 54 40) (e9 : s' 76 = s 76) (e10 : s' 77 = s 77) (e11 : s' 78 = s 78) (e12 : s' 79 = s 79) (e13 : s' 54 13 = s 54 13) (e14 : s' 66 = s 66) (hK : KR s cs hk ru ch m nr M) : KR s' cs hk ru ch m nr M := by
  refine ⟨REnv_e e1 e2 e3 e4 e5 e6 e7 hK.1, ?_⟩
  have h2 := hK.2
  unfold rCode at *
  rw [e1, e2, e3, e4, e8, e9, e10, e11, e12, e13, e14]
  exact h2
theorem KR_Y {s s' : Nat → Int → Int} {cs : Int → Option Cd} {hk : Int → Option (Int × Int)} {ru : Int → Cd} {ch : Ch} {m nr : Int} {M : Int → Int} (hf : frY s s') (hK : KR s cs hk ru ch m nr M) : KR s' cs hk ru ch m nr M :=
  KR_e (hf.1 56 (by decide) (by decide) (by decide) (by decide)) (hf.1 57 (by decide) (by decide) (by decide) (by decide)) (hf.1 58 (by decide) (by decide) (by decide) (by decide)) (hf.1 59 (by decide) (by decide) (by decide) (by decide)) (hf.1 61 (by decide) (by decide) (by decide) (by decide)) (hf.1 67 (by decide) (by decide) (by decide) (by decide)) (hf.1 68 (by decide) (by decide) (by decide) (by decide)) (hf.2 40 (by decide) (by decide) (by decide) (by decide) (by decide)) (hf.1 76 (by decide) (by decide) (by decide) (by decide)) (hf.1 77 (by decide) (by decide) (by decide) (by decide)) (hf.1 78 (by decide) (by decide) (by decide) (by decide)) (hf.1 79 (by decide) (by decide) (by decide) (by decide)) (hf.2 13 (by decide) (by decide) (by decide) (by decide) (by decide)) (hf.1 66 (by decide) (by decide) (by decide) (by decide)) hK
theorem KC_L {h : az_H} {s s' : Nat → Int → Int} {r : Nat → Int → Option Nat} {cs : Int → Option Cd} {hk : Int → Option (Int × Int)} {ru : Int → Cd} {ch : Ch} {m nr : Int} {M : Int → Int} (hf : frL s s') (hK : KC h s r cs hk ru ch m nr M) : KC h s' r cs hk ru ch m nr M :=
  KC_e (by rw [hf 35 (by decide) (by decide) (by decide) (by decide) (by decide) (by decide) (by decide) (by decide)]) (hf 25 (by decide) (by decide) (by decide) (by decide) (by decide) (by decide) (by decide) (by decide)) hK
theorem sc_L {s s' : Nat → Int → Int} (h1 : frL s s') : sc s s' := ⟨fun a x => h1 a (by unfold psA at x; omega) (by unfold psA at x; omega) (by unfold psA at x; omega) (by unfold psA at x; omega) (by unfold psA at x; omega) (by unfold psA at x; omega) (by unfold psA at x; omega) (by unfold psA at x; omega), by rw [h1 17 (by decide) (by decide) (by decide) (by decide) (by decide) (by decide) (by decide) (by decide)], fun k _ => by rw [h1 54 (by decide) (by decide) (by decide) (by decide) (by decide) (by decide) (by decide) (by decide)]⟩
theorem sc_Y {s s' : Nat → Int → Int} (h1 : frY s s') : sc s s' := ⟨fun a x => h1.1 a (by unfold psA at x; omega) (by unfold psA at x; omega) (by unfold psA at x; omega) (by unfold psA at x; omega), by rw [h1.1 17 (by decide) (by decide) (by decide) (by decide)], fun k x => h1.2 k (by unfold psK at x; omega) (by unfold psK at x; omega) (by unfold psK at x; omega) (by unfold psK at x; omega) (by unfold psK at x; omega)⟩
section KB
variable {h : az_H} {s : Nat → Int → Int} {r : Nat → Int → Option Nat} {G : az_G} {d : Nat} {Q : Option az_V → az_H → Prop} {cs : Int → Option Cd} {hk : Int → Option (Int × Int)} {ru : Int → Cd} {ch : Ch} {m nr b : Int} {M Mm : Int → Int} {bb : Nat} {s0 : Nat → Int → Int}
theorem cBK {q : Nat} (hq43 : q = 52 ∨ q = 43) (hK : KC h s0 r cs hk ru ch m nr M) (hf : frC Mm s0 s) (hb0 : 0 ≤ b) (hb1 : b < nr) (hbb : r 51 b = some bb) {n : Nat} (hn : n ≤ 12) (hrow : ∀ k : Int, 0 ≤ k → k < n → 0 ≤ s q k ∧ s q k < m)
    (hq : ∀ s', frC Mm s0 s' → frM 31 s s' → Q (some (vi (bI (brk0 cs hk ch (ru b) M (s q) n)))) (PS h s' r)) : cz G mX7_breaksAt (d + 12) 0 0 [vo 35, vo q, vi n, vo bb] (PS h s r) Q := by
  obtain ⟨k1, k2, k3, k4, k5, k6⟩ := KC_L hf.1 hK
  obtain ⟨wf, b2, lv, e2, hcc⟩ := k5 b hb0 hb1
  have : b2 = bb := Option.some.inj (e2.symm.trans hbb)
  subst this
  have hal : ∀ (s1 : Nat → Int → Int) (K : Int → Prop), aln (PS h s1 r) q K = K 12 := by
    rcases hq43 with rfl | rfl
    · exact fun s1 K => al_52
    · exact fun s1 K => al_43
  have hld : ∀ (s1 : Nat → Int → Int) (i : Int) (K : Int → Prop), ldI (PS h s1 r) q .int i K = (0 ≤ i ∧ i < 12 ∧ K (s1 q i)) := by
    rcases hq43 with rfl | rfl
    · exact fun s1 i K => ld_52
    · exact fun s1 i K => ld_43
  refine sX7_breaksAt (m := m) (w := 0) (N := stN M) (M := Mm) (f := s 22 5) (by omega) hal hld k1 k4 k3 hcc wf k2 hn hrow hf.2.1 rfl hf.2.2 (stN_eq (fun i i0 i1 => (k6 i i0 i1).1)) (stN_rg (fun i i0 i1 => (k6 i i0 i1).2)) (fun s' q1 q2 => ?_)
  rw [brk_in (w' := 0) n 0 (stN M, Mm, s 22 5) (stN M, fun _ => 0, 0) rfl]
  refine hq s' ⟨frL_tr hf.1 (frL_M q2), ?_, q1.2.2.2.1⟩ q2
  have := q1.2.1
  rw [brk_q0] at this
  exact this
theorem rBK {but : Int} (hb : -1 ≤ but) (hK : KR s0 cs hk ru ch m nr M) (hf : frZ s0 s) (hb0 : 0 ≤ b) (hb1 : b < nr) {n n' : Nat} (h48 : s 54 48 = n) (hn : n ≤ 12) (hrow : ∀ k : Int, 0 ≤ k → k < n → 0 ≤ s 82 k ∧ s 82 k < m) {g' : Int → Int}
    (hg : but = -1 ∧ n' = n ∧ (∀ k, g' k = s 82 k) ∨ 0 ≤ but ∧ but < n ∧ n = n' + 1 ∧ ∀ k, g' k = er (s 82) but k)
    (hq : ∀ s', frZ s0 s' → frX s s' → Q (some (vi (bI (brk0 cs hk ch (ru b) M g' n')))) (PS h s' r)) : cz G mX11_breaksAt (d + 6) 0 0 [vo 54, vi b, vi but] (PS h s r) Q := by
  obtain ⟨k1, k2, k3, k4, ⟨k5, k8, k7⟩, k6⟩ := KR_Y hf.1 hK
  obtain ⟨wf, hrc⟩ := k7 b hb0 hb1
  refine sX11_breaksAt (m := m) (w := 0) (N := stN M) (M := s 69) (f := s 54 30) (ch := ch) hb ⟨hb0, by omega⟩ wf k3 h48 hn hrow hg k1 hrc k4 (fun i _ _ => rfl) rfl hf.2.2 (stN_eq (fun i i0 i1 => (k6 i i0 i1).1)) (stN_rg (fun i i0 i1 => (k6 i i0 i1).2)) (fun s' q1 q2 => ?_)
  rw [brk_in (w' := 0) n' 0 (stN M, s 69, s 54 30) (stN M, fun _ => 0, 0) rfl]
  refine hq s' ⟨frY_tr hf.1 (frY_X q2), fun i i0 i1 => ?_, q1.2.2.2.1⟩ q2
  rw [q1.2.1 i i0 i1, brk_q0]
  exact hf.2.1 i i0 i1
end KB
theorem J_52 {h : az_H} {s : Nat → Int → Int} {r : Nat → Int → Option Nat} {cs : Int → Option Cd} {hk : Int → Option (Int × Int)} {ru : Int → Cd} {q : Nat} {g : Int → Int} (hq : q = 43 ∨ q = 52) (hJ : J h s r cs hk ru) : J h (up s q g) r cs hk ru := by
  refine J_sc (sc_up (by unfold psA; omega) (by omega) (by omega)) (jM_e (up_ne (by omega)) (up_ne (by omega)) ?_ ?_ hJ.2.2.2.2.2.2.2.1) hJ
  · rw [up_ne (by omega)]
  · rw [up_ne (by omega)]
theorem J_82 {h : az_H} {s : Nat → Int → Int} {r : Nat → Int → Option Nat} {cs : Int → Option Cd} {hk : Int → Option (Int × Int)} {ru : Int → Cd} {g : Int → Int} (hJ : J h s r cs hk ru) : J h (up s 82 g) r cs hk ru := J_sc (sc_up (by unfold psA; omega) (by decide) (by decide)) (jM_e rfl rfl rfl rfl hJ.2.2.2.2.2.2.2.1) hJ
theorem J_48 {h : az_H} {s : Nat → Int → Int} {r : Nat → Int → Option Nat} {cs : Int → Option Cd} {hk : Int → Option (Int × Int)} {ru : Int → Cd} {v : Int} (hJ : J h s r cs hk ru) : J h (uf s 54 48 v) r cs hk ru := J_sc (sc_54 (by unfold psK; omega)) (jM_e rfl rfl rfl rfl hJ.2.2.2.2.2.2.2.1) hJ
section LS
variable {h : az_H} {s : Nat → Int → Int} {r : Nat → Int → Option Nat} {G : az_G} {d : Nat} {Q : Option az_V → az_H → Prop} {cs : Int → Option Cd} {hk : Int → Option (Int × Int)} {ru : Int → Cd} {b m nr : Int} {ch : Ch} {M Mm : Int → Int} {bb : Nat} {s0 : Nat → Int → Int}
theorem brk0_lt {ch : Ch} {rl : Cd} {M : Int → Int} : ∀ g n i, brk0 cs hk ch rl M g n = some i → i < n := fun g n i e => by
  have := brk_lt n 0 _ i e
  omega
theorem brk0_pre {ch : Ch} {rl : Cd} {M g : Int → Int} {n i : Nat} (e : brk0 cs hk ch rl M g n = some i) : brk0 cs hk ch rl M g i = none := brk_pre n 0 _ i e
/-- the class takes a call away -/
theorem cTry {p : Rw} {i : Int} (hp : okR m p) (i0 : 0 ≤ i) (hag : agR (s 52) p) (h1 : p.2 ≤ i → Q none (PS h s r)) (h2 : i < p.2 → ∀ g, (∀ k : Int, 0 ≤ k → k < (p.2 : Int) - 1 → g k = er p.1 i k) → Q none (PS h (up s 43 g) r)) : cz G mX7_tryWithout (d + 1) 0 0 [vo 35, vo 52, vi p.2, vi i] (PS h s r) Q := by
  have hp2 := hp.2.1
  have hp1 := hp.1
  refine vX7_tryWithout ?_
  rw [if_neg (by omega)]
  by_cases c : (p.2 : Int) ≤ i
  · rw [if_pos c]; exact h1 c
  rw [if_neg c, nnR_q, al_52, if_neg (by omega), ro_35_3, al_43, if_neg (by omega), ro_35_3, cp_52_43]
  refine ⟨by decide, by decide, by omega, by omega, by omega, ?_⟩
  rw [ro_35_3, cp_52_43, up_id, show up s 43 (cps (s 52) (s 43) 0 0 i) 43 = cps (s 52) (s 43) 0 0 i from up_at _ _ _, show up s 43 (cps (s 52) (s 43) 0 0 i) 52 = s 52 from rfl]
  rw [w32_id (x := i + 1) (by omega) (by omega), w32_id (x := (p.2 : Int) - 1) (by omega) (by omega), w32_id (x := (p.2 : Int) - 1 - i) (by omega) (by omega)]
  refine ⟨by omega, by omega, by omega, by omega, by omega, h2 (by omega) _ (fun k k0 k1 => ?_)⟩
  unfold cps er
  by_cases ck : k < i
  · rw [if_neg (by omega), if_pos (by omega), if_pos ck, show 0 + (k - 0) = k by omega]
    exact hag k k0 (by omega)
  · rw [if_pos (by omega), if_neg ck, show i + 1 + (k - i) = k + 1 by omega]
    exact hag (k + 1) (by omega) (by omega)
theorem cLs33 (hK0 : KC h s0 r cs hk ru ch m nr M) (hb0 : 0 ≤ b) (hb1 : b < nr) (hbb : r 51 b = some bb) {x5 x6 : Int} :
    ∀ (t : Nat) (p : Rw) (s : Nat → Int → Int), okR m p → t ≤ 12 → frC Mm s0 s → agR (s 52) p → (t ≤ p.2 ∨ agR (s 43) p ∧ brk0 cs hk ch (ru b) M p.1 (p.2 - 1) = none) →
    (∀ s', frC Mm s0 s' → agR (s' 52) (lsI (brk0 cs hk ch (ru b) M) t p) → (if ((lsI (brk0 cs hk ch (ru b) M) t p).2 : Int) = x6 then Q (some (vi (lsI (brk0 cs hk ch (ru b) M) t p).2)) (PS h s' r) else pX7_makeLeast_16 G (d + 12) 35 (some 52) (some bb) (lsI (brk0 cs hk ch (ru b) M) t p).2 (w32 (x5 + 1)) (PS h s' r) Q)) →
    pX7_makeLeast_33 G (d + 12) 35 (some 52) (some bb) p.2 x5 x6 ((t : Int) - 1) (PS h s r) Q := by
  intro t
  induction t with
  | zero =>
    intro p s hp ht hfr hag hst hK
    refine vX7_makeLeast_33 ?_
    rw [if_pos (by decide)]
    exact hK s hfr hag
  | succ t ih =>
    intro p s hp ht hfr hag hst hK
    have hp1 := hp.1
    have hp2 := hp.2.1
    refine vX7_makeLeast_33 ?_
    rw [if_neg (by omega), rc_35, show (((t + 1 : Nat) : Int) - 1) = (t : Int) by omega]
    have hlt := @brk0_lt cs hk ch (ru b) M
    refine cTry hp (by omega) hag (fun y => ?_) (fun y g hg => ?_)
    · -- nothing to take away: what was tried last
      rw [atV_q, ro_35_3, rc_35, w32_id (x := (p.2 : Int) - 1) (by omega) (by omega), show (p.2 : Int) - 1 = ((p.2 - 1 : Nat) : Int) by omega]
      have hst' : agR (s 43) p ∧ brk0 cs hk ch (ru b) M p.1 (p.2 - 1) = none := by
        rcases hst with z | z
        · omega
        · exact z
      refine cBK (d := d) (Or.inr rfl) hK0 hfr hb0 hb1 hbb (by omega) (fun k k0 k1 => ?_) (fun s1 f2 f1 => ?_)
      · rw [hst'.1 k k0 (by omega)]
        exact hp.2.2 k k0 (by omega)
      · rw [atI_q, brk0_ext (g' := p.1) (fun k k0 k1 => hst'.1 k k0 (by omega)), hst'.2, if_pos (show bI none = -2 from rfl), show w32 ((t : Int) + -1) = (t : Int) - 1 by rw [w32_id] <;> omega]
        have e52 : s1 52 = s 52 := f1 52 (by decide) (by decide) (by decide) (by decide) (by decide) (by decide)
        have e43 : s1 43 = s 43 := f1 43 (by decide) (by decide) (by decide) (by decide) (by decide) (by decide)
        have et : tryE (brk0 cs hk ch (ru b) M) p t = p := by unfold tryE; rw [if_neg (by omega)]
        unfold lsI at hK
        rw [et] at hK
        exact ih p s1 hp (by omega) f2 (by rw [e52]; exact hag) (Or.inr (by rw [e43]; exact hst')) hK
    · rw [atV_q, ro_35_3, rc_35, w32_id (x := (p.2 : Int) - 1) (by omega) (by omega), show (p.2 : Int) - 1 = ((p.2 - 1 : Nat) : Int) by omega]
      have fr1 : frC Mm s0 (up s 43 g) := ⟨frL_tr hfr.1 (frL_up (Or.inl rfl)), hfr.2⟩
      have hok := (tryE_ok hlt (i := t) hp)
      have her : ∀ k : Int, 0 ≤ k → k < ((p.2 - 1 : Nat) : Int) → g k = er p.1 t k := fun k k0 k1 => hg k k0 (by omega)
      refine cBK (d := d) (s := up s 43 g) (Or.inr rfl) hK0 fr1 hb0 hb1 hbb (by omega) (fun k k0 k1 => ?_) (fun s1 f2 f1 => ?_)
      · show 0 ≤ g k ∧ g k < m
        rw [her k k0 k1]
        unfold er
        by_cases ck : k < t
        · rw [if_pos ck]; exact hp.2.2 k k0 (by omega)
        · rw [if_neg ck]; exact hp.2.2 (k + 1) (by omega) (by omega)
      · rw [atI_q, show up s 43 g 43 = g from up_at _ _ _, brk0_ext her]
        have e52 : s1 52 = s 52 := (f1 52 (by decide) (by decide) (by decide) (by decide) (by decide) (by decide)).trans rfl
        have e43 : s1 43 = g := (f1 43 (by decide) (by decide) (by decide) (by decide) (by decide) (by decide)).trans (up_at _ _ _)
        unfold lsI at hK
        cases hB : brk0 cs hk ch (ru b) M (er p.1 t) (p.2 - 1) with
        | none =>
          have et : tryE (brk0 cs hk ch (ru b) M) p t = p := by unfold tryE; rw [if_pos (by omega), hB]
          rw [et] at hK
          rw [if_pos (show bI none = -2 from rfl), show w32 ((t : Int) + -1) = (t : Int) - 1 by rw [w32_id] <;> omega]
          exact ih p s1 hp (by omega) f2 (by rw [e52]; exact hag) (Or.inl (by omega)) hK
        | some x =>
          have et : tryE (brk0 cs hk ch (ru b) M) p t = (er p.1 t, x + 1) := by unfold tryE; rw [if_pos (by omega), hB]
          rw [et] at hK hok
          have hx := hlt _ _ _ hB
          rw [show bI (some x) = (x : Int) from rfl, if_neg (by omega), ro_35_3, nnR_q, w32_id (x := (x : Int) + 1) (by omega) (by omega), cp_43_52, show w32 ((t : Int) + -1) = (t : Int) - 1 by rw [w32_id] <;> omega]
          refine ⟨by decide, by decide, by omega, by omega, by omega, ?_⟩
          rw [show (x : Int) + 1 = ((x + 1 : Nat) : Int) by omega]
          have ag2 : agR (cps (s1 43) (s1 52) 0 0 ((x + 1 : Nat) : Int)) (er p.1 t, x + 1) := by
            intro k k0 k1
            have k1' : k < ((x + 1 : Nat) : Int) := k1
            rw [cps_at k0 k1', Int.zero_add, e43]
            exact her k k0 (by omega)
          refine ih (er p.1 t, x + 1) _ hok.1 (by omega) ⟨frL_tr f2.1 (frL_up (Or.inr rfl)), f2.2⟩ ?_ (Or.inr ⟨?_, ?_⟩) hK
          · rw [show up s1 52 (cps (s1 43) (s1 52) 0 0 ((x + 1 : Nat) : Int)) 52 = cps (s1 43) (s1 52) 0 0 ((x + 1 : Nat) : Int) from up_at _ _ _]
            exact ag2
          · intro k k0 k1
            have k1' : k < ((x + 1 : Nat) : Int) := k1
            show s1 43 k = _
            rw [e43]
            exact her k k0 (by omega)
          · exact brk0_pre hB
theorem cLs16 (hK0 : KC h s0 r cs hk ru ch m nr M) (hb0 : 0 ≤ b) (hb1 : b < nr) (hbb : r 51 b = some bb) :
    ∀ (f : Nat) (p : Rw) (s : Nat → Int → Int) (x5 : Int), x5 = 12 - f → f ≤ 12 → okR m p → frC Mm s0 s → agR (s 52) p →
    (∀ s', frC Mm s0 s' → agR (s' 52) (lsO (brk0 cs hk ch (ru b) M) f p) → Q (some (vi (lsO (brk0 cs hk ch (ru b) M) f p).2)) (PS h s' r)) →
    pX7_makeLeast_16 G (d + 12) 35 (some 52) (some bb) p.2 x5 (PS h s r) Q := by
  intro f
  induction f with
  | zero =>
    intro p s x5 hx hf hp hfr hag hq
    refine vX7_makeLeast_16 ?_
    rw [if_pos (by omega)]
    exact hq s hfr hag
  | succ f ih =>
    intro p s x5 hx hf hp hfr hag hq
    have hp1 := hp.1
    have hp2 := hp.2.1
    refine vX7_makeLeast_16 ?_
    rw [if_neg (by omega), w32_id (x := (p.2 : Int) - 1) (by omega) (by omega)]
    refine cLs33 hK0 hb0 hb1 hbb p.2 p s hp hp2 hfr hag (Or.inl (Nat.le_refl _)) (fun s1 f1 g1 => ?_)
    have hok := lsI_ok (@brk0_lt cs hk ch (ru b) M) p.2 hp
    unfold lsO at hq
    by_cases c : (lsI (brk0 cs hk ch (ru b) M) p.2 p).2 = p.2
    · rw [if_pos c] at hq
      rw [if_pos (by rw [c])]
      exact hq s1 f1 g1
    · rw [if_neg c] at hq
      rw [if_neg (by omega), show w32 (x5 + 1) = x5 + 1 by rw [w32_id] <;> omega]
      exact ih _ s1 (x5 + 1) (by omega) (by omega) hok.1 f1 g1 hq
/-- the class makes a row least -/
theorem cLeast (hK : KC h s0 r cs hk ru ch m nr M) (hf : frC Mm s0 s) (hb0 : 0 ≤ b) (hb1 : b < nr) (hbb : r 51 b = some bb) {n : Nat} (hp : okR m (s 52, n))
    (hq : ∀ s', frC Mm s0 s' → agR (s' 52) (lsO (brk0 cs hk ch (ru b) M) 12 (s 52, n)) → Q (some (vi (lsO (brk0 cs hk ch (ru b) M) 12 (s 52, n)).2)) (PS h s' r)) : cz G mX7_makeLeast (d + 13) 0 0 [vo 35, vo 52, vi n, vo bb] (PS h s r) Q := by
  have hp1 : 1 ≤ n := hp.1
  have hp2 : n ≤ 12 := hp.2.1
  refine vX7_makeLeast (d := d + 12) ?_
  rw [nnR_q, al_52]
  refine vJ9_min_7cf53 ?_
  rw [if_neg (by decide), atI_q]
  refine vJ9_min_7cf53 ?_
  rw [if_neg (by omega), atI_q]
  exact cLs16 hK hb0 hb1 hbb 12 (s 52, n) s 0 (by omega) (by decide) hp hf (fun _ _ _ => rfl) hq
end LS
