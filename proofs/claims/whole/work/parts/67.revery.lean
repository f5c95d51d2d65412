/-! EVERY: the reference's search -/
def rR (s : Nat → Int → Int) (B : Bs) : Prop := s 54 53 = B.1 ∧ ∀ k, 0 ≤ k → k < B.1 → (∀ i, 0 ≤ i → i < 19 → s 85 (19 * k + i) = B.2.1 k i) ∧ s 88 k = B.2.2.2.2 k ∧ (1 ≤ k → s 86 k = B.2.2.1 k ∧ s 87 k = B.2.2.2.1 k)
theorem rR_e {s s' : Nat → Int → Int} {B : Bs} (e53 : s' 54 53 = s 54 53) (e85 : s' 85 = s 85) (e86 : s' 86 = s 86) (e87 : s' 87 = s 87) (e88 : s' 88 = s 88) (hk : rR s B) : rR s' B := by
  unfold rR at *
  rw [e53, e85, e86, e87, e88]
  exact hk
def frW (s s' : Nat → Int → Int) : Prop := (∀ a, a ≠ 54 → a ≠ 64 → ¬ (69 ≤ a ∧ a ≤ 75) → a ≠ 82 → ¬ (85 ≤ a ∧ a ≤ 88) → s' a = s a) ∧ ∀ k, k ≠ 30 → k ≠ 32 → k ≠ 33 → k ≠ 34 → k ≠ 48 → k ≠ 53 → s' 54 k = s 54 k
theorem frW_rf {s : Nat → Int → Int} : frW s s := ⟨fun _ _ _ _ _ _ => rfl, fun _ _ _ _ _ _ _ => rfl⟩
theorem frW_tr {s s' s'' : Nat → Int → Int} (h1 : frW s s') (h2 : frW s' s'') : frW s s'' := ⟨fun a x1 x2 x3 x4 x5 => (h2.1 a x1 x2 x3 x4 x5).trans (h1.1 a x1 x2 x3 x4 x5), fun k x1 x2 x3 x4 x5 x6 => (h2.2 k x1 x2 x3 x4 x5 x6).trans (h1.2 k x1 x2 x3 x4 x5 x6)⟩
theorem frW_X {s s' : Nat → Int → Int} (h1 : frX s s') : frW s s' := ⟨fun a x1 x2 x3 _ _ => h1.1 a x1 x2 x3, fun k x1 x2 x3 x4 _ _ => h1.2 k x1 x2 x3 x4⟩
theorem frW_up {s : Nat → Int → Int} {b : Nat} {g : Int → Int} (hb : b = 64 ∨ b = 82 ∨ (85 ≤ b ∧ b ≤ 88)) : frW s (up s b g) := ⟨fun a _ x2 _ x4 x5 => up_ne (by omega), fun k _ _ _ _ _ _ => by rw [up_ne (by omega)]⟩
theorem frW_uf {s : Nat → Int → Int} {b : Nat} {k v : Int} (hb : b = 64 ∨ b = 82 ∨ (85 ≤ b ∧ b ≤ 88)) : frW s (uf s b k v) := frW_up hb
theorem frW_54 {s : Nat → Int → Int} {j v : Int} (hj : j = 48 ∨ j = 53) : frW s (uf s 54 j v) := ⟨fun a x _ _ _ _ => up_ne x, fun k _ _ _ _ x5 x6 => ud_ne (by omega)⟩
theorem KR_W {s s' : Nat → Int → Int} {cs : Int → Option Cd} {hk : Int → Option (Int × Int)} {ru : Int → Cd} {ch : Ch} {m nr : Int} {M : Int → Int} (hf : frW s s') (hK : KR s cs hk ru ch m nr M) : KR s' cs hk ru ch m nr M := by
  have e : ∀ a, a ≠ 54 → a ≠ 64 → ¬ (69 ≤ a ∧ a ≤ 75) → a ≠ 82 → ¬ (85 ≤ a ∧ a ≤ 88) → s' a = s a := hf.1
  exact KR_e (e 56 (by decide) (by decide) (by decide) (by decide) (by decide)) (e 57 (by decide) (by decide) (by decide) (by decide) (by decide)) (e 58 (by decide) (by decide) (by decide) (by decide) (by decide)) (e 59 (by decide) (by decide) (by decide) (by decide) (by decide)) (e 61 (by decide) (by decide) (by decide) (by decide) (by decide)) (e 67 (by decide) (by decide) (by decide) (by decide) (by decide)) (e 68 (by decide) (by decide) (by decide) (by decide) (by decide)) (hf.2 40 (by decide) (by decide) (by decide) (by decide) (by decide) (by decide)) (e 76 (by decide) (by decide) (by decide) (by decide) (by decide)) (e 77 (by decide) (by decide) (by decide) (by decide) (by decide)) (e 78 (by decide) (by decide) (by decide) (by decide) (by decide)) (e 79 (by decide) (by decide) (by decide) (by decide) (by decide)) (hf.2 13 (by decide) (by decide) (by decide) (by decide) (by decide) (by decide)) (e 66 (by decide) (by decide) (by decide) (by decide) (by decide)) hK
section RE
variable {h : az_H} {s s0 : Nat → Int → Int} {r : Nat → Int → Option Nat} {G : az_G} {d : Nat} {Q : Option az_V → az_H → Prop} {cs : Int → Option Cd} {hk : Int → Option (Int × Int)} {ru : Int → Cd} {ch : Ch} {m nr b : Int} {M Mm : Int → Int} {cl : Int} {B : Bs}
theorem sX11_isThere {n : Int} {S : Int → Int → Int} (n0 : 0 ≤ n) (n4 : n ≤ 400) (hS : ∀ k, 0 ≤ k → k < n → ∀ i, 0 ≤ i → i < 19 → s 85 (19 * k + i) = S k i) (h1 : thr n S (s 64) → Q (some (vi 1)) (PS h s r)) (h0 : ¬ thr n S (s 64) → Q (some (vi 0)) (PS h s r)) : cz G mX11_isThere d 0 0 [vo 54, vi n] (PS h s r) Q := by
  refine vX11_isThere ?_
  have L : ∀ (f : Nat) (k : Int), n = k + f → 0 ≤ k → (∀ j, 0 ≤ j → j < k → ¬ eq19 (S j) (s 64)) → pX11_isThere_2 G d 54 n k (PS h s r) Q := by
    intro f
    induction f with
    | zero =>
      intro k hk k0 hj
      refine vX11_isThere_2 ?_
      rw [if_pos (by omega)]
      refine h0 (fun z => ?_)
      obtain ⟨j, j0, j1, e⟩ := z
      exact hj j j0 (by omega) e
    | succ f ih =>
      intro k hk k0 hj
      have ek : w32 (k + 1) = k + 1 := by rw [w32_id] <;> omega
      have nxt : ¬ eq19 (S k) (s 64) → pX11_isThere_2 G d 54 n (w32 (k + 1)) (PS h s r) Q := by
        intro e
        rw [ek]
        refine ih (k + 1) (by omega) (by omega) (fun j j0 j1 => ?_)
        by_cases c : j = k
        · rw [c]; exact e
        · exact hj j j0 (by omega)
      refine vX11_isThere_2 ?_
      rw [if_neg (by omega)]
      have I : ∀ (g i : Nat), 19 = i + g → (∀ j : Int, 0 ≤ j → j < i → S k j = s 64 j) → pX11_isThere_12 G d 54 n k 1 i (PS h s r) Q := by
        intro g
        induction g with
        | zero =>
          intro i hi hjj
          refine vX11_isThere_12 ?_
          rw [if_pos (by omega), if_neg (by decide)]
          exact h1 ⟨k, k0, by omega, fun j j0 j1 => hjj j j0 (by omega)⟩
        | succ g ihg =>
          intro i hi hjj
          refine vX11_isThere_12 ?_
          rw [if_neg (by omega), if_neg (by decide), ro_54_54, w32_id (x := 19 * k) (by omega) (by omega), w32_id (x := 19 * k + i) (by omega) (by omega), ld_85]
          refine ⟨by omega, by omega, ?_⟩
          rw [ro_54_22, ld_64, hS k k0 (by omega) i (by omega) (by omega), show w32 ((i : Int) + 1) = ((i + 1 : Nat) : Int) by rw [w32_id] <;> omega]
          refine ⟨by omega, by omega, ?_⟩
          by_cases c : S k i = s 64 i
          · rw [if_pos c]
            refine ihg (i + 1) (by omega) (fun j j0 j1 => ?_)
            by_cases cj : j = i
            · rw [cj]; exact c
            · exact hjj j j0 (by omega)
          · rw [if_neg c]
            have ne : ¬ eq19 (S k) (s 64) := fun e => c (e i (by omega) (by omega))
            refine vX11_isThere_12 ?_
            by_cases c9 : (19 : Int) ≤ ((i + 1 : Nat) : Int)
            · rw [if_pos c9, if_pos rfl]; exact nxt ne
            · rw [if_neg c9, if_pos rfl, if_pos rfl]; exact nxt ne
      exact I 19 0 rfl (fun j j0 j1 => absurd j1 (by omega))
  exact L n.toNat 0 (by omega) (by decide) (fun j j0 j1 => absurd j1 (by omega))
theorem rEvI (hK0 : KR s0 cs hk ru ch m nr M) (hb0 : 0 ≤ b) (hb1 : b < nr) (hcl : 1 ≤ cl ∧ cl ≤ 12) {k : Int} (k0 : 0 ≤ k) :
    ∀ (f : Nat) (c : Int) (s : Nat → Int → Int) (B : Bs), m = c + f → 0 ≤ c → frW s0 s → rR s B → okB m cl B → k < B.1 → (∀ i, 0 ≤ i → i < 144 → s 69 i = Mm i) → s 54 29 = 0 →
    (∀ s' E, E = evI cs hk ch (ru b) cl k f c B → frW s0 s' → (∀ i, 0 ≤ i → i < 144 → s' 69 i = Mm i) → s' 54 29 = 0 → (E.1 ≠ 1 → rR s' E.2.2) → (E.1 = 1 → s' 54 53 = 401) → okB m cl E.2.2 → k < E.2.2.1 →
      (E.1 = 0 → pX11_every_61 G (d + 5) 54 b cl (w32 (k + 1)) (PS h s' r) Q) ∧ (E.1 = 1 → Q (some (vi (-2))) (PS h s' r)) ∧ (E.1 = 2 → 0 ≤ E.2.1 → E.2.1 < m → rcv (PS h s' r) 54 11 (cz G mX11_rowTo (d + 5) 0 0 [vo 54, vi k, vi E.2.1] (PS h s' r) (fun v h30 => atI v (fun r31 => Q (some (vi (w32 (((-10)) - r31)))) h30))))) →
    pX11_every_72 G (d + 5) 54 b cl k c (PS h s r) Q := by
  intro f
  induction f with
  | zero =>
    intro c s B hc c0 hfr hR hB kB hM h29 hq
    obtain ⟨k1, k2, k3, k4, k5, k6⟩ := KR_W hfr hK0
    refine vX11_every_72 ?_
    rw [ri_54_40, k2, if_pos (by omega)]
    exact (hq s _ rfl hfr hM h29 (fun _ => hR) (fun e => absurd e (by show ¬ (0 : Int) = 1; decide)) hB kB).1 rfl
  | succ f ih =>
    intro c s B hc c0 hfr hR hB kB hM h29 hq
    have n4 := hB.1.2
    have n1 := hB.1.1
    obtain ⟨rgK, hFk, _⟩ := hB.2 k k0 kB
    obtain ⟨r1, r2, r3⟩ := hR.2 k k0 kB
    obtain ⟨k1, k2, k3, k4, k5, k6⟩ := KR_W hfr hK0
    refine vX11_every_72 ?_
    rw [ri_54_40, k2, if_neg (by omega), ro_54_54, rc_54]
    refine rLoad (a := 85) (N := 7619) (by decide) (fun s1 i K => ld_85) k0 (by omega) (by decide) ?_
    rw [atV_q, rc_54]
    have fw1 : frW s0 (up s 64 (cps (s 85) (s 64) (19 * k) 0 19)) := frW_tr hfr (frW_up (by decide))
    obtain ⟨g1, g2, g3, g4, g5, g6⟩ := KR_W fw1 hK0
    have hst : rSt 0 (up s 64 (cps (s 85) (s 64) (19 * k) 0 19)) (B.2.1 k, Mm, s 54 30) := by
      refine ⟨fun i i0 i1 => ?_, hM, rfl, h29, rgK⟩
      rw [up_at, cps_at i0 i1]
      exact r1 i i0 i1
    refine rAtt (d := d) g1 g4 g3 c0 (by omega) hst (fun s2 q1 q2 => ?_)
    rw [atV_q, rc_54]
    have fw2 : frW s0 s2 := frW_tr fw1 (frW_X q2)
    obtain ⟨y1, y2, y3, y4, ⟨y5, y8, y7⟩, y6⟩ := KR_W fw2 hK0
    obtain ⟨wf, hrc⟩ := y7 b hb0 hb1
    refine sX11_isBroken (d := d + 1) ⟨hb0, by omega⟩ hrc wf q1 (fun s3 q3 q4 => ?_)
    rw [atI_q]
    have eN : (att 0 cs hk ch c (B.2.1 k, Mm, s 54 30)).1 = (att 0 cs hk ch c (B.2.1 k, fun _ => 0, 0)).1 := att_in rfl
    have fw3 : frW s0 s3 := frW_tr fw2 (frW_X q4)
    have l3 : ∀ a, a ≠ 54 → a ≠ 64 → ¬ (69 ≤ a ∧ a ≤ 75) → s3 a = s a := fun a x1 x2 x3 => ((q4.1 a x1 x2 x3).trans (q2.1 a x1 x2 x3)).trans (up_ne x2)
    have l3' : ∀ j, j ≠ 30 → j ≠ 32 → j ≠ 33 → j ≠ 34 → s3 54 j = s 54 j := fun j x1 x2 x3 x4 => (q4.2 j x1 x2 x3 x4).trans (q2.2 j x1 x2 x3 x4)
    have kR3 : rR s3 B := rR_e (l3' 53 (by decide) (by decide) (by decide) (by decide)) (l3 85 (by decide) (by decide) (by decide)) (l3 86 (by decide) (by decide) (by decide)) (l3 87 (by decide) (by decide) (by decide)) (l3 88 (by decide) (by decide) (by decide)) hR
    have m3 : ∀ i, 0 ≤ i → i < 144 → s3 69 i = Mm i := by
      intro i i0 i1
      rw [q3.2.1 i i0 i1, att_q0]
    have w3 : s3 54 29 = 0 := q3.2.2.2.1
    have N3 : eq19 (s3 64) (att 0 cs hk ch c (B.2.1 k, fun _ => 0, 0)).1 := by rw [← eN]; exact q3.1
    have rgN3 : rgN (att 0 cs hk ch c (B.2.1 k, fun _ => 0, 0)).1 := by rw [← eN]; exact q3.2.2.2.2
    rw [eN]
    unfold evI at hq
    generalize (att 0 cs hk ch c (B.2.1 k, fun _ => 0, 0)).1 = N at N3 rgN3 hq ⊢
    clear q1 q2 q3 q4 eN hst
    have ec : w32 (c + 1) = c + 1 := by rw [w32_id] <;> omega
    cases hkp : keepsR (ru b) N with
    | false =>
      rw [hkp, if_neg (by decide)] at hq
      rw [if_neg (show ¬ (if false = true then (0 : Int) else 1) = 0 by decide)]
      exact (hq s3 _ rfl fw3 m3 w3 (fun _ => kR3) (fun e => absurd e (by show ¬ (2 : Int) = 1; decide)) hB kB).2.2 rfl c0 (show c < m by omega)
    | true =>
      rw [hkp, if_pos rfl] at hq
      have r88 : s3 88 k = B.2.2.2.2 k := (kR3.2 k k0 kB).2.1
      rw [if_pos (show (if true = true then (0 : Int) else 1) = 0 from rfl), ro_54_57, ld_88, r88, w32_id (x := B.2.2.2.2 k + 1) (by omega) (by omega)]
      refine ⟨k0, by omega, ?_⟩
      by_cases hm : B.2.2.2.2 k + 1 < cl
      · rw [if_neg (by omega), ri_54_53, kR3.1, rc_54]
        refine sX11_isThere (n := B.1) (S := B.2.1) (by omega) n4 (fun j j0 j1 => (kR3.2 j j0 j1).1) (fun th => ?_) (fun nth => ?_)
        · rw [atI_q, if_neg (by decide), ec]
          rw [if_neg (fun z => z.2 (thr_e N3 th))] at hq
          exact ih (c + 1) s3 B (by omega) (by omega) fw3 kR3 hB kB m3 w3 hq
        · rw [atI_q, if_pos rfl, ri_54_53, kR3.1]
          rw [if_pos ⟨hm, fun z => nth (thr_e (eq19_sy N3) z)⟩] at hq
          by_cases hf : B.1 = 400
          · rw [if_pos hf] at hq
            rw [if_pos hf, wi_54_53]
            exact (hq (uf s3 54 53 401) _ rfl (frW_tr fw3 (frW_54 (by decide))) m3 w3 (fun e => absurd rfl e) (fun _ => rfl) hB kB).2.1 rfl
          · rw [if_neg hf] at hq
            rw [if_neg hf, ro_54_54, ri_54_53, kR3.1, rc_54]
            refine rSave (a := 85) (N := 7619) (by decide) (fun s1 i x K => st_85) (by omega) (by omega) (by decide) ?_
            rw [atV_q, ro_54_55, ri_54_53, show up s3 85 (cps (s3 64) (s3 85) 0 (19 * B.1) 19) 54 53 = s3 54 53 from rfl, kR3.1, st_86]
            refine ⟨by omega, by omega, ?_⟩
            rw [ro_54_56, ri_54_53, show uf (up s3 85 (cps (s3 64) (s3 85) 0 (19 * B.1) 19)) 86 B.1 k 54 53 = s3 54 53 from rfl, kR3.1, st_87]
            refine ⟨by omega, by omega, ?_⟩
            rw [ro_54_57, ri_54_53, show uf (uf (up s3 85 (cps (s3 64) (s3 85) 0 (19 * B.1) 19)) 86 B.1 k) 87 B.1 c 54 53 = s3 54 53 from rfl, kR3.1, ro_54_57, ld_88, show uf (uf (up s3 85 (cps (s3 64) (s3 85) 0 (19 * B.1) 19)) 86 B.1 k) 87 B.1 c 88 k = s3 88 k from rfl, r88]
            refine ⟨k0, by omega, ?_⟩
            rw [st_88, w32_id (x := B.2.2.2.2 k + 1) (by omega) (by omega)]
            refine ⟨by omega, by omega, ?_⟩
            rw [ri_54_53, show uf (uf (uf (up s3 85 (cps (s3 64) (s3 85) 0 (19 * B.1) 19)) 86 B.1 k) 87 B.1 c) 88 B.1 (B.2.2.2.2 k + 1) 54 53 = s3 54 53 from rfl, kR3.1, wi_54_53, ec, w32_id (x := B.1 + 1) (by omega) (by omega)]
            refine ih (c + 1) _ (bAd B N k c) (by omega) (by omega) (frW_tr fw3 (frW_tr (frW_tr (frW_tr (frW_tr (frW_up (by decide)) (frW_uf (by decide))) (frW_uf (by decide))) (frW_uf (by decide))) (frW_54 (Or.inr rfl)))) ⟨rfl, fun j j0 j1 => ?_⟩ (okB_add hB (by omega) rgN3 k0 kB c0 (by omega) hm) (show k < B.1 + 1 by omega) m3 w3 hq
            have j1' : j < B.1 + 1 := j1
            show (∀ i, 0 ≤ i → i < 19 → cps (s3 64) (s3 85) 0 (19 * B.1) 19 (19 * j + i) = ud B.2.1 B.1 N j i) ∧ ud (s3 88) B.1 (B.2.2.2.2 k + 1) j = ud B.2.2.2.2 B.1 (B.2.2.2.2 k + 1) j ∧ (1 ≤ j → ud (s3 86) B.1 k j = ud B.2.2.1 B.1 k j ∧ ud (s3 87) B.1 c j = ud B.2.2.2.1 B.1 c j)
            by_cases cj : j = B.1
            · subst cj
              rw [ud_at, ud_at, ud_at, ud_at, ud_at, ud_at, ud_at]
              refine ⟨fun i i0 i1 => ?_, rfl, fun _ => ⟨rfl, rfl⟩⟩
              unfold cps
              rw [if_pos (by omega), show 0 + (19 * B.1 + i - 19 * B.1) = i by omega]
              exact N3 i i0 i1
            · obtain ⟨z1, z2, z3⟩ := kR3.2 j j0 (by omega)
              rw [ud_ne cj, ud_ne cj, ud_ne cj, ud_ne cj, ud_ne cj, ud_ne cj, ud_ne cj]
              refine ⟨fun i i0 i1 => ?_, z2, z3⟩
              unfold cps
              rw [if_neg (by omega)]
              exact z1 i i0 i1
      · rw [if_pos (by omega), ec]
        rw [if_neg (fun z => hm z.1)] at hq
        exact ih (c + 1) s3 B (by omega) (by omega) fw3 kR3 hB kB m3 w3 hq
theorem rEvO (hK0 : KR s0 cs hk ru ch m nr M) (m0 : 0 ≤ m) (hb0 : 0 ≤ b) (hb1 : b < nr) (hcl : 1 ≤ cl ∧ cl ≤ 12) :
    ∀ (f : Nat) (k : Int) (s : Nat → Int → Int) (B : Bs), 400 = k + f → 0 ≤ k → frW s0 s → rR s B → okB m cl B → (∀ i, 0 ≤ i → i < 144 → s 69 i = Mm i) → s 54 29 = 0 →
    (∀ s' E, E = evO cs hk ch (ru b) cl m.toNat f k B → frW s0 s' → (∀ i, 0 ≤ i → i < 144 → s' 69 i = Mm i) → s' 54 29 = 0 → (E.1 ≠ 1 → rR s' E.2.2.2) → (E.1 = 1 → s' 54 53 = 401) → okB m cl E.2.2.2 →
      (E.1 = 0 → Q (some (vi 1)) (PS h s' r)) ∧ (E.1 = 1 → Q (some (vi (-2))) (PS h s' r)) ∧ (E.1 = 2 → (0 ≤ E.2.1 ∧ E.2.1 < E.2.2.2.1) → (0 ≤ E.2.2.1 ∧ E.2.2.1 < m) → rcv (PS h s' r) 54 11 (cz G mX11_rowTo (d + 5) 0 0 [vo 54, vi E.2.1, vi E.2.2.1] (PS h s' r) (fun v h30 => atI v (fun r31 => Q (some (vi (w32 (((-10)) - r31)))) h30))))) →
    pX11_every_61 G (d + 5) 54 b cl k (PS h s r) Q := by
  intro f
  induction f with
  | zero =>
    intro k s B hk0 k0 hfr hR hB hM h29 hq
    have n4 := hB.1.2
    refine vX11_every_61 ?_
    rw [ri_54_53, hR.1, if_pos (by omega)]
    exact (hq s _ rfl hfr hM h29 (fun _ => hR) (fun e => absurd e (by show ¬ (0 : Int) = 1; decide)) hB).1 rfl
  | succ f ih =>
    intro k s B hk0 k0 hfr hR hB hM h29 hq
    refine vX11_every_61 ?_
    rw [ri_54_53, hR.1]
    unfold evO at hq
    by_cases c : B.1 ≤ k
    · rw [if_pos c]
      rw [if_pos c] at hq
      exact (hq s _ rfl hfr hM h29 (fun _ => hR) (fun e => absurd e (by show ¬ (0 : Int) = 1; decide)) hB).1 rfl
    · rw [if_neg c] at hq
      rw [if_neg c]
      refine rEvI (d := d) hK0 hb0 hb1 hcl k0 m.toNat 0 s B (by omega) (by decide) hfr hR hB (by omega) hM h29 (fun s' E hE q1 q2 q3 q4 q5 q6 q7 => ?_)
      rw [← hE] at hq
      refine ⟨fun e => ?_, fun e => ?_, fun e e0 e1 => ?_⟩
      · rw [if_pos e] at hq
        rw [w32_id (x := k + 1) (by omega) (by omega)]
        exact ih (k + 1) s' E.2.2 (by omega) (by omega) q1 (q4 (by omega)) q6 q2 q3 hq
      · rw [if_neg (by omega)] at hq
        exact (hq s' _ rfl q1 q2 q3 q4 q5 q6).2.1 e
      · rw [if_neg (by omega)] at hq
        exact (hq s' _ rfl q1 q2 q3 q4 q5 q6).2.2 e ⟨k0, q7⟩ ⟨e0, e1⟩
theorem sX11_rowTo {k c N : Int} {L : Nat} (hB : okB m cl B) (hk : rR s B) (hcl : cl ≤ 12) (k0 : 0 ≤ k) (k1 : k < B.1) (hL : B.2.2.2.2 k = L) (hN : s 54 45 = N) (N0 : 0 ≤ N) (N1 : N < 20)
    (hq : ∀ s1, s1 = up (uf s 54 48 ((L + 1 : Nat) : Int)) 82 (rwL B.2.2.1 B.2.2.2.1 L k (ud (s 82) L c)) → Q (some (vi N)) (PS h (uf (uf (up s1 81 (cps (s1 82) (s1 81) 0 (12 * N) ((L + 1 : Nat) : Int))) 80 N ((L + 1 : Nat) : Int)) 54 45 (N + 1)) r)) : cz G mX11_rowTo (d + 1) 0 0 [vo 54, vi k, vi c] (PS h s r) Q := by
  have n4 := hB.1.2
  have hF := (hB.2 k k0 k1).2.1
  refine vX11_rowTo ?_
  rw [ro_54_57, ld_88, (hk.2 k k0 k1).2.1, hL]
  refine ⟨k0, by omega, ?_⟩
  have e1 : w32 ((L : Int) + 1) = ((L + 1 : Nat) : Int) := by rw [w32_id] <;> omega
  rw [e1, wi_54_48, ro_54_49, ri_54_48, show uf s 54 48 ((L + 1 : Nat) : Int) 54 48 = ((L + 1 : Nat) : Int) from rfl, show w32 (((L + 1 : Nat) : Int) - 1) = (L : Int) by rw [w32_id] <;> omega, st_82]
  refine ⟨by omega, by omega, ?_⟩
  rw [ri_54_48, show uf (uf s 54 48 ((L + 1 : Nat) : Int)) 82 (L : Int) c 54 48 = ((L + 1 : Nat) : Int) from rfl, show w32 (((L + 1 : Nat) : Int) - 2) = (L : Int) - 1 by rw [w32_id] <;> omega]
  generalize hs1 : uf s 54 48 ((L + 1 : Nat) : Int) = s1
  have T : ∀ (i : Nat) (fr : Int) (g : Int → Int), i ≤ 11 → 0 ≤ fr → fr < B.1 → B.2.2.2.2 fr = i → rwL B.2.2.1 B.2.2.2.1 i fr g = rwL B.2.2.1 B.2.2.2.1 L k (ud (s 82) L c) → pX11_rowTo_34 G d 54 fr ((i : Int) - 1) (PS h (up s1 82 g) r) Q := by
    intro i
    induction i with
    | zero =>
      intro fr g hi f0 f1 hf hg
      refine vX11_rowTo_34 ?_
      rw [if_pos (by decide), rc_54]
      have hg' : g = rwL B.2.2.1 B.2.2.2.1 L k (ud (s 82) L c) := hg
      refine sX11_keepRow (N := N) (n := L + 1) (by rw [← hs1]; exact hN) N0 N1 (by rw [← hs1]; rfl) (by omega) ?_
      rw [atI_q]
      exact hq _ (by rw [← hs1, hg'])
    | succ i ih =>
      intro fr g hi f0 f1 hf hg
      obtain ⟨q1, q2, q3, q4⟩ := (hB.2 fr f0 f1).2.2 (by omega)
      have hS' := (hk.2 fr f0 f1).2.2 q1
      refine vX11_rowTo_34 ?_
      rw [if_neg (by omega), ro_54_49, ro_54_56, ld_87]
      refine ⟨f0, by omega, ?_⟩
      rw [st_82, show (((i + 1 : Nat) : Int) - 1) = (i : Int) by omega, uf, up_up]
      refine ⟨by omega, by omega, ?_⟩
      rw [ro_54_55, ld_86]
      refine ⟨f0, by omega, ?_⟩
      rw [show up s1 82 g 87 fr = s 87 fr by rw [← hs1]; rfl, show up s1 82 (ud (up s1 82 g 82) (i : Int) (s 87 fr)) 86 fr = s 86 fr by rw [← hs1]; rfl, hS'.1, hS'.2, show w32 ((i : Int) + -1) = (i : Int) - 1 by rw [w32_id] <;> omega, up_at]
      exact ih _ _ (by omega) q2.1 q2.2 (by omega) hg
  have := T L k (ud (s 82) L c) (by omega) k0 k1 hL rfl
  rw [show up s1 82 (ud (s 82) L c) = uf s1 82 L c by rw [← hs1]; rfl] at this
  exact this
end RE
