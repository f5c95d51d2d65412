/-! EVERY: the search, and the class's -/
noncomputable def evI (cs : Int → Option Cd) (hk : Int → Option (Int × Int)) (ch : Ch) (rl : Cd) (cl k : Int) : Nat → Int → Bs → Int × Int × Bs
  | 0, c, B => (0, c, B)
  | f + 1, c, B => if keepsR rl (att 0 cs hk ch c (B.2.1 k, fun _ => 0, 0)).1 then
      (@ite _ (B.2.2.2.2 k + 1 < cl ∧ ¬ thr B.1 B.2.1 (att 0 cs hk ch c (B.2.1 k, fun _ => 0, 0)).1) (Classical.propDecidable _)
        (if B.1 = 400 then (1, c, B) else evI cs hk ch rl cl k f (c + 1) (bAd B (att 0 cs hk ch c (B.2.1 k, fun _ => 0, 0)).1 k c))
        (evI cs hk ch rl cl k f (c + 1) B))
    else (2, c, B)
noncomputable def evO (cs : Int → Option Cd) (hk : Int → Option (Int × Int)) (ch : Ch) (rl : Cd) (cl : Int) (mN : Nat) : Nat → Int → Bs → Int × Int × Int × Bs
  | 0, k, B => (0, k, 0, B)
  | f + 1, k, B => if B.1 ≤ k then (0, k, 0, B) else if (evI cs hk ch rl cl k mN 0 B).1 = 0 then evO cs hk ch rl cl mN f (k + 1) (evI cs hk ch rl cl k mN 0 B).2.2 else ((evI cs hk ch rl cl k mN 0 B).1, k, (evI cs hk ch rl cl k mN 0 B).2.1, (evI cs hk ch rl cl k mN 0 B).2.2)
def bS0 (M : Int → Int) : Bs := (1, fun _ => stN M, fun _ => 0, fun _ => 0, fun _ => 0)
theorem okB_0 {m cl : Int} {M : Int → Int} (hcl : 1 ≤ cl) (hM : ∀ i, 0 ≤ i → i < 4 → 0 ≤ M i ∧ M i ≤ 1000000) : okB m cl (bS0 M) := ⟨⟨show (1 : Int) ≤ 1 by decide, show (1 : Int) ≤ 400 by decide⟩, fun k k0 k1 => ⟨stN_rg hM, ⟨by show (0 : Int) ≤ 0; omega, by show (0 : Int) < cl; omega⟩, fun hF => absurd hF (by show ¬ (1 : Int) ≤ 0; omega)⟩⟩
theorem kR_e {s s' : Nat → Int → Int} {B : Bs} (e36 : s' 36 5 = s 36 5) (e37 : s' 37 = s 37) (e38 : s' 38 = s 38) (e39 : s' 39 = s 39) (e40 : s' 40 = s 40) (e41 : s' 41 = s 41) (hk : kR s B) : kR s' B := by
  unfold kR at *
  rw [e36, e37, e38, e39, e40, e41]
  exact hk
def frV (s s' : Nat → Int → Int) : Prop := (∀ a, a ≠ 22 → a ≠ 24 → a ≠ 27 → a ≠ 29 → ¬ (31 ≤ a ∧ a ≤ 41) → a ≠ 52 → s' a = s a) ∧ ∀ k, k ≠ 5 → s' 35 k = s 35 k
theorem frV_rf {s : Nat → Int → Int} : frV s s := ⟨fun _ _ _ _ _ _ _ => rfl, fun _ _ => rfl⟩
theorem frV_tr {s s' s'' : Nat → Int → Int} (h1 : frV s s') (h2 : frV s' s'') : frV s s'' := ⟨fun a x1 x2 x3 x4 x5 x6 => (h2.1 a x1 x2 x3 x4 x5 x6).trans (h1.1 a x1 x2 x3 x4 x5 x6), fun k x => (h2.2 k x).trans (h1.2 k x)⟩
theorem frV_M {s s' : Nat → Int → Int} (h1 : frM 31 s s') : frV s s' := ⟨fun a x1 x2 x3 x4 x5 x6 => h1 a x1 x2 x3 x4 (by omega) (by omega), fun k _ => by rw [h1 35 (by decide) (by decide) (by decide) (by decide) (by decide) (by decide)]⟩
theorem frV_up {s : Nat → Int → Int} {b : Nat} {g : Int → Int} (hb : b = 29 ∨ (36 ≤ b ∧ b ≤ 41) ∨ b = 52) : frV s (up s b g) := ⟨fun a x1 x2 x3 x4 x5 x6 => up_ne (by omega), fun k _ => by rw [up_ne (by omega)]⟩
theorem frV_uf {s : Nat → Int → Int} {b : Nat} {k v : Int} (hb : b = 29 ∨ (36 ≤ b ∧ b ≤ 41) ∨ b = 52) : frV s (uf s b k v) := frV_up hb
theorem frV_35 {s : Nat → Int → Int} {v : Int} : frV s (uf s 35 5 v) := ⟨fun a x1 x2 x3 x4 x5 x6 => up_ne (by omega), fun k x => ud_ne x⟩
theorem frV_Ad {s : Nat → Int → Int} {n x p c f : Int} : frV s (sAd s n x p c f) := frV_tr (frV_tr (frV_tr (frV_tr (frV_tr (frV_up (by decide)) (frV_uf (by decide))) (frV_uf (by decide))) (frV_uf (by decide))) (frV_uf (by decide))) (frV_uf (by decide))
section CE
variable {h : az_H} {s0 : Nat → Int → Int} {r : Nat → Int → Option Nat} {G : az_G} {d : Nat} {Q : Option az_V → az_H → Prop} {cs : Int → Option Cd} {hk : Int → Option (Int × Int)} {ru : Int → Cd} {ch : Ch} {m nr b : Int} {M Mm : Int → Int} {bb : Nat} {cl : Int}
theorem cEvI (hK0 : KC h s0 r cs hk ru ch m nr M) (hb0 : 0 ≤ b) (hb1 : b < nr) (hbb : r 51 b = some bb) (hcl : 1 ≤ cl ∧ cl ≤ 12) {k may : Int} (k0 : 0 ≤ k) :
    ∀ (f : Nat) (c : Int) (s : Nat → Int → Int) (B : Bs), m = c + f → 0 ≤ c → frV s0 s → kR s B → okB m cl B → k < B.1 → may = (if B.2.2.2.2 k + 1 < cl then 1 else 0) → metR (s 24) Mm → s 22 4 = 0 → s 35 5 = B.1 →
    (∀ s' E, E = evI cs hk ch (ru b) cl k f c B → frV s0 s' → kR s' E.2.2 → okB m cl E.2.2 → k < E.2.2.1 → metR (s' 24) Mm → s' 22 4 = 0 → s' 35 5 = (if E.1 = 1 then 401 else E.2.2.1) →
      (E.1 = 0 → pX7_seek_46 G (d + 11) 35 (some bb) cl (some 52) (w32 (k + 1)) (PS h s' r) Q) ∧ (E.1 = 1 → Q (some (vi (-2))) (PS h s' r)) ∧ (E.1 = 2 → 0 ≤ E.2.1 → E.2.1 < m → rcv (PS h s' r) 36 3 (cz G mX3_rowThrough (d + 11) 0 0 [vo 36, vi k, vi E.2.1, vo 52] (PS h s' r) (fun v h18 => atI v (fun r19 => Q (some (vi r19)) h18))))) →
    pX7_seek_91 G (d + 11) 35 (some bb) cl (some 52) k may c (PS h s r) Q := by
  obtain ⟨k1, k2, k3, k4, k5, k6⟩ := hK0
  obtain ⟨wf, b2, lv, e2, hcc⟩ := k5 b hb0 hb1
  have : b2 = bb := Option.some.inj (e2.symm.trans hbb)
  subst this
  intro f
  induction f with
  | zero =>
    intro c s B hc c0 hfr hR hB kB hmay hM h4 h5 hq
    refine vX7_seek_91 ?_
    rw [ri_35_4, hfr.2 4 (by decide), k2, if_pos (by omega)]
    exact (hq s _ rfl hfr hR hB kB hM h4 (by rw [h5]; rfl)).1 rfl
  | succ f ih =>
    intro c s B hc c0 hfr hR hB kB hmay hM h4 h5 hq
    have n4 := hB.1.2
    have n1 := hB.1.1
    obtain ⟨rgK, hFk, _⟩ := hB.2 k k0 kB
    obtain ⟨r1, r2, r3⟩ := hR.2.2 k k0 kB
    refine vX7_seek_91 ?_
    rw [ri_35_4, hfr.2 4 (by decide), k2, if_neg (by omega), ro_35_1, ro_35_0, rc_36]
    refine vX3_enter ?_
    rw [if_neg (by omega), ri_36_5, hR.1, if_neg (by omega), ro_36_0, nnR_q, rc_27, show w32 (k * 19) = 19 * k by rw [w32_id] <;> omega]
    refine vX4_load ?_
    rw [if_neg (by omega), nnR_q, al_37, if_neg (by rw [w32_id] <;> omega), ro_27_2, cp_37_29]
    refine ⟨by omega, by decide, by decide, by omega, by decide, ?_⟩
    rw [atV_q, atV_q, ro_35_0, rc_35]
    have hst : cSt 0 (up s 29 (cps (s 37) (s 29) (19 * k) 0 19)) (B.2.1 k, Mm, s 22 5) := by
      refine ⟨fun i i0 i1 => ?_, hM, rfl, h4, rgK⟩
      rw [up_at, cps_at i0 i1]
      exact r1 i i0 i1
    refine cAtt (d := d) k1 k4 (show s 35 4 = m by rw [hfr.2 4 (by decide)]; exact k2) k3 c0 (by omega) hst (fun s2 q1 q2 x => ?_)
    rw [atI_q, ro_35_0, rc_27]
    refine sX4_keeps (d := d + 7) k1 hcc wf q1 (fun s3 q3 q4 => ?_)
    rw [atI_q]
    have eN : (att 0 cs hk ch c (B.2.1 k, Mm, s 22 5)).1 = (att 0 cs hk ch c (B.2.1 k, fun _ => 0, 0)).1 := att_in rfl
    have l3 : ∀ a, a ≠ 22 → a ≠ 24 → a ≠ 27 → a ≠ 29 → a ≠ 34 → ¬ (31 ≤ a ∧ a ≤ 33) → s3 a = s a := fun a x1 x2 x3 x4 x5 x6 => ((q4 a x1 x2 x3 x4 x5 (by omega)).trans (q2 a x1 x2 x3 x4 x5 x6)).trans (up_ne x4)
    have fv3 : frV s0 s3 := frV_tr hfr ⟨fun a x1 x2 x3 x4 x5 x6 => l3 a x1 x2 x3 x4 (by omega) (by omega), fun k _ => by rw [l3 35 (by decide) (by decide) (by decide) (by decide) (by decide) (by decide)]⟩
    have kR3 : kR s3 B := kR_e (by rw [l3 36 (by decide) (by decide) (by decide) (by decide) (by decide) (by decide)]) (l3 37 (by decide) (by decide) (by decide) (by decide) (by decide) (by decide)) (l3 38 (by decide) (by decide) (by decide) (by decide) (by decide) (by decide)) (l3 39 (by decide) (by decide) (by decide) (by decide) (by decide) (by decide)) (l3 40 (by decide) (by decide) (by decide) (by decide) (by decide) (by decide)) (l3 41 (by decide) (by decide) (by decide) (by decide) (by decide) (by decide)) hR
    have m3 : metR (s3 24) Mm := by
      have := q3.2.1
      rw [att_q0] at this
      exact this
    have w3 : s3 22 4 = 0 := q3.2.2.2.1
    have v3 : s3 35 5 = B.1 := by rw [l3 35 (by decide) (by decide) (by decide) (by decide) (by decide) (by decide)]; exact h5
    have N3 : eq19 (s3 29) (att 0 cs hk ch c (B.2.1 k, fun _ => 0, 0)).1 := by rw [← eN]; exact q3.1
    have rgN3 : rgN (att 0 cs hk ch c (B.2.1 k, fun _ => 0, 0)).1 := by rw [← eN]; exact q3.2.2.2.2
    rw [eN]
    unfold evI at hq
    generalize (att 0 cs hk ch c (B.2.1 k, fun _ => 0, 0)).1 = N at N3 rgN3 hq ⊢
    clear q1 q2 q3 q4 eN hst
    have ec : w32 (c + 1) = c + 1 := by rw [w32_id] <;> omega
    cases hkp : keepsR (ru b) N with
    | false =>
      rw [hkp, if_neg (by decide)] at hq
      rw [if_pos (show (if false = true then (1 : Int) else 0) = 0 from rfl), ro_35_1]
      exact (hq s3 _ rfl fv3 kR3 hB kB m3 w3 (by rw [v3]; rfl)).2.2 rfl c0 (show c < m by omega)
    | true =>
      rw [hkp, if_pos rfl] at hq
      rw [if_neg (show ¬ (if true = true then (1 : Int) else 0) = 0 by decide)]
      by_cases hm : B.2.2.2.2 k + 1 < cl
      · have hm1 : may = 1 := by rw [hmay, if_pos hm]
        subst hm1
        rw [if_neg (by decide), ro_35_1, ro_35_0, rc_36]
        refine sX3_slotFor (d := d + 10) kR3 n4 (fun th => ?_) (fun nth t x ht hx hg hb => ?_)
        · rw [atI_q]
          refine vX7_seek_171 ?_
          rw [if_pos (by decide), ec]
          rw [if_neg (fun z => z.2 (thr_e N3 th))] at hq
          exact ih (c + 1) s3 B (by omega) (by omega) fv3 kR3 hB kB hmay m3 w3 v3 hq
        · rw [atI_q]
          refine vX7_seek_171 ?_
          rw [if_neg (by omega), ri_35_5, v3, wi_35_5, ro_35_1, rc_36]
          refine vX3_isFull ?_
          rw [ri_36_5, show uf s3 35 5 (w32 (B.1 + 1)) 36 5 = s3 36 5 from rfl, kR3.1]
          rw [if_pos ⟨hm, fun z => nth (thr_e (eq19_sy N3) z)⟩] at hq
          have e1 : w32 (B.1 + 1) = B.1 + 1 := by rw [w32_id] <;> omega
          rw [e1]
          by_cases hf : B.1 < 400
          · rw [if_neg (by omega)] at hq
            rw [if_pos hf, atI_q, if_pos rfl, ro_35_1, ro_35_0, rc_36]
            have kR4 : kR (uf s3 35 5 (B.1 + 1)) B := kR_e rfl rfl rfl rfl rfl rfl kR3
            have r40 : s3 40 k = B.2.2.2.2 k := (kR3.2.2 k k0 kB).2.1
            refine sX3_add (d := d + 9) (n := B.1) (f := s3 40 k + 1) kR3.1 (by omega) hf (by omega) (by omega) (Or.inr ⟨k0, kB, rfl, by show 0 ≤ s3 40 k; omega, by show s3 40 k < 100; omega⟩) ?_
            rw [atV_q, ec]
            have hadd := kR_add (N := N) (k := k) (c := c) kR4 n1 k0 kB N3 ht hx hg hb
            refine ih (c + 1) _ (bAd B N k c) (by omega) (by omega) (frV_tr fv3 (frV_tr frV_35 frV_Ad)) hadd (okB_add hB hf rgN3 k0 kB c0 (by omega) hm) (show k < B.1 + 1 by omega) ?_ m3 w3 rfl hq
            show (1 : Int) = (if ud B.2.2.2.2 B.1 (B.2.2.2.2 k + 1) k + 1 < cl then 1 else 0)
            rw [ud_ne (by omega), if_pos hm]
          · rw [if_pos (by omega)] at hq
            rw [if_neg hf, atI_q, if_neg (by decide)]
            have kR4 : kR (uf s3 35 5 (B.1 + 1)) B := kR_e rfl rfl rfl rfl rfl rfl kR3
            exact (hq (uf s3 35 5 (B.1 + 1)) _ rfl (frV_tr fv3 frV_35) kR4 hB kB m3 w3 (show B.1 + 1 = 401 by omega)).2.1 rfl
      · have hm1 : may = 0 := by rw [hmay, if_neg hm]
        subst hm1
        rw [if_pos rfl]
        rw [if_neg (fun z => hm z.1)] at hq
        refine vX7_seek_171 ?_
        rw [if_pos (by decide), ec]
        exact ih (c + 1) s3 B (by omega) (by omega) fv3 kR3 hB kB hmay m3 w3 v3 hq
theorem cEvO (hK0 : KC h s0 r cs hk ru ch m nr M) (m0 : 0 ≤ m) (hb0 : 0 ≤ b) (hb1 : b < nr) (hbb : r 51 b = some bb) (hcl : 1 ≤ cl ∧ cl ≤ 12) :
    ∀ (f : Nat) (k : Int) (s : Nat → Int → Int) (B : Bs), 400 = k + f → 0 ≤ k → frV s0 s → kR s B → okB m cl B → metR (s 24) Mm → s 22 4 = 0 → s 35 5 = B.1 →
    (∀ s' E, E = evO cs hk ch (ru b) cl m.toNat f k B → frV s0 s' → kR s' E.2.2.2 → okB m cl E.2.2.2 → metR (s' 24) Mm → s' 22 4 = 0 → s' 35 5 = (if E.1 = 1 then 401 else E.2.2.2.1) →
      (E.1 = 0 → Q (some (vi 0)) (PS h s' r)) ∧ (E.1 = 1 → Q (some (vi (-2))) (PS h s' r)) ∧ (E.1 = 2 → (0 ≤ E.2.1 ∧ E.2.1 < E.2.2.2.1) → (0 ≤ E.2.2.1 ∧ E.2.2.1 < m) → rcv (PS h s' r) 36 3 (cz G mX3_rowThrough (d + 11) 0 0 [vo 36, vi E.2.1, vi E.2.2.1, vo 52] (PS h s' r) (fun v h18 => atI v (fun r19 => Q (some (vi r19)) h18))))) →
    pX7_seek_46 G (d + 11) 35 (some bb) cl (some 52) k (PS h s r) Q := by
  intro f
  induction f with
  | zero =>
    intro k s B hk0 k0 hfr hR hB hM h4 h5 hq
    refine vX7_seek_46 ?_
    rw [if_pos (by omega)]
    exact (hq s _ rfl hfr hR hB hM h4 (by rw [h5]; rfl)).1 rfl
  | succ f ih =>
    intro k s B hk0 k0 hfr hR hB hM h4 h5 hq
    have n4 := hB.1.2
    refine vX7_seek_46 ?_
    rw [if_neg (by omega), ro_35_1, rc_36]
    refine vX3_size ?_
    rw [ri_36_5, hR.1, atI_q]
    unfold evO at hq
    by_cases c : B.1 ≤ k
    · rw [if_pos c]
      rw [if_pos c] at hq
      exact (hq s _ rfl hfr hR hB hM h4 (by rw [h5]; rfl)).1 rfl
    · rw [if_neg c] at hq
      have hFk := (hB.2 k k0 (by omega)).2.1
      rw [if_neg c, ro_35_1, rc_36]
      refine vX3_depth ?_
      rw [if_neg (by omega), ri_36_5, hR.1, if_neg c, ro_36_3, ld_40, (hR.2.2 k k0 (by omega)).2.1]
      refine ⟨k0, by omega, ?_⟩
      rw [atI_q, w32_id (x := B.2.2.2.2 k + 1) (by omega) (by omega)]
      have go : ∀ may : Int, may = (if B.2.2.2.2 k + 1 < cl then 1 else 0) → pX7_seek_91 G (d + 11) 35 (some bb) cl (some 52) k may 0 (PS h s r) Q := by
        intro may hmay
        refine cEvI (d := d) hK0 hb0 hb1 hbb hcl k0 m.toNat 0 s B (by omega) (by decide) hfr hR hB (by omega) hmay hM h4 h5 (fun s' E hE q1 q2 q3 q4 q5 q6 q7 => ?_)
        rw [← hE] at hq
        refine ⟨fun e => ?_, fun e => ?_, fun e e0 e1 => ?_⟩
        · rw [if_pos e] at hq
          rw [e, if_neg (by decide)] at q7
          rw [w32_id (x := k + 1) (by omega) (by omega)]
          exact ih (k + 1) s' E.2.2 (by omega) (by omega) q1 q2 q3 q5 q6 q7 hq
        · rw [if_neg (by omega)] at hq
          exact (hq s' _ rfl q1 q2 q3 q5 q6 q7).2.1 e
        · rw [if_neg (by omega)] at hq
          exact (hq s' _ rfl q1 q2 q3 q5 q6 q7).2.2 e ⟨k0, q4⟩ ⟨e0, e1⟩
      by_cases hm : cl ≤ B.2.2.2.2 k + 1
      · rw [if_pos hm]; exact go 0 (by rw [if_neg (by omega)])
      · rw [if_neg hm]; exact go 1 (by rw [if_pos (by omega)])
/-- the class's search -/
theorem cSeek {s : Nat → Int → Int} (hK : KC h s r cs hk ru ch m nr M) (m0 : 0 ≤ m) (hb0 : 0 ≤ b) (hb1 : b < nr) (hbb : r 51 b = some bb) (hcl : 1 ≤ cl ∧ cl ≤ 12) (hM : metR (s 24) Mm) (h4 : s 22 4 = 0)
    (hq : ∀ s' E, E = evO cs hk ch (ru b) cl m.toNat 400 0 (bS0 M) → frV s s' → metR (s' 24) Mm → s' 22 4 = 0 → s' 35 5 = (if E.1 = 1 then 401 else E.2.2.2.1) → okB m cl E.2.2.2 →
      (E.1 = 0 → Q (some (vi 0)) (PS h s' r)) ∧ (E.1 = 1 → Q (some (vi (-2))) (PS h s' r)) ∧ (E.1 = 2 → (0 ≤ E.2.1 ∧ E.2.1 < E.2.2.2.1) → (0 ≤ E.2.2.1 ∧ E.2.2.1 < m) → ∀ (L : Nat) (g : Int → Int), E.2.2.2.2.2.2.2 E.2.1 = L → Q (some (vi ((L : Int) + 1))) (PS h (up s' 52 (rwL E.2.2.2.2.2.1 E.2.2.2.2.2.2.1 L E.2.1 (ud (s' 52) L E.2.2.1))) r))) :
    cz G mX7_seek (d + 12) 0 0 [vo 35, vo bb, vi cl, vo 52] (PS h s r) Q := by
  have k6 := hK.2.2.2.2.2
  refine vX7_seek (d := d + 11) ?_
  rw [ro_35_1, rc_36]
  refine vX3_clear ?_
  rw [ro_36_4]
  refine jFill (N := 1024) (by decide) (by decide) (fun s1 K => al_41) (fun s1 i x K => st_41) ?_
  rw [atV_q, wi_36_5, atV_q, ro_35_0, rc_27]
  refine sX4_toStart (d := d + 10) (fun g hg => ?_)
  rw [atV_q, ro_35_1, ro_35_0, ro_35_1, ro_35_0, rc_36]
  generalize hs1 : up (uf (up s 41 (cps (fun _ => 0) (s 41) 0 0 1024)) 36 5 0) 29 g = s1
  have z41 : ∀ x : Int, 0 ≤ x → x < 1024 → s1 41 x = 0 := by
    intro x x0 x1
    rw [← hs1]
    show cps (fun _ => 0) (s 41) 0 0 1024 x = 0
    rw [cps_at x0 x1]
  have fv1 : frV s s1 := by rw [← hs1]; exact frV_tr (frV_tr (frV_up (by decide)) (frV_uf (by decide))) (frV_up (by decide))
  have N1 : eq19 (s1 29) (stN M) := by
    rw [← hs1, up_at]
    exact eq19_tr hg (stN_eq (fun i i0 i1 => (k6 i i0 i1).1))
  have hT0 : hT (s1 41) 0 (fun _ => stN M) := ⟨fun x x0 x1 => by rw [z41 x x0 x1]; omega, by rw [cntZ_0 1024 (fun x x0 x1 => z41 x x0 (by omega))]; rfl, fun k k0 k1 => absurd k1 (by omega)⟩
  have kR0 : kR s1 (0, fun _ => stN M, fun _ => 0, fun _ => 0, fun _ => 0) := ⟨by rw [← hs1]; rfl, hT0, fun k k0 k1 => absurd (show k < 0 from k1) (by omega)⟩
  refine sX3_slotFor (d := d + 10) kR0 (show (0 : Int) ≤ 400 by decide) (fun th => ?_) (fun nth t x ht hx hgx hbx => ?_)
  · obtain ⟨k, k0, k1, _⟩ := th
    exact absurd (show k < 0 from k1) (by omega)
  rw [atI_q, rc_36]
  refine sX3_add (d := d + 9) (n := 0) (f := 0) kR0.1 (by decide) (by decide) (by omega) (by omega) (Or.inl ⟨by decide, rfl⟩) ?_
  rw [atV_q, wi_35_5]
  have hKC1 : KC h s r cs hk ru ch m nr M := hK
  have kR1 : kR (uf (sAd s1 0 x (-1) (-1) 0) 35 5 1) (bS0 M) := by
    refine ⟨rfl, ?_, fun k k0 k1 => ?_⟩
    · show hT (ud (s1 41) x (0 + 1)) 1 (fun _ => stN M)
      rw [hsh_e N1] at hx hbx
      have := hT_add hT0 hx ht hgx hbx
      rw [show ud (fun _ => stN M) 0 (stN M) = fun _ => stN M from funext (fun j => by rw [ud_ap]; split <;> rfl)] at this
      exact this
    · have k1' : k < 1 := k1
      have : k = 0 := by omega
      subst this
      refine ⟨fun i i0 i1 => ?_, rfl, fun z => absurd z (by decide)⟩
      show cps (s1 29) (s1 37) 0 (19 * 0) 19 (19 * 0 + i) = stN M i
      unfold cps
      rw [if_pos (by omega), show 0 + (19 * 0 + i - 19 * 0) = i by omega]
      exact N1 i i0 i1
  refine cEvO (d := d) (s0 := s) (Mm := Mm) hK m0 hb0 hb1 hbb hcl 400 0 _ (bS0 M) (by decide) (by decide) (frV_tr fv1 (frV_tr frV_Ad frV_35)) kR1 (okB_0 hcl.1 (fun i i0 i1 => (k6 i i0 i1).2)) ?_ ?_ rfl (fun s' E hE q1 q2 q3 q4 q5 q6 => ?_)
  · show metR (s1 24) Mm
    rw [← hs1]; exact hM
  · show s1 22 4 = 0
    rw [← hs1]; exact h4
  obtain ⟨y1, y2, y3⟩ := hq s' E hE q1 q4 q5 q6 q3
  refine ⟨y1, y2, fun e e0 e1 => ?_⟩
  have hF := (q3.2 E.2.1 e0.1 e0.2).2.1
  rw [rc_36]
  refine sX3_rowThrough (d := d + 10) (L := (E.2.2.2.2.2.2.2 E.2.1).toNat) q3 q2 hcl.2 e0.1 e0.2 (by omega) ?_
  rw [atI_q]
  exact y3 e e0 e1 _ (fun _ => 0) (by omega)
end CE
