/-! ROWS OF CALLS, and where they break a rule -/
abbrev Ch : Type := Int → Int × Int × Int × Int
def att (w : Int) (cs : Int → Option Cd) (hk : Int → Option (Int × Int)) (ch : Ch) (i : Int) (z : Z3) : Z3 := (perf w cs hk 3 (ch i).1 (ch i).2.1 (ch i).2.2.1 (ch i).2.2.2 z).2
def brk (w : Int) (cs : Int → Option Cd) (hk : Int → Option (Int × Int)) (ch : Ch) (rl : Cd) (g : Int → Int) : Nat → Nat → Z3 → Option Nat × Z3
  | 0, _, z => (none, z)
  | f + 1, i, z => if keepsR rl (att w cs hk ch (g i) z).1 then brk w cs hk ch rl g f (i + 1) (att w cs hk ch (g i) z) else (some i, att w cs hk ch (g i) z)
def bI (o : Option Nat) : Int := match o with
  | some i => (i : Int)
  | none => -2
section BR
variable {w w' : Int} {cs : Int → Option Cd} {hk : Int → Option (Int × Int)} {ch : Ch} {rl : Cd} {g g' : Int → Int}
theorem att_in {i : Int} {z z' : Z3} (e : z.1 = z'.1) : (att w cs hk ch i z).1 = (att w' cs hk ch i z').1 := (perf_in 3 e).2
theorem att_q0 {i : Int} {z : Z3} : (att 0 cs hk ch i z).2 = z.2 := perf_q0 3
theorem brk_in : ∀ (f i : Nat) (z z' : Z3), z.1 = z'.1 → (brk w cs hk ch rl g f i z).1 = (brk w' cs hk ch rl g f i z').1
  | 0, _, _, _, _ => rfl
  | f + 1, i, z, z', e => by
    have e1 := att_in (w := w) (w' := w') (cs := cs) (hk := hk) (ch := ch) (i := g i) e
    unfold brk
    rw [← e1]
    by_cases c : keepsR rl (att w cs hk ch (g i) z).1 = true
    · rw [if_pos c, if_pos c]; exact brk_in f (i + 1) _ _ e1
    · rw [if_neg c, if_neg c]
theorem brk_q0 : ∀ (f i : Nat) (z : Z3), (brk 0 cs hk ch rl g f i z).2.2 = z.2
  | 0, _, _ => rfl
  | f + 1, i, z => by
    unfold brk
    split
    · rw [brk_q0 f (i + 1)]; exact att_q0
    · exact att_q0
theorem brk_ext : ∀ (f i : Nat) (z : Z3), (∀ k : Nat, i ≤ k → k < i + f → g k = g' k) → brk w cs hk ch rl g f i z = brk w cs hk ch rl g' f i z
  | 0, _, _, _ => rfl
  | f + 1, i, z, e => by
    unfold brk
    rw [e i (Nat.le_refl _) (by omega), brk_ext f (i + 1) _ (fun k k0 k1 => e k (by omega) (by omega))]
theorem brk_lt : ∀ (f i : Nat) (z : Z3) (b : Nat), (brk w cs hk ch rl g f i z).1 = some b → i ≤ b ∧ b < i + f
  | 0, _, _, _, e => by cases e
  | f + 1, i, z, b, e => by
    unfold brk at e
    split at e
    · have := brk_lt f (i + 1) _ b e
      omega
    · have := Option.some.inj e
      omega
/-- before the place where a row breaks, it doesn't -/
theorem brk_pre : ∀ (f i : Nat) (z : Z3) (b : Nat), (brk w cs hk ch rl g f i z).1 = some b → (brk w cs hk ch rl g (b - i) i z).1 = none
  | 0, _, _, _, e => by cases e
  | f + 1, i, z, b, e => by
    have hb := brk_lt (f + 1) i z b e
    unfold brk at e
    split at e
    · rename_i hc
      have h1 := brk_lt f (i + 1) _ b e
      have h2 := brk_pre f (i + 1) _ b e
      rw [show b - i = (b - (i + 1)) + 1 by omega]
      unfold brk
      rw [if_pos hc]
      exact h2
    · have := Option.some.inj e
      rw [show b - i = 0 by omega]
      rfl
end BR
def hCh (h : az_H) (r : Nat → Int → Option Nat) (ch : Ch) (m : Int) : Prop := ∀ i, 0 ≤ i → i < m → (0 ≤ (ch i).1 ∧ (ch i).1 < 4) ∧ (0 ≤ (ch i).2.1 ∧ (ch i).2.1 < 6) ∧ ∃ b, r 42 i = some b ∧ 89 ≤ b ∧ h.1 b = cO 0 [vi (ch i).1, vi (ch i).2.1, vi (ch i).2.2.1, vi (ch i).2.2.2]
section BL
variable {h : az_H} {s : Nat → Int → Int} {r : Nat → Int → Option Nat} {G : az_G} {d : Nat} {Q : Option az_V → az_H → Prop} {w : Int} {cs : Int → Option Cd} {hk : Int → Option (Int × Int)} {ch : Ch} {rl : Cd} {z : Z3} {b : Nat} {lv ru m e : Int}
/-- a choice is done, by the class -/
theorem cAtt (hE : CEnv h r cs hk) (hch : hCh h r ch m) (h4 : s 35 4 = m) (m30 : m ≤ 30) (e0 : 0 ≤ e) (e1 : e < m) (hst : cSt w s z) (hq : ∀ s', cSt w s' (att w cs hk ch e z) → frM 31 s s' → ∀ x, Q (some (vi x)) (PS h s' r)) : cz G mX7_choiceAt (d + 11) 0 0 [vo 35, vi e] (PS h s r) (fun v h5 => atR v (fun r6 => rcv h5 27 4 (cz G mX4_attempt (d + 11) 0 0 [vo 27, vr r6] h5 Q))) := by
  obtain ⟨c1, c2, bb, c3, c4, c5⟩ := hch e e0 e1
  refine vX7_choiceAt ?_
  rw [if_neg (by omega), ri_35_4, h4, if_neg (by omega), ro_35_2, lr_42, c3]
  refine ⟨by omega, by omega, ?_⟩
  rw [atR_q, rc_27]
  refine sX4_attempt (b := bb) hE hst (fun s' => (PS_out c4).trans c5) c1 c2 (fun s' q1 q2 => hq s' q1 q2 _)
theorem rAtt (hE : REnv s cs hk) (hc : ∀ i, 0 ≤ i → i < m → ch i = (s 76 i, s 77 i, s 78 i, s 79 i) ∧ (0 ≤ (ch i).1 ∧ (ch i).1 < 4) ∧ (0 ≤ (ch i).2.1 ∧ (ch i).2.1 < 6)) (m30 : m ≤ 30) (e0 : 0 ≤ e) (e1 : e < m) (hst : rSt w s z) (hq : ∀ s', rSt w s' (att w cs hk ch e z) → frX s s' → Q none (PS h s' r)) : cz G mX11_choose (d + 5) 0 0 [vo 54, vi e] (PS h s r) Q := by
  obtain ⟨c1, c2, c3⟩ := hc e e0 e1
  refine vX11_choose ?_
  rw [ro_54_41, ld_76]
  refine ⟨by omega, by omega, ?_⟩
  rw [ro_54_42, ld_77]
  refine ⟨by omega, by omega, ?_⟩
  rw [ro_54_43, ld_78]
  refine ⟨by omega, by omega, ?_⟩
  rw [ro_54_44, ld_79, rc_54]
  refine ⟨by omega, by omega, ?_⟩
  unfold att at hq
  rw [c1] at c2 c3 hq
  refine sX11_run (d := d) hE hst c2 c3 (fun s' q1 q2 => ?_)
  rw [atI_q]
  exact hq s' q1 q2
theorem cBrk {a : Nat} (ha : a ≠ 22 ∧ a ≠ 24 ∧ a ≠ 27 ∧ a ≠ 29 ∧ a ≠ 34 ∧ ¬ (31 ≤ a ∧ a ≤ 33)) (hal : ∀ (s1 : Nat → Int → Int) (K : Int → Prop), aln (PS h s1 r) a K = K 12) (hld : ∀ (s1 : Nat → Int → Int) (i : Int) (K : Int → Prop), ldI (PS h s1 r) a .int i K = (0 ≤ i ∧ i < 12 ∧ K (s1 a i)))
    (hE : CEnv h r cs hk) (hch : hCh h r ch m) (m30 : m ≤ 30) (hC : cCode h b lv rl) (hwf : wfR rl) {s0 : Nat → Int → Int} (h4 : s0 35 4 = m) {n : Nat} (hn : n ≤ 12) (hrow : ∀ k : Int, 0 ≤ k → k < n → 0 ≤ s0 a k ∧ s0 a k < m) :
    ∀ (f i : Nat) (s : Nat → Int → Int) (z : Z3), n = i + f → cSt w s z → frM 31 s0 s → (∀ s', cSt w s' (brk w cs hk ch rl (s0 a) f i z).2 → frM 31 s0 s' → Q (some (vi (bI (brk w cs hk ch rl (s0 a) f i z).1))) (PS h s' r)) → pX7_breaksAt_10 G (d + 11) 35 (some a) n (some b) i (PS h s r) Q := by
  intro f
  induction f with
  | zero =>
    intro i s z hi hst hfr hq
    refine vX7_breaksAt_10 ?_
    rw [if_pos (by omega)]
    exact hq s hst hfr
  | succ f ih =>
    intro i s z hi hst hfr hq
    have ea : s a = s0 a := hfr a ha.1 ha.2.1 ha.2.2.1 ha.2.2.2.1 ha.2.2.2.2.1 ha.2.2.2.2.2
    have e35 : s 35 = s0 35 := hfr 35 (by decide) (by decide) (by decide) (by decide) (by decide) (by decide)
    have hr := hrow i (by omega) (by omega)
    refine vX7_breaksAt_10 ?_
    rw [if_neg (by omega), nnR_q, hal, if_neg (by omega), ro_35_0, hld, ea, rc_35]
    refine ⟨by omega, by omega, ?_⟩
    refine cAtt hE hch (by rw [e35]; exact h4) m30 hr.1 hr.2 hst (fun s1 q1 q2 x => ?_)
    rw [atI_q, ro_35_0, rc_27]
    refine sX4_keeps (d := d + 7) hE hC hwf q1 (fun s2 q3 q4 => ?_)
    rw [atI_q]
    have f2 : frM 31 s0 s2 := frM_tr (Nat.le_refl _) (frM_tr (Nat.le_refl _) hfr q2) (frM_tr (q' := 34) (by decide) frM_rf q4)
    unfold brk at hq
    cases hkp : keepsR rl (att w cs hk ch (s0 a i) z).1 with
    | false =>
      rw [hkp, if_neg (by decide)] at hq
      rw [if_pos (show (if false = true then (1 : Int) else 0) = 0 from rfl)]
      exact hq s2 q3 f2
    | true =>
      rw [hkp, if_pos rfl] at hq
      rw [if_neg (show ¬ (if true = true then (1 : Int) else 0) = 0 by decide)]
      have ei : w32 ((i : Int) + 1) = ((i + 1 : Nat) : Int) := by rw [w32_id] <;> omega
      rw [ei]
      exact ih (i + 1) s2 _ (by omega) q3 f2 hq
/-- where a row in the class breaks a rule -/
theorem sX7_breaksAt {a : Nat} (ha : a ≠ 22 ∧ a ≠ 24 ∧ a ≠ 27 ∧ a ≠ 29 ∧ a ≠ 34 ∧ ¬ (31 ≤ a ∧ a ≤ 33)) (hal : ∀ (s1 : Nat → Int → Int) (K : Int → Prop), aln (PS h s1 r) a K = K 12) (hld : ∀ (s1 : Nat → Int → Int) (i : Int) (K : Int → Prop), ldI (PS h s1 r) a .int i K = (0 ≤ i ∧ i < 12 ∧ K (s1 a i)))
    (hE : CEnv h r cs hk) (hch : hCh h r ch m) (m30 : m ≤ 30) (hC : cCode h b lv rl) (hwf : wfR rl) (h4 : s 35 4 = m) {n : Nat} (hn : n ≤ 12) (hrow : ∀ k : Int, 0 ≤ k → k < n → 0 ≤ s a k ∧ s a k < m) {M N : Int → Int} {f : Int} (hM : metR (s 24) M) (hf : s 22 5 = f) (hw : s 22 4 = w) (hN : eq19 (stN (s 25)) N) (hR : rgN N)
    (hq : ∀ s', cSt w s' (brk w cs hk ch rl (s a) n 0 (N, M, f)).2 → frM 31 s s' → Q (some (vi (bI (brk w cs hk ch rl (s a) n 0 (N, M, f)).1))) (PS h s' r)) : cz G mX7_breaksAt (d + 12) 0 0 [vo 35, vo a, vi n, vo b] (PS h s r) Q := by
  refine vX7_breaksAt (d := d + 11) ?_
  rw [ro_35_0, rc_27]
  refine sX4_toStart (d := d + 10) (fun g hg => ?_)
  rw [atV_q]
  have ea : up s 29 g a = s a := up_ne ha.2.2.2.1
  exact cBrk (s0 := up s 29 g) ha hal hld hE hch m30 hC hwf h4 hn (by rw [ea]; exact hrow) n 0 (up s 29 g) (N, M, f) (by omega) ⟨eq19_tr hg hN, hM, hf, hw, hR⟩ frM_rf (fun s' q1 q2 => by
    rw [ea] at q1 ⊢
    exact hq s' q1 (frM_tr (Nat.le_refl _) (frM_up (by decide)) q2))
def er (g : Int → Int) (i : Int) : Int → Int := fun k => if k < i then g k else g (k + 1)
theorem rBrk {but : Int} (hb : -1 ≤ but) (hru : 0 ≤ ru ∧ ru < 8) (hwf : wfR rl) (m30 : m ≤ 30) {s0 : Nat → Int → Int} {n n' : Nat} (h48 : s0 54 48 = n) (hn : n ≤ 12) (hrow : ∀ k : Int, 0 ≤ k → k < n → 0 ≤ s0 82 k ∧ s0 82 k < m) {g' : Int → Int}
    (hg : but = -1 ∧ n' = n ∧ (∀ k, g' k = s0 82 k) ∨ 0 ≤ but ∧ but < n ∧ n = n' + 1 ∧ ∀ k, g' k = er (s0 82) but k)
    (hE : REnv s0 cs hk) (hRc : rCode s0 (6 + ru) rl) (hc : ∀ i, 0 ≤ i → i < m → ch i = (s0 76 i, s0 77 i, s0 78 i, s0 79 i) ∧ (0 ≤ (ch i).1 ∧ (ch i).1 < 4) ∧ (0 ≤ (ch i).2.1 ∧ (ch i).2.1 < 6)) :
    ∀ (t : Nat) (i mm f : Nat) (s : Nat → Int → Int) (z : Z3), n = i + t → (mm : Int) = (if 0 ≤ but ∧ but < i then (i : Int) - 1 else i) → n' = mm + f → rSt w s z → frX s0 s → (∀ s', rSt w s' (brk w cs hk ch rl g' f mm z).2 → frX s0 s' → Q (some (vi (bI (brk w cs hk ch rl g' f mm z).1))) (PS h s' r)) → pX11_breaksAt_9 G (d + 5) 54 ru but mm i (PS h s r) Q := by
  intro t
  induction t with
  | zero =>
    intro i mm f s z hi hmm hf hst hfr hq
    have e48 : s 54 48 = n := (hfr.2 48 (by decide) (by decide) (by decide) (by decide)).trans h48
    refine vX11_breaksAt_9 ?_
    rw [ri_54_48, e48, if_pos (by omega)]
    have f0 : f = 0 := by
      rcases hg with y | y
      · rw [if_neg (by omega)] at hmm; omega
      · rw [if_pos (by omega)] at hmm; omega
    subst f0
    exact hq s hst hfr
  | succ t ih =>
    intro i mm f s z hi hmm hf hst hfr hq
    have e48 : s 54 48 = n := (hfr.2 48 (by decide) (by decide) (by decide) (by decide)).trans h48
    have e82 : s 82 = s0 82 := hfr.1 82 (by decide) (by decide) (by decide)
    refine vX11_breaksAt_9 ?_
    rw [ri_54_48, e48, if_neg (by omega)]
    by_cases cb : (i : Int) = but
    · rw [if_pos cb, show w32 ((i : Int) + 1) = ((i + 1 : Nat) : Int) by rw [w32_id] <;> omega]
      refine ih (i + 1) mm f s z (by omega) ?_ hf hst hfr hq
      rw [if_neg (by omega)] at hmm
      rw [if_pos (by omega)]
      omega
    · rw [if_neg cb, ro_54_49, ld_82, e82, rc_54]
      have hr := hrow i (by omega) (by omega)
      refine ⟨by omega, by omega, ?_⟩
      have hgi : g' mm = s0 82 i := by
        rcases hg with ⟨y1, y2, y3⟩ | ⟨y1, y2, y3, y4⟩
        · rw [if_neg (by omega)] at hmm
          rw [y3, hmm]
        · rw [y4]
          unfold er
          by_cases c : but < i
          · rw [if_pos (by omega)] at hmm
            rw [if_neg (by omega), hmm, show (i : Int) - 1 + 1 = i by omega]
          · rw [if_neg (by omega)] at hmm
            rw [if_pos (by omega), hmm]
      have hf1 : ∃ f', f = f' + 1 := by
        rcases hg with y | y
        · rw [if_neg (by omega)] at hmm
          exact ⟨f - 1, by omega⟩
        · by_cases c : but < i
          · rw [if_pos (by omega)] at hmm
            exact ⟨f - 1, by omega⟩
          · rw [if_neg (by omega)] at hmm
            exact ⟨f - 1, by omega⟩
      obtain ⟨f', rfl⟩ := hf1
      have hE1 : REnv s cs hk := REnv_fr hfr hE
      have hc1 : ∀ i, 0 ≤ i → i < m → ch i = (s 76 i, s 77 i, s 78 i, s 79 i) ∧ (0 ≤ (ch i).1 ∧ (ch i).1 < 4) ∧ (0 ≤ (ch i).2.1 ∧ (ch i).2.1 < 6) := by
        rw [hfr.1 76 (by decide) (by decide) (by decide), hfr.1 77 (by decide) (by decide) (by decide), hfr.1 78 (by decide) (by decide) (by decide), hfr.1 79 (by decide) (by decide) (by decide)]
        exact hc
      refine rAtt hE1 hc1 m30 hr.1 hr.2 hst (fun s1 q1 q2 => ?_)
      rw [atV_q, rc_54]
      have f1 : frX s0 s1 := frX_tr hfr q2
      have hRc1 : rCode s1 (6 + ru) rl := by
        unfold rCode at *
        rw [f1.1 59 (by decide) (by decide) (by decide), f1.1 56 (by decide) (by decide) (by decide), f1.1 57 (by decide) (by decide) (by decide), f1.1 58 (by decide) (by decide) (by decide)]
        exact hRc
      refine sX11_isBroken (d := d + 1) hru hRc1 hwf q1 (fun s2 q3 q4 => ?_)
      rw [atI_q]
      unfold brk at hq
      rw [hgi] at hq
      cases hkp : keepsR rl (att w cs hk ch (s0 82 i) z).1 with
      | false =>
        rw [hkp, if_neg (by decide)] at hq
        rw [if_neg (show ¬ (if false = true then (0 : Int) else 1) = 0 by decide)]
        exact hq s2 q3 (frX_tr f1 q4)
      | true =>
        rw [hkp, if_pos rfl] at hq
        rw [if_pos (show (if true = true then (0 : Int) else 1) = 0 from rfl), show w32 ((i : Int) + 1) = ((i + 1 : Nat) : Int) by rw [w32_id] <;> omega]
        have mm12 : mm < 13 := by omega
        rw [show w32 ((mm : Int) + 1) = ((mm + 1 : Nat) : Int) by clear hmm; rw [w32_id] <;> omega]
        refine ih (i + 1) (mm + 1) f' s2 _ (by omega) ?_ (by omega) q3 (frX_tr f1 q4) hq
        by_cases c : 0 ≤ but ∧ but < i
        · rw [if_pos c] at hmm
          rw [if_pos (by omega)]
          omega
        · rw [if_neg c] at hmm
          rw [if_neg (by omega)]
          omega
/-- where the reference's row breaks a rule -/
theorem sX11_breaksAt {but : Int} (hb : -1 ≤ but) (hru : 0 ≤ ru ∧ ru < 8) (hwf : wfR rl) (m30 : m ≤ 30) {n n' : Nat} (h48 : s 54 48 = n) (hn : n ≤ 12) (hrow : ∀ k : Int, 0 ≤ k → k < n → 0 ≤ s 82 k ∧ s 82 k < m) {g' : Int → Int}
    (hg : but = -1 ∧ n' = n ∧ (∀ k, g' k = s 82 k) ∨ 0 ≤ but ∧ but < n ∧ n = n' + 1 ∧ ∀ k, g' k = er (s 82) but k)
    (hE : REnv s cs hk) (hRc : rCode s (6 + ru) rl) (hc : ∀ i, 0 ≤ i → i < m → ch i = (s 76 i, s 77 i, s 78 i, s 79 i) ∧ (0 ≤ (ch i).1 ∧ (ch i).1 < 4) ∧ (0 ≤ (ch i).2.1 ∧ (ch i).2.1 < 6)) {M N : Int → Int} {f : Int} (hM : ∀ i, 0 ≤ i → i < 144 → s 69 i = M i) (hf : s 54 30 = f) (hw : s 54 29 = w) (hN : eq19 (stN (s 66)) N) (hR : rgN N)
    (hq : ∀ s', rSt w s' (brk w cs hk ch rl g' n' 0 (N, M, f)).2 → frX s s' → Q (some (vi (bI (brk w cs hk ch rl g' n' 0 (N, M, f)).1))) (PS h s' r)) : cz G mX11_breaksAt (d + 6) 0 0 [vo 54, vi ru, vi but] (PS h s r) Q := by
  refine vX11_breaksAt (d := d + 5) ?_
  rw [rc_54]
  refine sX11_toStart (d := d + 4) (fun g hg2 => ?_)
  rw [atV_q]
  have hf0 : frX s (up s 64 g) := frX_up (by decide)
  exact rBrk (s0 := up s 64 g) hb hru hwf m30 h48 hn hrow hg (REnv_fr hf0 hE) hRc hc n 0 0 n' (up s 64 g) (N, M, f) (by omega) (by rw [if_neg (by omega)]) (by omega) ⟨eq19_tr hg2 hN, hM, hf, hw, hR⟩ frX_rf (fun s' q1 q2 => hq s' q1 (frX_tr hf0 q2))
end BL
