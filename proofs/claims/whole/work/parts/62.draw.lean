/-! DRAW: the reference's rows; both loops -/
def okF (z : Z3) : Prop := z.2.2 = 0 ∨ z.2.2 = 1
theorem meetZ_F {w i : Int} {z : Z3} (hz : okF z) : okF (meetZ w i z) := by
  unfold meetZ
  split
  · exact hz
  split
  · exact Or.inr rfl
  · exact hz
theorem exec_F {hf : Z3 → Z3} {w : Int} {c : Cd} {k who n v : Int} (hh : ∀ z : Z3, okF z → okF (hf z)) : ∀ (f j : Nat) (st : List Int) (z : Z3), okF z → okF (exec hf w c k who n v f j st z).2
  | 0, _, _, _, hz => hz
  | f + 1, j, st, z, hz => by
    rw [exec_s]
    by_cases hj : c.1 ≤ j
    · rw [if_pos hj]; exact hz
    rw [if_neg hj]
    by_cases h20 : c.2.1 j < 20
    · rw [if_pos h20]
      cases rk (c.2.1 j) (c.2.2.1 j) who n v z.1 st with
      | none => exact hz
      | some st' => exact exec_F hh f (j + 1) st' z hz
    rw [if_neg h20]
    by_cases e20 : c.2.1 j = 20
    · rw [if_pos e20]
      by_cases cx : st.headD 0 = 0
      · rw [if_pos cx]; exact meetZ_F hz
      · rw [if_neg cx]; exact exec_F hh f (j + 1) [] _ (meetZ_F hz)
    rw [if_neg e20]
    by_cases e23 : c.2.1 j = 23
    · rw [if_pos e23]
      by_cases cx : st.headD 0 = 0
      · rw [if_pos cx]; exact exec_F hh f _ [] _ (meetZ_F hz)
      · rw [if_neg cx]; exact exec_F hh f (j + 1) [] _ (meetZ_F hz)
    rw [if_neg e23]
    by_cases e21 : c.2.1 j = 21
    · rw [if_pos e21]
      exact exec_F hh f (j + 1) [] _ hz
    rw [if_neg e21]
    by_cases cx : st.headD 0 < 0
    · rw [if_pos cx]; exact hz
    rw [if_neg cx]
    by_cases cy : z.1 18 < st.headD 0
    · rw [if_pos cy]; exact hz
    rw [if_neg cy]
    exact exec_F hh f (j + 1) [] _ (hh _ hz)
theorem perf_F {w : Int} {cs : Int → Option Cd} {hk : Int → Option (Int × Int)} : ∀ (m : Nat) {who k n v : Int} {z : Z3}, okF z → okF (perf w cs hk m who k n v z).2
  | 0, _, _, _, _, _, hz => hz
  | m + 1, who, k, n, v, z, hz => by
    cases hcs : cs k with
    | none => rw [perf_n (Or.inl hcs)]; exact hz
    | some c =>
      by_cases cv : z.1 (14 + who) < v
      · rw [perf_n (Or.inr cv)]; exact hz
      · rw [perf_s hcs cv]
        have hh : ∀ z : Z3, okF z → okF (hfZ w cs hk m who z) := by
          intro z hz
          unfold hfZ
          cases hk who with
          | none => exact hz
          | some q => exact perf_F m hz
        have key := exec_F (w := w) (c := c) (k := k) (who := who) (n := n) (v := v) hh (c.1 + 1) 0 [] (entZ who v z) hz
        generalize exec (hfZ w cs hk m who) w c k who n v (c.1 + 1) 0 [] (entZ who v z) = X at key
        obtain ⟨x1, x2⟩ := X
        cases x1 with
        | none => exact key
        | some st => exact key
theorem brk_F {w : Int} {cs : Int → Option Cd} {hk : Int → Option (Int × Int)} {ch : Ch} {rl : Cd} {g : Int → Int} : ∀ (f i : Nat) (z : Z3), okF z → okF (brk w cs hk ch rl g f i z).2
  | 0, _, _, hz => hz
  | f + 1, i, z, hz => by
    unfold brk
    split
    · exact brk_F f (i + 1) _ (perf_F 3 hz)
    · exact perf_F 3 hz
theorem brk_cut {w : Int} {cs : Int → Option Cd} {hk : Int → Option (Int × Int)} {ch : Ch} {rl : Cd} {g : Int → Int} : ∀ (f i : Nat) (z : Z3) (b : Nat), (brk w cs hk ch rl g f i z).1 = some b → (brk w cs hk ch rl g (b + 1 - i) i z).1 = some b
  | 0, _, _, _, e => by cases e
  | f + 1, i, z, b, e => by
    have hb := brk_lt (f + 1) i z b e
    rw [show b + 1 - i = (b - i) + 1 by omega]
    unfold brk at e ⊢
    by_cases hc : keepsR rl (att w cs hk ch (g i) z).1 = true
    · rw [if_pos hc] at e ⊢
      have h1 := brk_lt f (i + 1) _ b e
      have h2 := brk_cut f (i + 1) _ b e
      rw [show b + 1 - (i + 1) = b - i by omega] at h2
      exact h2
    · rw [if_neg hc] at e ⊢
      exact e
section DR
variable {h : az_H} {s : Nat → Int → Int} {r : Nat → Int → Option Nat} {G : az_G} {d : Nat} {Q : Option az_V → az_H → Prop} {m : Int} {K : Kp}
/-- the reference draws a row -/
theorem rDrw (hm : 0 < m) (m30 : m ≤ 30) (h40 : s 54 40 = m) (hok : okK m K) (e50 : s 54 50 = K.1) (e83 : s 83 = K.2.1) (e84 : s 84 = K.2.2)
    (hq : ∀ s', (∀ a, a ≠ 54 → a ≠ 82 → s' a = s a) → (∀ k, k ≠ 48 → k ≠ 58 → s' 54 k = s 54 k) → s' 54 58 = (drw m (s 54 58) K).1 → agR (s' 82) (drw m (s 54 58) K).2 → s' 54 48 = ((drw m (s 54 58) K).2.2 : Int) → Q none (PS h s' r)) : cz G mX11_drawRow (d + 2) 0 0 [vo 54] (PS h s r) Q := by
  have hb := dB_ok (x := s 54 58) hok
  have hw := dW_rg (x := s 54 58) hb.1
  have L : ∀ (f : Nat) (i mo : Int) (s1 : Nat → Int → Int), s1 54 40 = m → 0 ≤ s1 54 48 → s1 54 48 + f ≤ 12 → 0 ≤ i → i + f ≤ mo → mo ≤ 6 → (i + f = mo ∨ s1 54 48 + f = 12) →
      (∀ s', (∀ a, a ≠ 54 → a ≠ 82 → s' a = s1 a) → (∀ k, k ≠ 48 → k ≠ 58 → s' 54 k = s1 54 k) → s' 54 58 = (dF m f (s1 54 58) (s1 54 48) (s1 82)).1 → s' 82 = (dF m f (s1 54 58) (s1 54 48) (s1 82)).2 → s' 54 48 = s1 54 48 + f → Q none (PS h s' r)) → pX11_drawRow_88 G (d + 1) 54 mo i (PS h s1 r) Q := by
    intro f
    induction f with
    | zero =>
      intro i mo s1 h4 l0 l1 i0 i1 m6 ho hk
      refine vX11_drawRow_88 ?_
      have fin : Q none (PS h s1 r) := hk s1 (fun _ _ _ => rfl) (fun _ _ _ => rfl) rfl rfl (by omega)
      by_cases c : mo ≤ i
      · rw [if_pos c]; exact fin
      · rw [if_neg c, ri_54_48, if_pos (by omega)]; exact fin
    | succ f ih =>
      intro i mo s1 h4 l0 l1 i0 i1 m6 ho hk
      have hd := dn_rg (s1 54 58)
      refine vX11_drawRow_88 ?_
      rw [if_neg (by omega), ri_54_48, if_neg (by omega), ro_54_49, ri_54_48, rc_54]
      refine sX11_drawn ?_
      rw [atI_q, ri_54_40, show uf s1 54 58 (nx (s1 54 58)) 54 40 = s1 54 40 from rfl, h4, st_82, bRem_p hd.1 (by omega) hm (by omega)]
      refine ⟨by omega, l0, by omega, ?_⟩
      rw [ri_54_48, wi_54_48, show uf (uf s1 54 58 (nx (s1 54 58))) 82 (s1 54 48) (dn (s1 54 58) % m) 54 48 = s1 54 48 from rfl, w32_id (x := s1 54 48 + 1) (by omega) (by omega), w32_id (x := i + 1) (by omega) (by omega)]
      refine ih (i + 1) mo _ h4 (show 0 ≤ s1 54 48 + 1 by omega) (show s1 54 48 + 1 + f ≤ 12 by omega) (by omega) (by omega) m6 (show i + 1 + f = mo ∨ s1 54 48 + 1 + f = 12 by omega) (fun s' q1 q2 q3 q4 q5 => ?_)
      refine hk s' (fun a x y => ?_) (fun k x y => ?_) q3 q4 ?_
      · rw [q1 a x y, uf, up_ne x, uf, up_ne y, uf, up_ne x]
      · rw [q2 k x y]
        exact (ud_ne x).trans (ud_ne y)
      · rw [q5]
        show s1 54 48 + 1 + (f : Int) = s1 54 48 + ((f + 1 : Nat) : Int)
        omega
  have T : ∀ (l : Nat) (s1 : Nat → Int → Int), l = (dB (s 54 58) K).2 → (∀ a, a ≠ 54 → a ≠ 82 → s1 a = s a) → (∀ k, k ≠ 48 → k ≠ 58 → s1 54 k = s 54 k) → s1 54 58 = nx (s 54 58) → s1 54 48 = l → (∀ k : Int, 0 ≤ k → k < l → s1 82 k = (dB (s 54 58) K).1 k) →
      rcv (PS h s1 r) 54 11 (cz G mX11_drawn (d + 1) 0 0 [vo 54] (PS h s1 r) (fun v h5 => atI v (fun r6 => pX11_drawRow_88 G (d + 1) 54 (w32 (1 + (bRem r6 6))) 0 h5 Q))) := by
    intro l s1 hl e1 e2 e3 e4 e5
    have hd := dn_rg (nx (s 54 58))
    rw [rc_54]
    refine sX11_drawn ?_
    rw [atI_q, e3, bRem_p hd.1 (by omega) (by decide) (by decide), w32_id (by omega) (by omega)]
    subst hl
    have e48 : uf s1 54 58 (nx (nx (s 54 58))) 54 48 = ((dB (s 54 58) K).2 : Int) := e4
    have hWd : dW (s 54 58) (dB (s 54 58) K).2 = min ((dB (s 54 58) K).2 + (1 + (dn (nx (s 54 58)) % 6).toNat)) 12 := rfl
    refine L (dW (s 54 58) (dB (s 54 58) K).2 - (dB (s 54 58) K).2) 0 _ _ ((e2 40 (by decide) (by decide)).trans h40) (by rw [e48]; omega) (by rw [e48]; omega) (by decide) (by omega) (by omega) (by rw [e48]; omega) (fun s' q1 q2 q3 q4 q5 => ?_)
    rw [e48] at q3 q4 q5
    have hag := dF_ag (m := m) (dW (s 54 58) (dB (s 54 58) K).2 - (dB (s 54 58) K).2) (nx (nx (s 54 58))) ((dB (s 54 58) K).2 : Int) (s1 82) (dB (s 54 58) K).1 e5 (by omega)
    refine hq s' (fun a x y => ?_) (fun k x y => ?_) ?_ (fun k k0 k1 => ?_) ?_
    · rw [q1 a x y, uf, up_ne x]; exact e1 a x y
    · rw [q2 k x y]; exact (ud_ne y).trans (e2 k x y)
    · rw [q3]; exact hag.1
    · rw [q4]
      have k1' : k < (dW (s 54 58) (dB (s 54 58) K).2 : Int) := k1
      exact hag.2 k k0 (by omega)
    · rw [q5]
      show ((dB (s 54 58) K).2 : Int) + ((dW (s 54 58) (dB (s 54 58) K).2 - (dB (s 54 58) K).2 : Nat) : Int) = (dW (s 54 58) (dB (s 54 58) K).2 : Int)
      omega
  have hd := dn_rg (s 54 58)
  refine vX11_drawRow ?_
  rw [rc_54]
  refine sX11_drawn ?_
  rw [atI_q, wi_54_48, ri_54_50, show uf (uf s 54 58 (nx (s 54 58))) 54 48 0 54 50 = s 54 50 from rfl, e50]
  have hK0 := hok.1
  have fr1 : ∀ a, a ≠ 54 → a ≠ 82 → uf (uf s 54 58 (nx (s 54 58))) 54 48 0 a = s a := fun a x y => by rw [uf, up_ne x, uf, up_ne x]
  have fr2 : ∀ k, k ≠ 48 → k ≠ 58 → uf (uf s 54 58 (nx (s 54 58))) 54 48 0 54 k = s 54 k := fun k x y => (ud_ne x).trans (ud_ne y)
  by_cases c1 : K.1 ≤ 0
  · rw [if_pos c1]
    have eb : dB (s 54 58) K = (fun _ => 0, 0) := by unfold dB; rw [if_neg (by omega)]
    exact T 0 _ (by rw [eb]) fr1 fr2 rfl rfl (fun k k0 k1 => absurd k1 (by omega))
  rw [if_neg c1, bAnd_1]
  by_cases c2 : dn (s 54 58) % 2 = 1
  · have eb : dB (s 54 58) K = (fun i => K.2.2 (12 * (dn (s 54 58) / 2 % K.1) + i), (K.2.1 (dn (s 54 58) / 2 % K.1)).toNat) := by unfold dB; rw [if_pos ⟨by omega, c2⟩]
    rw [if_pos c2, ri_54_50, show uf (uf s 54 58 (nx (s 54 58))) 54 48 0 54 50 = s 54 50 from rfl, e50, bDiv_p hd.1 (by omega) (by decide) (by decide), bRem_p (by omega) (by omega) (by omega) (by omega)]
    refine ⟨by omega, ?_⟩
    have h0 := Int.emod_nonneg (dn (s 54 58) / 2) (show K.1 ≠ 0 by omega)
    have h1 := Int.emod_lt_of_pos (dn (s 54 58) / 2) (show 0 < K.1 by omega)
    obtain ⟨w5, w6⟩ := hok.2 _ h0 h1
    generalize dn (s 54 58) / 2 % K.1 = kk at h0 h1 w5 w6 eb ⊢
    rw [ro_54_51, ld_83]
    refine ⟨h0, by omega, ?_⟩
    rw [wi_54_48, show uf (uf s 54 58 (nx (s 54 58))) 54 48 0 83 kk = s 83 kk from rfl, e83]
    obtain ⟨n, hn⟩ : ∃ n : Nat, K.2.1 kk = n := ⟨(K.2.1 kk).toNat, by omega⟩
    rw [hn] at w5 w6 eb ⊢
    have C : ∀ (f : Nat) (i : Int) (s1 : Nat → Int → Int), (n : Int) = i + f → 0 ≤ i → (∀ a, a ≠ 54 → a ≠ 82 → s1 a = s a) → (∀ k, k ≠ 48 → k ≠ 58 → s1 54 k = s 54 k) → s1 54 58 = nx (s 54 58) → s1 54 48 = n → (∀ k : Int, 0 ≤ k → k < i → s1 82 k = K.2.2 (12 * kk + k)) → pX11_drawRow_45 G (d + 1) 54 kk i (PS h s1 r) Q := by
      intro f
      induction f with
      | zero =>
        intro i s1 hi i0 e1 e2 e3 e4 e5
        refine vX11_drawRow_45 ?_
        rw [ri_54_48, e4, if_pos (by omega)]
        refine T n s1 (by rw [eb]; rfl) e1 e2 e3 e4 (fun k k0 k1 => ?_)
        rw [eb]
        exact e5 k k0 (by omega)
      | succ f ih =>
        intro i s1 hi i0 e1 e2 e3 e4 e5
        refine vX11_drawRow_45 ?_
        rw [ri_54_48, e4, if_neg (by omega), ro_54_49, ro_54_52, w32_id (x := 12 * kk) (by omega) (by omega), w32_id (x := 12 * kk + i) (by omega) (by omega), ld_84]
        refine ⟨by omega, by omega, ?_⟩
        rw [st_82, w32_id (x := i + 1) (by omega) (by omega)]
        refine ⟨i0, by omega, ?_⟩
        refine ih (i + 1) _ (by omega) (by omega) (fun a x y => ?_) e2 e3 e4 (fun k k0 k1 => ?_)
        · rw [uf, up_ne y]; exact e1 a x y
        · show ud (s1 82) i (s1 84 (12 * kk + i)) k = _
          rw [ud_ap]
          by_cases ck : k = i
          · rw [if_pos ck, e1 84 (by decide) (by decide), e84, ck]
          · rw [if_neg ck]; exact e5 k k0 (by omega)
    refine C n 0 _ (by omega) (by decide) (fun a x y => ?_) (fun k x y => ?_) rfl rfl (fun k k0 k1 => absurd k1 (by omega))
    · rw [uf, up_ne x]; exact fr1 a x y
    · exact (ud_ne x).trans (fr2 k x y)
  · rw [if_neg c2]
    have eb : dB (s 54 58) K = (fun _ => 0, 0) := by unfold dB; rw [if_neg (by omega)]
    exact T 0 _ (by rw [eb]) fr1 fr2 rfl rfl (fun k k0 k1 => absurd k1 (by omega))
end DR
