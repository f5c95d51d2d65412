/-! TEXTS: the reference's next token, whole -/
section RN2
variable {h : az_H} {s : Nat → Int → Int} {r : Nat → Int → Option Nat} {G : az_G} {d : Nat} {Q : Option az_V → az_H → Prop} {T : Int → Int} {L e : Nat}
theorem sX11_atv (hx : rTx T L s) {x : Int} (x0 : 0 ≤ x) (hq : ∀ t : Int, (x < L → t = T x) → ((L : Int) ≤ x → t = 0) → Q (some (vi t)) (PS h s r)) : cz G mX11_at d 0 0 [vo 54, vi x] (PS h s r) Q :=
  sX11_at hx x0 (fun y => hq (T x) (fun _ => rfl) (fun z => absurd y (by omega))) (fun y => hq 0 (fun z => absurd y (by omega)) (fun _ => rfl))
theorem rn_w {s1 : Nat → Int → Int} (hx : rTx T L s1) (c : lxP T L e < L) (p1 : s1 54 3 = (lxP T L e : Nat)) (p2 : s1 54 4 = (lxP T L e : Nat)) (yl : isL (T (lxP T L e : Nat))) (hk : ∀ s', fr54 s1 s' → rTok T L s' e → Q none (PS h s' r)) : pX11_next_69 G (d + 2) 54 (PS h s1 r) Q := by
  have eE : go T L pFg (go T L pLt (lxP T L e)) = lxE T L e := by unfold lxE; rw [if_neg (by omega), if_pos yl]
  have eC : lxC T L e = wdC T (lxP T L e) (lxE T L e - lxP T L e) := by unfold lxC; rw [if_neg (by omega), if_pos yl]
  have gt := lxE_gt c
  have ge := lxE_le (T := T) (L := L) (e := e)
  have hEL : lxE T L e ≤ L := by rw [← eE]; exact go_le (go_le (by omega))
  have x4 := hx.2.2.2
  have key : pX11_next_69 G (d + 2) 54 (PS h (uf s1 54 4 (lxP T L e : Nat)) r) Q := by
    refine rn_word hx p1 c yl (fun E hE => ?_)
    rw [eE] at hE
    subst hE
    refine hk _ (fr54_tr (fr54_tr (fr54_tr (fr54_uf (by decide)) (fr54_uf (by decide))) (fr54_uf (by decide))) (fr54_uf (by decide))) ⟨p1, rfl, fun z => ?_, ?_⟩
    · exfalso
      rw [eC] at z
      have tq := x4 (lxP T L e : Nat) (by omega) (by omega)
      unfold wdC at z
      repeat' split at z
      all_goals omega
    · rw [eC]
      exact TK_w (w := if lxE T L e - lxP T L e ≤ 4 then wv T (lxP T L e) (lxE T L e - lxP T L e) else -1) yl (by omega) (fun j hj => x4 _ (by omega) (by omega)) (fun z => if_pos z) (fun z => if_neg z)
  rw [uf_same p2] at key
  exact key
theorem rn_n {s1 : Nat → Int → Int} (hx : rTx T L s1) (c : lxP T L e < L) (p1 : s1 54 3 = (lxP T L e : Nat)) (p2 : s1 54 4 = (lxP T L e : Nat)) (yl : ¬ isL (T (lxP T L e : Nat))) (yf : isF (T (lxP T L e : Nat))) (hk : ∀ s', fr54 s1 s' → rTok T L s' e → Q none (PS h s' r)) : pX11_next_202 G (d + 2) 54 (PS h (uf s1 54 6 0) r) Q := by
  have eE : go T L pFg (lxP T L e) = lxE T L e := by unfold lxE; rw [if_neg (by omega), if_neg yl, if_pos yf]
  have eC : lxC T L e = (if lxE T L e - lxP T L e ≤ 9 then 1 else 9) := by unfold lxC; rw [if_neg (by omega), if_neg yl, if_pos yf]
  have key : pX11_next_202 G (d + 2) 54 (PS h (uf (uf s1 54 4 (lxP T L e : Nat)) 54 6 0) r) Q := by
    refine rn_num hx p1 c (fun E hE => ?_)
    rw [eE] at hE
    subst hE
    refine hk _ (fr54_tr (fr54_tr (fr54_uf (by decide)) (fr54_uf (by decide))) (fr54_uf (by decide))) ⟨p1, rfl, fun z => ?_, ?_⟩
    · rw [eC] at z
      by_cases c9 : lxE T L e - lxP T L e ≤ 9
      · show nvr T (lxP T L e) (min (lxE T L e - lxP T L e) 9) = lxN T L e
        unfold lxN
        rw [Nat.min_eq_left c9]
      · rw [if_neg c9] at z; omega
    · rw [eC]
      show TK _ (if lxE T L e - lxP T L e ≤ 9 then 2 else 3) _
      by_cases c9 : lxE T L e - lxP T L e ≤ 9
      · rw [if_pos c9, if_pos c9]; exact Or.inr (Or.inl ⟨rfl, rfl⟩)
      · rw [if_neg c9, if_neg c9]; exact Or.inr (Or.inr (Or.inl ⟨rfl, rfl⟩))
  rw [uf_same p2] at key
  exact key
theorem rn_s {s1 : Nat → Int → Int} {t : Int} (c : lxP T L e < L) (p1 : s1 54 3 = (lxP T L e : Nat)) (yl : ¬ isL (T (lxP T L e : Nat))) (yf : ¬ isF (T (lxP T L e : Nat))) (ht : isS (T (lxP T L e : Nat)) ∧ t = T (lxP T L e : Nat) ∨ ¬ isS (T (lxP T L e : Nat)) ∧ t = 3) : rTok T L (uf (uf s1 54 4 ((lxP T L e + 1 : Nat) : Int)) 54 2 t) e := by
  have eE : lxE T L e = lxP T L e + 1 := by unfold lxE; rw [if_neg (by omega), if_neg yl, if_neg yf]
  have eC : lxC T L e = (if isS (T (lxP T L e : Nat)) then T (lxP T L e : Nat) else 9) := by unfold lxC; rw [if_neg (by omega), if_neg yl, if_neg yf]
  refine ⟨p1, ?_, fun z => ?_, ?_⟩
  · rw [eE]; rfl
  · exfalso
    rw [eC] at z
    rcases ht with ⟨h1, h2⟩ | ⟨h1, h2⟩
    · rw [if_pos h1] at z; unfold isS at h1; omega
    · rw [if_neg h1] at z; omega
  · rw [eC]
    show TK _ t _
    rcases ht with ⟨h1, h2⟩ | ⟨h1, h2⟩
    · rw [if_pos h1, h2]; exact Or.inr (Or.inr (Or.inr (Or.inl ⟨h1, rfl⟩)))
    · rw [if_neg h1, h2]; exact Or.inr (Or.inr (Or.inl ⟨rfl, rfl⟩))
theorem sX11_next (hx : rTx T L s) (he : s 54 4 = e) (heL : e ≤ L) (hk : ∀ s', fr54 s s' → rTok T L s' e → Q none (PS h s' r)) : cz G mX11_next (d + 3) 0 0 [vo 54] (PS h s r) Q := by
  have hpL := lxP_le (T := T) heL
  have hL2 := hx.2.1
  refine vX11_next ?_
  have A : ∀ (f i : Nat), L = i + f → go T L pSp i = lxP T L e → pX11_next_0 G (d + 2) 54 (PS h (uf s 54 4 i) r) Q := by
    intro f
    induction f with
    | zero =>
      intro i hi hg
      rw [go_n (by omega)] at hg
      refine vX11_next_0 ?_
      rw [ri_54_4, rc_54, show uf s 54 4 i 54 4 = (i : Int) from rfl]
      refine sX11_at (rTx_54 (fr54_uf (by decide)) hx) (by omega) (fun y => absurd y (by omega)) (fun _ => ?_)
      rw [atI_q, if_neg (by decide), ri_54_4, show uf s 54 4 i 54 4 = (i : Int) from rfl, wi_54_3, ri_54_3, rc_54, show uf (uf s 54 4 i) 54 3 i 54 3 = (i : Int) from rfl]
      refine sX11_at (rTx_54 (fr54_tr (fr54_uf (by decide)) (fr54_uf (by decide))) hx) (by omega) (fun y => absurd y (by omega)) (fun _ => ?_)
      rw [atI_q, ri_54_3, ri_54_1, show uf (uf s 54 4 i) 54 3 i 54 3 = (i : Int) from rfl, show uf (uf s 54 4 i) 54 3 i 54 1 = s 54 1 from rfl, hx.1, if_pos (by omega), wi_54_2]
      have eE : lxE T L e = lxP T L e := by unfold lxE; rw [if_pos (by omega)]
      have eC : lxC T L e = 0 := by unfold lxC; rw [if_pos (by omega)]
      refine hk _ (fr54_tr (fr54_tr (fr54_uf (by decide)) (fr54_uf (by decide))) (fr54_uf (by decide))) ⟨?_, ?_, fun z => ?_, ?_⟩
      · rw [← hg]; rfl
      · rw [eE, ← hg]; rfl
      · rw [eC] at z; omega
      · rw [eC]; exact Or.inl ⟨rfl, rfl⟩
    | succ f ih =>
      intro i hi hg
      refine vX11_next_0 ?_
      rw [ri_54_4, rc_54, show uf s 54 4 i 54 4 = (i : Int) from rfl]
      refine sX11_at (rTx_54 (fr54_uf (by decide)) hx) (by omega) (fun _ => ?_) (fun y => absurd y (by omega))
      rw [atI_q]
      by_cases c32 : T (i : Int) = 32
      · rw [if_pos c32, ri_54_4, wi_54_4, uf_uf, show uf s 54 4 i 54 4 = (i : Int) from rfl, show w32 ((i : Int) + 1) = ((i + 1 : Nat) : Int) by rw [w32_id] <;> omega]
        rw [go_y (by omega) (decide_eq_true c32)] at hg
        exact ih (i + 1) (by omega) hg
      rw [go_n (fun z => c32 (of_decide_eq_true z.2))] at hg
      have tq := hx.2.2.2 (i : Int) (by omega) (by omega)
      rw [if_neg c32, ri_54_4, show uf s 54 4 i 54 4 = (i : Int) from rfl, wi_54_3, ri_54_3, rc_54, show uf (uf s 54 4 i) 54 3 i 54 3 = (i : Int) from rfl]
      generalize hs1 : uf (uf s 54 4 i) 54 3 (i : Int) = s1
      have f1 : fr54 s s1 := by rw [← hs1]; exact fr54_tr (fr54_uf (by decide)) (fr54_uf (by decide))
      have p1 : s1 54 3 = (lxP T L e : Nat) := by rw [← hs1, ← hg]; rfl
      have p2 : s1 54 4 = (lxP T L e : Nat) := by rw [← hs1, ← hg]; rfl
      have hx1 := rTx_54 f1 hx
      have hk1 : ∀ s', fr54 s1 s' → rTok T L s' e → Q none (PS h s' r) := fun s' z1 z2 => hk s' (fr54_tr f1 z1) z2
      clear hk hs1 f1 ih
      have c : lxP T L e < L := by omega
      subst hg
      refine sX11_at hx1 (by omega) (fun _ => ?_) (fun y => absurd y (by omega))
      rw [atI_q, ri_54_3, ri_54_1, p1, hx1.1, if_neg (by omega)]
      generalize ht : T ((lxP T L e : Nat) : Int) = t
      refine sX11_isLetter (fun yl => ?_) (fun yl => ?_)
      · rw [atI_q, if_neg (by decide)]
        exact rn_w (d := d) hx1 c p1 p2 (by rw [ht]; exact yl) hk1
      rw [atI_q, if_pos rfl]
      refine sX11_isFigure (fun yf => ?_) (fun yf => ?_)
      · rw [atI_q, if_neg (by decide), wi_54_6]
        exact rn_n (d := d) hx1 c p1 p2 (by rw [ht]; exact yl) (by rw [ht]; exact yf) hk1
      · rw [atI_q, if_pos rfl, ri_54_4, p2, wi_54_4, show w32 (((lxP T L e : Nat) : Int) + 1) = ((lxP T L e + 1 : Nat) : Int) by rw [w32_id] <;> omega]
        have sg : ∀ u : Int, isS t → Q none (PS h (uf (uf s1 54 4 ((lxP T L e + 1 : Nat) : Int)) 54 2 t) r) := fun _ z => hk1 _ (fr54_tr (fr54_uf (by decide)) (fr54_uf (by decide))) (rn_s c p1 (by rw [ht]; exact yl) (by rw [ht]; exact yf) (Or.inl ⟨by rw [ht]; exact z, ht.symm⟩))
        by_cases k43 : t = 43
        · rw [if_pos k43, wi_54_2]; exact sg 0 (by unfold isS; omega)
        rw [if_neg k43]
        by_cases k45 : t = 45
        · rw [if_pos k45, wi_54_2]; exact sg 0 (by unfold isS; omega)
        rw [if_neg k45]
        by_cases k42 : t = 42
        · rw [if_pos k42, wi_54_2]; exact sg 0 (by unfold isS; omega)
        rw [if_neg k42]
        by_cases k47 : t = 47
        · rw [if_pos k47, wi_54_2]; exact sg 0 (by unfold isS; omega)
        rw [if_neg k47]
        by_cases k60 : t = 60
        · rw [if_pos k60, wi_54_2]; exact sg 0 (by unfold isS; omega)
        rw [if_neg k60]
        by_cases k61 : t = 61
        · rw [if_pos k61, wi_54_2]; exact sg 0 (by unfold isS; omega)
        rw [if_neg k61]
        by_cases k38 : t = 38
        · rw [if_pos k38, wi_54_2]; exact sg 0 (by unfold isS; omega)
        rw [if_neg k38]
        by_cases k124 : t = 124
        · rw [if_pos k124, wi_54_2]; exact sg 0 (by unfold isS; omega)
        rw [if_neg k124]
        by_cases k33 : t = 33
        · rw [if_pos k33, wi_54_2]; exact sg 0 (by unfold isS; omega)
        rw [if_neg k33]
        by_cases k40 : t = 40
        · rw [if_pos k40, wi_54_2]; exact sg 0 (by unfold isS; omega)
        rw [if_neg k40]
        by_cases k41 : t = 41
        · rw [if_pos k41, wi_54_2]; exact sg 0 (by unfold isS; omega)
        rw [if_neg k41]
        by_cases k123 : t = 123
        · rw [if_pos k123, wi_54_2]; exact sg 0 (by unfold isS; omega)
        rw [if_neg k123]
        by_cases k125 : t = 125
        · rw [if_pos k125, wi_54_2]; exact sg 0 (by unfold isS; omega)
        rw [if_neg k125]
        by_cases k59 : t = 59
        · rw [if_pos k59, wi_54_2]; exact sg 0 (by unfold isS; omega)
        rw [if_neg k59]
        rw [wi_54_2]
        exact hk1 _ (fr54_tr (fr54_uf (by decide)) (fr54_uf (by decide))) (rn_s c p1 (by rw [ht]; exact yl) (by rw [ht]; exact yf) (Or.inr ⟨by rw [ht]; unfold isS; omega, rfl⟩))
  have := A (L - e) e (by omega) rfl
  rw [uf_same he] at this
  exact this
end RN2
