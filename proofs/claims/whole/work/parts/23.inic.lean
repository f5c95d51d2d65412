/-! the two constructors, whole -/
section INJ
variable {G : az_G} {d : Nat} {Q : Option az_V → az_H → Prop} {h : az_H}
set_option maxRecDepth 20000 in
set_option maxHeartbeats 4000000 in
theorem ini_c (hs : h.2 = 16) (hq : ∀ h', h'.2 = 54 → (∀ i, i < 16 → h'.1 i = h.1 i) → (∀ i, 16 ≤ i → i < 54 → h'.1 i = pcx i (fun _ => 0) (A0 i) (B0 i)) → (∀ i, 54 ≤ i → h'.1 i = h.1 i) → Q none h') : cz G mX10_init (d + 4) 37 11673 [vo 16] (hpsh h (cO 10 [vn, vn, vn, vn, vn, vn, vn, vn, vn, vn, vi 0, vi 0])) Q := by
  have hS : iS h 17 (hpsh h (cO 10 [vn, vn, vn, vn, vn, vn, vn, vn, vn, vn, vi 0, vi 0])) := ⟨by show h.2 + 1 = 17; omega, fun i i1 i2 => by omega, fun i i1 => psh_ne (by omega), fun i i1 => psh_ne (by omega)⟩
  have h16 : (hpsh h (cO 10 [vn, vn, vn, vn, vn, vn, vn, vn, vn, vn, vi 0, vi 0])).1 16 = cO 10 [vn, vn, vn, vn, vn, vn, vn, vn, vn, vn, vi 0, vi 0] := by rw [← hs]; exact psh_at _
  generalize hpsh h (cO 10 [vn, vn, vn, vn, vn, vn, vn, vn, vn, vn, vi 0, vi 0]) = g at hS h16
  refine vX10_init ?_
  with_reducible refine nwO_i ?_
  have eg := hS.1
  refine iX8 hS (fun g' hS' e16 => ?_)
  rw [h16] at e16
  with_reducible refine atV_i ?_
  rw [eg]
  clear hS h16 eg
  refine wrF_i e16 True.intro ?_
  rw [show hset g' 16 (cO 10 (List.set [vn, vn, vn, vn, vn, vn, vn, vn, vn, vn, vi 0, vi 0] 0 (vo 17))) = hset g' 16 (cO 10 [vo 17, vn, vn, vn, vn, vn, vn, vn, vn, vn, vi 0, vi 0]) from rfl]
  have hS : iS h 19 (hset g' 16 (cO 10 [vo 17, vn, vn, vn, vn, vn, vn, vn, vn, vn, vi 0, vi 0])) := ⟨hS'.1, fun i i1 i2 => by rw [hset_ne (by omega)]; exact hS'.2.1 i i1 i2, fun i i1 => by rw [hset_ne (by omega)]; exact hS'.2.2.1 i i1, fun i i1 => by rw [hset_ne (by omega)]; exact hS'.2.2.2 i i1⟩
  have h16 : (hset g' 16 (cO 10 [vo 17, vn, vn, vn, vn, vn, vn, vn, vn, vn, vi 0, vi 0])).1 16 = cO 10 [vo 17, vn, vn, vn, vn, vn, vn, vn, vn, vn, vi 0, vi 0] := hset_at _ _ _
  generalize hset g' 16 (cO 10 [vo 17, vn, vn, vn, vn, vn, vn, vn, vn, vn, vi 0, vi 0]) = g at hS h16 ⊢
  clear hS' e16
  with_reducible refine nwO_i ?_
  refine rdO_i (fs := [vo 17, vn, vn, vn, vn, vn, vn, vn, vn, vn, vi 0, vi 0]) (by rw [psh_ne (by rw [hS.1]; decide)]; exact h16) rfl ?_
  have eg := hS.1
  refine iX5 hS (fun g' hS' e16 => ?_)
  rw [h16] at e16
  with_reducible refine atV_i ?_
  rw [eg]
  clear hS h16 eg
  refine wrF_i e16 True.intro ?_
  rw [show hset g' 16 (cO 10 (List.set [vo 17, vn, vn, vn, vn, vn, vn, vn, vn, vn, vi 0, vi 0] 1 (vo 19))) = hset g' 16 (cO 10 [vo 17, vo 19, vn, vn, vn, vn, vn, vn, vn, vn, vi 0, vi 0]) from rfl]
  have hS : iS h 22 (hset g' 16 (cO 10 [vo 17, vo 19, vn, vn, vn, vn, vn, vn, vn, vn, vi 0, vi 0])) := ⟨hS'.1, fun i i1 i2 => by rw [hset_ne (by omega)]; exact hS'.2.1 i i1 i2, fun i i1 => by rw [hset_ne (by omega)]; exact hS'.2.2.1 i i1, fun i i1 => by rw [hset_ne (by omega)]; exact hS'.2.2.2 i i1⟩
  have h16 : (hset g' 16 (cO 10 [vo 17, vo 19, vn, vn, vn, vn, vn, vn, vn, vn, vi 0, vi 0])).1 16 = cO 10 [vo 17, vo 19, vn, vn, vn, vn, vn, vn, vn, vn, vi 0, vi 0] := hset_at _ _ _
  generalize hset g' 16 (cO 10 [vo 17, vo 19, vn, vn, vn, vn, vn, vn, vn, vn, vi 0, vi 0]) = g at hS h16 ⊢
  clear hS' e16
  with_reducible refine nwO_i ?_
  have eg := hS.1
  refine iX9 hS (fun g' hS' e16 => ?_)
  rw [h16] at e16
  with_reducible refine atV_i ?_
  rw [eg]
  clear hS h16 eg
  refine wrF_i e16 True.intro ?_
  rw [show hset g' 16 (cO 10 (List.set [vo 17, vo 19, vn, vn, vn, vn, vn, vn, vn, vn, vi 0, vi 0] 2 (vo 22))) = hset g' 16 (cO 10 [vo 17, vo 19, vo 22, vn, vn, vn, vn, vn, vn, vn, vi 0, vi 0]) from rfl]
  have hS : iS h 27 (hset g' 16 (cO 10 [vo 17, vo 19, vo 22, vn, vn, vn, vn, vn, vn, vn, vi 0, vi 0])) := ⟨hS'.1, fun i i1 i2 => by rw [hset_ne (by omega)]; exact hS'.2.1 i i1 i2, fun i i1 => by rw [hset_ne (by omega)]; exact hS'.2.2.1 i i1, fun i i1 => by rw [hset_ne (by omega)]; exact hS'.2.2.2 i i1⟩
  have h16 : (hset g' 16 (cO 10 [vo 17, vo 19, vo 22, vn, vn, vn, vn, vn, vn, vn, vi 0, vi 0])).1 16 = cO 10 [vo 17, vo 19, vo 22, vn, vn, vn, vn, vn, vn, vn, vi 0, vi 0] := hset_at _ _ _
  generalize hset g' 16 (cO 10 [vo 17, vo 19, vo 22, vn, vn, vn, vn, vn, vn, vn, vi 0, vi 0]) = g at hS h16 ⊢
  clear hS' e16
  with_reducible refine nwO_i ?_
  refine rdO_i (fs := [vo 17, vo 19, vo 22, vn, vn, vn, vn, vn, vn, vn, vi 0, vi 0]) (by rw [psh_ne (by rw [hS.1]; decide)]; exact h16) rfl ?_
  have eg := hS.1
  refine iX4 hS (fun g' hS' e16 => ?_)
  rw [h16] at e16
  with_reducible refine atV_i ?_
  rw [eg]
  clear hS h16 eg
  refine wrF_i e16 True.intro ?_
  rw [show hset g' 16 (cO 10 (List.set [vo 17, vo 19, vo 22, vn, vn, vn, vn, vn, vn, vn, vi 0, vi 0] 3 (vo 27))) = hset g' 16 (cO 10 [vo 17, vo 19, vo 22, vo 27, vn, vn, vn, vn, vn, vn, vi 0, vi 0]) from rfl]
  have hS : iS h 35 (hset g' 16 (cO 10 [vo 17, vo 19, vo 22, vo 27, vn, vn, vn, vn, vn, vn, vi 0, vi 0])) := ⟨hS'.1, fun i i1 i2 => by rw [hset_ne (by omega)]; exact hS'.2.1 i i1 i2, fun i i1 => by rw [hset_ne (by omega)]; exact hS'.2.2.1 i i1, fun i i1 => by rw [hset_ne (by omega)]; exact hS'.2.2.2 i i1⟩
  have h16 : (hset g' 16 (cO 10 [vo 17, vo 19, vo 22, vo 27, vn, vn, vn, vn, vn, vn, vi 0, vi 0])).1 16 = cO 10 [vo 17, vo 19, vo 22, vo 27, vn, vn, vn, vn, vn, vn, vi 0, vi 0] := hset_at _ _ _
  generalize hset g' 16 (cO 10 [vo 17, vo 19, vo 22, vo 27, vn, vn, vn, vn, vn, vn, vi 0, vi 0]) = g at hS h16 ⊢
  clear hS' e16
  with_reducible refine nwO_i ?_
  refine rdO_i (fs := [vo 17, vo 19, vo 22, vo 27, vn, vn, vn, vn, vn, vn, vi 0, vi 0]) (by rw [psh_ne (by rw [hS.1]; decide)]; exact h16) rfl ?_
  have eg := hS.1
  refine iX7 hS (fun g' hS' e16 => ?_)
  rw [h16] at e16
  with_reducible refine atV_i ?_
  rw [eg]
  clear hS h16 eg
  refine wrF_i e16 True.intro ?_
  rw [show hset g' 16 (cO 10 (List.set [vo 17, vo 19, vo 22, vo 27, vn, vn, vn, vn, vn, vn, vi 0, vi 0] 4 (vo 35))) = hset g' 16 (cO 10 [vo 17, vo 19, vo 22, vo 27, vo 35, vn, vn, vn, vn, vn, vi 0, vi 0]) from rfl]
  have hS : iS h 44 (hset g' 16 (cO 10 [vo 17, vo 19, vo 22, vo 27, vo 35, vn, vn, vn, vn, vn, vi 0, vi 0])) := ⟨hS'.1, fun i i1 i2 => by rw [hset_ne (by omega)]; exact hS'.2.1 i i1 i2, fun i i1 => by rw [hset_ne (by omega)]; exact hS'.2.2.1 i i1, fun i i1 => by rw [hset_ne (by omega)]; exact hS'.2.2.2 i i1⟩
  have h16 : (hset g' 16 (cO 10 [vo 17, vo 19, vo 22, vo 27, vo 35, vn, vn, vn, vn, vn, vi 0, vi 0])).1 16 = cO 10 [vo 17, vo 19, vo 22, vo 27, vo 35, vn, vn, vn, vn, vn, vi 0, vi 0] := hset_at _ _ _
  generalize hset g' 16 (cO 10 [vo 17, vo 19, vo 22, vo 27, vo 35, vn, vn, vn, vn, vn, vi 0, vi 0]) = g at hS h16 ⊢
  clear hS' e16
  with_reducible refine nwO_i ?_
  refine rdO_i (fs := [vo 17, vo 19, vo 22, vo 27, vo 35, vn, vn, vn, vn, vn, vi 0, vi 0]) (by rw [psh_ne (by rw [hS.1]; decide)]; exact h16) rfl ?_
  refine rdO_i (fs := [vo 17, vo 19, vo 22, vo 27, vo 35, vn, vn, vn, vn, vn, vi 0, vi 0]) (by rw [psh_ne (by rw [hS.1]; decide)]; exact h16) rfl ?_
  have eg := hS.1
  refine iX2 hS (fun g' hS' e16 => ?_)
  rw [h16] at e16
  with_reducible refine atV_i ?_
  rw [eg]
  clear hS h16 eg
  refine wrF_i e16 True.intro ?_
  rw [show hset g' 16 (cO 10 (List.set [vo 17, vo 19, vo 22, vo 27, vo 35, vn, vn, vn, vn, vn, vi 0, vi 0] 5 (vo 44))) = hset g' 16 (cO 10 [vo 17, vo 19, vo 22, vo 27, vo 35, vo 44, vn, vn, vn, vn, vi 0, vi 0]) from rfl]
  have hS : iS h 48 (hset g' 16 (cO 10 [vo 17, vo 19, vo 22, vo 27, vo 35, vo 44, vn, vn, vn, vn, vi 0, vi 0])) := ⟨hS'.1, fun i i1 i2 => by rw [hset_ne (by omega)]; exact hS'.2.1 i i1 i2, fun i i1 => by rw [hset_ne (by omega)]; exact hS'.2.2.1 i i1, fun i i1 => by rw [hset_ne (by omega)]; exact hS'.2.2.2 i i1⟩
  have h16 : (hset g' 16 (cO 10 [vo 17, vo 19, vo 22, vo 27, vo 35, vo 44, vn, vn, vn, vn, vi 0, vi 0])).1 16 = cO 10 [vo 17, vo 19, vo 22, vo 27, vo 35, vo 44, vn, vn, vn, vn, vi 0, vi 0] := hset_at _ _ _
  generalize hset g' 16 (cO 10 [vo 17, vo 19, vo 22, vo 27, vo 35, vo 44, vn, vn, vn, vn, vi 0, vi 0]) = g at hS h16 ⊢
  clear hS' e16
  with_reducible refine nwO_i ?_
  have eg := hS.1
  refine iX6 hS (fun g' hS' e16 => ?_)
  rw [h16] at e16
  with_reducible refine atV_i ?_
  rw [eg]
  clear hS h16 eg
  refine wrF_i e16 True.intro ?_
  rw [show hset g' 16 (cO 10 (List.set [vo 17, vo 19, vo 22, vo 27, vo 35, vo 44, vn, vn, vn, vn, vi 0, vi 0] 6 (vo 48))) = hset g' 16 (cO 10 [vo 17, vo 19, vo 22, vo 27, vo 35, vo 44, vo 48, vn, vn, vn, vi 0, vi 0]) from rfl]
  have hS : iS h 51 (hset g' 16 (cO 10 [vo 17, vo 19, vo 22, vo 27, vo 35, vo 44, vo 48, vn, vn, vn, vi 0, vi 0])) := ⟨hS'.1, fun i i1 i2 => by rw [hset_ne (by omega)]; exact hS'.2.1 i i1 i2, fun i i1 => by rw [hset_ne (by omega)]; exact hS'.2.2.1 i i1, fun i i1 => by rw [hset_ne (by omega)]; exact hS'.2.2.2 i i1⟩
  have h16 : (hset g' 16 (cO 10 [vo 17, vo 19, vo 22, vo 27, vo 35, vo 44, vo 48, vn, vn, vn, vi 0, vi 0])).1 16 = cO 10 [vo 17, vo 19, vo 22, vo 27, vo 35, vo 44, vo 48, vn, vn, vn, vi 0, vi 0] := hset_at _ _ _
  generalize hset g' 16 (cO 10 [vo 17, vo 19, vo 22, vo 27, vo 35, vo 44, vo 48, vn, vn, vn, vi 0, vi 0]) = g at hS h16 ⊢
  clear hS' e16
  with_reducible refine nwO_i ?_
  have hS' : iS h 52 (hpsh g (cR (.object "InvariantSearch$Code") (List.replicate 8 none))) := by
    obtain ⟨s0, s1, s2, s3⟩ := hS
    refine ⟨by show g.2 + 1 = 52; omega, fun i i1 i2 => ?_, fun i i1 => by rw [psh_ne (by omega)]; exact s2 i i1, fun i i1 => by rw [psh_ne (by omega)]; exact s3 i (by omega)⟩
    by_cases hi : i = 51
    · have e9 : i = g.2 := by omega
      rw [e9, psh_at, ← e9, hi]
      rfl
    · rw [psh_ne (by omega)]
      exact s1 i i1 (by omega)
  have e16 : (hpsh g (cR (.object "InvariantSearch$Code") (List.replicate 8 none))).1 16 = cO 10 [vo 17, vo 19, vo 22, vo 27, vo 35, vo 44, vo 48, vn, vn, vn, vi 0, vi 0] := by rw [psh_ne (by rw [hS.1]; decide)]; exact h16
  rw [hS.1]
  clear hS h16
  generalize hpsh g (cR (.object "InvariantSearch$Code") (List.replicate 8 none)) = g2 at hS' e16 ⊢
  refine wrF_i e16 True.intro ?_
  rw [show hset g2 16 (cO 10 (List.set [vo 17, vo 19, vo 22, vo 27, vo 35, vo 44, vo 48, vn, vn, vn, vi 0, vi 0] 7 (vo 51))) = hset g2 16 (cO 10 [vo 17, vo 19, vo 22, vo 27, vo 35, vo 44, vo 48, vo 51, vn, vn, vi 0, vi 0]) from rfl]
  have hS : iS h 52 (hset g2 16 (cO 10 [vo 17, vo 19, vo 22, vo 27, vo 35, vo 44, vo 48, vo 51, vn, vn, vi 0, vi 0])) := ⟨hS'.1, fun i i1 i2 => by rw [hset_ne (by omega)]; exact hS'.2.1 i i1 i2, fun i i1 => by rw [hset_ne (by omega)]; exact hS'.2.2.1 i i1, fun i i1 => by rw [hset_ne (by omega)]; exact hS'.2.2.2 i i1⟩
  have h16 : (hset g2 16 (cO 10 [vo 17, vo 19, vo 22, vo 27, vo 35, vo 44, vo 48, vo 51, vn, vn, vi 0, vi 0])).1 16 = cO 10 [vo 17, vo 19, vo 22, vo 27, vo 35, vo 44, vo 48, vo 51, vn, vn, vi 0, vi 0] := hset_at _ _ _
  generalize hset g2 16 (cO 10 [vo 17, vo 19, vo 22, vo 27, vo 35, vo 44, vo 48, vo 51, vn, vn, vi 0, vi 0]) = g at hS h16 ⊢
  clear hS' e16
  with_reducible refine nwO_i ?_
  have hS' : iS h 53 (hpsh g (cA .int (List.replicate 12 0))) := by
    obtain ⟨s0, s1, s2, s3⟩ := hS
    refine ⟨by show g.2 + 1 = 53; omega, fun i i1 i2 => ?_, fun i i1 => by rw [psh_ne (by omega)]; exact s2 i i1, fun i i1 => by rw [psh_ne (by omega)]; exact s3 i (by omega)⟩
    by_cases hi : i = 52
    · have e9 : i = g.2 := by omega
      rw [e9, psh_at, ← e9, hi]
      rfl
    · rw [psh_ne (by omega)]
      exact s1 i i1 (by omega)
  have e16 : (hpsh g (cA .int (List.replicate 12 0))).1 16 = cO 10 [vo 17, vo 19, vo 22, vo 27, vo 35, vo 44, vo 48, vo 51, vn, vn, vi 0, vi 0] := by rw [psh_ne (by rw [hS.1]; decide)]; exact h16
  rw [hS.1]
  clear hS h16
  generalize hpsh g (cA .int (List.replicate 12 0)) = g2 at hS' e16 ⊢
  refine wrF_i e16 True.intro ?_
  rw [show hset g2 16 (cO 10 (List.set [vo 17, vo 19, vo 22, vo 27, vo 35, vo 44, vo 48, vo 51, vn, vn, vi 0, vi 0] 8 (vo 52))) = hset g2 16 (cO 10 [vo 17, vo 19, vo 22, vo 27, vo 35, vo 44, vo 48, vo 51, vo 52, vn, vi 0, vi 0]) from rfl]
  have hS : iS h 53 (hset g2 16 (cO 10 [vo 17, vo 19, vo 22, vo 27, vo 35, vo 44, vo 48, vo 51, vo 52, vn, vi 0, vi 0])) := ⟨hS'.1, fun i i1 i2 => by rw [hset_ne (by omega)]; exact hS'.2.1 i i1 i2, fun i i1 => by rw [hset_ne (by omega)]; exact hS'.2.2.1 i i1, fun i i1 => by rw [hset_ne (by omega)]; exact hS'.2.2.2 i i1⟩
  have h16 : (hset g2 16 (cO 10 [vo 17, vo 19, vo 22, vo 27, vo 35, vo 44, vo 48, vo 51, vo 52, vn, vi 0, vi 0])).1 16 = cO 10 [vo 17, vo 19, vo 22, vo 27, vo 35, vo 44, vo 48, vo 51, vo 52, vn, vi 0, vi 0] := hset_at _ _ _
  generalize hset g2 16 (cO 10 [vo 17, vo 19, vo 22, vo 27, vo 35, vo 44, vo 48, vo 51, vo 52, vn, vi 0, vi 0]) = g at hS h16 ⊢
  clear hS' e16
  with_reducible refine nwO_i ?_
  have hS' : iS h 54 (hpsh g (cA .int (List.replicate 19 0))) := by
    obtain ⟨s0, s1, s2, s3⟩ := hS
    refine ⟨by show g.2 + 1 = 54; omega, fun i i1 i2 => ?_, fun i i1 => by rw [psh_ne (by omega)]; exact s2 i i1, fun i i1 => by rw [psh_ne (by omega)]; exact s3 i (by omega)⟩
    by_cases hi : i = 53
    · have e9 : i = g.2 := by omega
      rw [e9, psh_at, ← e9, hi]
      rfl
    · rw [psh_ne (by omega)]
      exact s1 i i1 (by omega)
  have e16 : (hpsh g (cA .int (List.replicate 19 0))).1 16 = cO 10 [vo 17, vo 19, vo 22, vo 27, vo 35, vo 44, vo 48, vo 51, vo 52, vn, vi 0, vi 0] := by rw [psh_ne (by rw [hS.1]; decide)]; exact h16
  rw [hS.1]
  clear hS h16
  generalize hpsh g (cA .int (List.replicate 19 0)) = g2 at hS' e16 ⊢
  refine wrF_i e16 True.intro ?_
  rw [show hset g2 16 (cO 10 (List.set [vo 17, vo 19, vo 22, vo 27, vo 35, vo 44, vo 48, vo 51, vo 52, vn, vi 0, vi 0] 9 (vo 53))) = hset g2 16 (cO 10 [vo 17, vo 19, vo 22, vo 27, vo 35, vo 44, vo 48, vo 51, vo 52, vo 53, vi 0, vi 0]) from rfl]
  have hS : iS h 54 (hset g2 16 (cO 10 [vo 17, vo 19, vo 22, vo 27, vo 35, vo 44, vo 48, vo 51, vo 52, vo 53, vi 0, vi 0])) := ⟨hS'.1, fun i i1 i2 => by rw [hset_ne (by omega)]; exact hS'.2.1 i i1 i2, fun i i1 => by rw [hset_ne (by omega)]; exact hS'.2.2.1 i i1, fun i i1 => by rw [hset_ne (by omega)]; exact hS'.2.2.2 i i1⟩
  have h16 : (hset g2 16 (cO 10 [vo 17, vo 19, vo 22, vo 27, vo 35, vo 44, vo 48, vo 51, vo 52, vo 53, vi 0, vi 0])).1 16 = cO 10 [vo 17, vo 19, vo 22, vo 27, vo 35, vo 44, vo 48, vo 51, vo 52, vo 53, vi 0, vi 0] := hset_at _ _ _
  generalize hset g2 16 (cO 10 [vo 17, vo 19, vo 22, vo 27, vo 35, vo 44, vo 48, vo 51, vo 52, vo 53, vi 0, vi 0]) = g at hS h16 ⊢
  clear hS' e16
  refine wrF_i h16 True.intro ?_
  rw [show (cO 10 (List.set [vo 17, vo 19, vo 22, vo 27, vo 35, vo 44, vo 48, vo 51, vo 52, vo 53, vi 0, vi 0] 10 (vi 0))) = cO 10 [vo 17, vo 19, vo 22, vo 27, vo 35, vo 44, vo 48, vo 51, vo 52, vo 53, vi 0, vi 0] from rfl, hset_same h16]
  refine wrF_i h16 True.intro ?_
  rw [show (cO 10 (List.set [vo 17, vo 19, vo 22, vo 27, vo 35, vo 44, vo 48, vo 51, vo 52, vo 53, vi 0, vi 0] 11 (vi 0))) = cO 10 [vo 17, vo 19, vo 22, vo 27, vo 35, vo 44, vo 48, vo 51, vo 52, vo 53, vi 0, vi 0] from rfl, hset_same h16]
  refine hq g hS.1 hS.2.2.1 (fun i i1 i2 => ?_) hS.2.2.2
  by_cases hi : i = 16
  · rw [hi, h16]
    rfl
  · exact hS.2.1 i (by omega) i2
abbrev cd11 : List az_V := [vn, vi 0, vi 0, vi 0, vi 0, vi 0, vi 0, vn, vn, vn, vn, vn, vn, vi 0, vi 0, vi 0, vn, vi 0, vi 0, vi 0, vn, vi 0, vn, vn, vn, vn, vn, vi 0, vn, vi 0, vi 0, vn, vi 0, vi 0, vi 0, vn, vn, vn, vn, vn, vi 0, vn, vn, vn, vn, vi 0, vn, vn, vi 0, vn, vi 0, vn, vn, vi 0, vn, vn, vn, vn, vi 0]
def rS (h0 : az_H) (n : Nat) (fs : List az_V) (h : az_H) : Prop := h.2 = n ∧ h.1 54 = cO 11 fs ∧ (∀ i, 55 ≤ i → i < n → h.1 i = pcx i (fun _ => 0) (A0 i) (B0 i)) ∧ (∀ i, i < 54 → h.1 i = h0.1 i) ∧ ∀ i, n ≤ i → h.1 i = h0.1 i
theorem rS_psh {h0 : az_H} {n : Nat} {fs : List az_V} {c : az_C} (hn : 55 ≤ n) (hS : rS h0 n fs h) (hc : c = pcx n (fun _ => 0) (A0 n) (B0 n)) : rS h0 (n + 1) fs (hpsh h c) := by
  obtain ⟨s0, s4, s1, s2, s3⟩ := hS
  refine ⟨by show h.2 + 1 = n + 1; omega, by rw [psh_ne (by omega)]; exact s4, fun i i1 i2 => ?_, fun i i1 => by rw [psh_ne (by omega)]; exact s2 i i1, fun i i1 => by rw [psh_ne (by omega)]; exact s3 i (by omega)⟩
  by_cases hi : i = n
  · have e9 : i = h.2 := by omega
    rw [e9, psh_at, ← e9, hi, hc]
  · rw [psh_ne (by omega)]
    exact s1 i i1 (by omega)
theorem rS_set {h0 : az_H} {n : Nat} {fs fs' : List az_V} (hn : 55 ≤ n) (hS : rS h0 n fs h) : rS h0 n fs' (hset h 54 (cO 11 fs')) := by
  obtain ⟨s0, s4, s1, s2, s3⟩ := hS
  exact ⟨s0, hset_at _ _ _, fun i i1 i2 => by rw [hset_ne (by omega)]; exact s1 i i1 i2, fun i i1 => by rw [hset_ne (by omega)]; exact s2 i i1, fun i i1 => by rw [hset_ne (by omega)]; exact s3 i i1⟩
/-- an array is made and put into a field -/
theorem rS_aw {h0 : az_H} (n n' : Nat) {k : Nat} {t : FieldType} {fs : List az_V} {c : az_C} {K : az_H → Prop} (hn1 : n + 1 = n') (hn : 55 ≤ n) (hS : rS h0 n fs h) (hc : c = pcx n (fun _ => 0) (A0 n) (B0 n)) (hf : az_fit t (vo n)) (kk : ∀ h', rS h0 n' (fs.set k (vo n)) h' → K h') : nwO h c (fun a h1 => wrF h1 54 11 k t (vo a) K) := by
  subst hn1
  have e := hS.1
  have hS' := rS_psh hn hS hc
  show wrF (hpsh h c) 54 11 k t (vo h.2) K
  rw [e]
  exact wrF_i hS'.2.1 hf (kk _ (rS_set (by omega) hS'))
theorem rS_hk {h0 : az_H} {fs : List az_V} {K : az_H → Prop} (hS : rS h0 67 fs h) (kk : ∀ h', rS h0 68 (fs.set 25 (vo 67)) h' → K h') : nwO h (cA .int (List.replicate 4 0)) (fun a h1 => stI h1 a .int 0 ((-1)) (fun h2 => stI h2 a .int 1 ((-1)) (fun h3 => stI h3 a .int 2 ((-1)) (fun h4 => stI h4 a .int 3 ((-1)) (fun h5 => wrF h5 54 11 25 (.array (.int)) (vo a) K))))) := by
  have e := hS.1
  with_reducible refine nwO_i ?_
  refine stI_i (psh_at _) (by decide) (by decide) ?_
  refine stI_i (hset_at _ _ _) (by decide) (by decide) ?_
  rw [hset_set]
  refine stI_i (hset_at _ _ _) (by decide) (by decide) ?_
  rw [hset_set]
  refine stI_i (hset_at _ _ _) (by decide) (by decide) ?_
  rw [hset_set]
  have e2 : ∀ xs : List Int, hset (hpsh h (cA .int (List.replicate 4 0))) h.2 (cA .int xs) = hpsh h (cA .int xs) := by
    intro xs
    refine Prod.ext (funext fun j => ?_) rfl
    by_cases ej : j = h.2
    · rw [ej, hset_at, psh_at]
    · rw [hset_ne ej, psh_ne ej, psh_ne ej]
  rw [e2]
  have hS' := rS_psh (c := cA .int (((((List.replicate 4 0).set (Int.toNat 0) (-1)).set (Int.toNat 1) (-1)).set (Int.toNat 2) (-1)).set (Int.toNat 3) (-1))) (by decide) hS rfl
  rw [e]
  exact wrF_i hS'.2.1 True.intro (kk _ (rS_set (by decide) hS'))
set_option maxRecDepth 20000 in
set_option maxHeartbeats 4000000 in
theorem ini_r {h0 : az_H} (hs : h0.2 = 54) (hq : ∀ h', h'.2 = 89 → (∀ i, i < 54 → h'.1 i = h0.1 i) → (∀ i, 54 ≤ i → i < 89 → h'.1 i = pcx i (fun _ => 0) (A0 i) (B0 i)) → (∀ i, 89 ≤ i → h'.1 i = h0.1 i) → Q none h') : cz G mX11_init (d + 1) 34 23922 [vo 54] (hpsh h0 (cO 11 cd11)) Q := by
  have hS : rS h0 55 cd11 (hpsh h0 (cO 11 cd11)) := ⟨by show h0.2 + 1 = 55; omega, by rw [← hs]; exact psh_at _, fun i i1 i2 => by omega, fun i i1 => psh_ne (by omega), fun i i1 => psh_ne (by omega)⟩
  generalize hpsh h0 (cO 11 cd11) = h at hS
  refine vX11_init ?_
  refine rS_aw 55 56 rfl (by decide) hS rfl True.intro (fun h hS => ?_)
  refine rS_aw 56 57 rfl (by decide) hS rfl True.intro (fun h hS => ?_)
  refine rS_aw 57 58 rfl (by decide) hS rfl True.intro (fun h hS => ?_)
  refine rS_aw 58 59 rfl (by decide) hS rfl True.intro (fun h hS => ?_)
  refine rS_aw 59 60 rfl (by decide) hS rfl True.intro (fun h hS => ?_)
  refine rS_aw 60 61 rfl (by decide) hS rfl True.intro (fun h hS => ?_)
  refine rS_aw 61 62 rfl (by decide) hS rfl True.intro (fun h hS => ?_)
  refine rS_aw 62 63 rfl (by decide) hS rfl True.intro (fun h hS => ?_)
  refine rS_aw 63 64 rfl (by decide) hS rfl True.intro (fun h hS => ?_)
  refine rS_aw 64 65 rfl (by decide) hS rfl True.intro (fun h hS => ?_)
  refine rS_aw 65 66 rfl (by decide) hS rfl True.intro (fun h hS => ?_)
  refine rS_aw 66 67 rfl (by decide) hS rfl True.intro (fun h hS => ?_)
  refine rS_hk hS (fun h hS => ?_)
  refine rS_aw 68 69 rfl (by decide) hS rfl True.intro (fun h hS => ?_)
  refine rS_aw 69 70 rfl (by decide) hS rfl True.intro (fun h hS => ?_)
  refine rS_aw 70 71 rfl (by decide) hS rfl True.intro (fun h hS => ?_)
  refine rS_aw 71 72 rfl (by decide) hS rfl True.intro (fun h hS => ?_)
  refine rS_aw 72 73 rfl (by decide) hS rfl True.intro (fun h hS => ?_)
  refine rS_aw 73 74 rfl (by decide) hS rfl True.intro (fun h hS => ?_)
  refine rS_aw 74 75 rfl (by decide) hS rfl True.intro (fun h hS => ?_)
  refine rS_aw 75 76 rfl (by decide) hS rfl True.intro (fun h hS => ?_)
  refine rS_aw 76 77 rfl (by decide) hS rfl True.intro (fun h hS => ?_)
  refine rS_aw 77 78 rfl (by decide) hS rfl True.intro (fun h hS => ?_)
  refine rS_aw 78 79 rfl (by decide) hS rfl True.intro (fun h hS => ?_)
  refine rS_aw 79 80 rfl (by decide) hS rfl True.intro (fun h hS => ?_)
  refine rS_aw 80 81 rfl (by decide) hS rfl True.intro (fun h hS => ?_)
  refine rS_aw 81 82 rfl (by decide) hS rfl True.intro (fun h hS => ?_)
  refine rS_aw 82 83 rfl (by decide) hS rfl True.intro (fun h hS => ?_)
  refine rS_aw 83 84 rfl (by decide) hS rfl True.intro (fun h hS => ?_)
  refine rS_aw 84 85 rfl (by decide) hS rfl True.intro (fun h hS => ?_)
  refine rS_aw 85 86 rfl (by decide) hS rfl True.intro (fun h hS => ?_)
  refine rS_aw 86 87 rfl (by decide) hS rfl True.intro (fun h hS => ?_)
  refine rS_aw 87 88 rfl (by decide) hS rfl True.intro (fun h hS => ?_)
  refine rS_aw 88 89 rfl (by decide) hS rfl True.intro (fun h hS => ?_)
  refine hq h hS.1 hS.2.2.2.1 (fun i i1 i2 => ?_) hS.2.2.2.2
  by_cases hi : i = 54
  · rw [hi, hS.2.1]
    rfl
  · exact hS.2.2.1 i (by omega) i2
end INJ
