/-! ===== the class: leastCost ===== -/
section L3
variable {N : Nat} {M : Mm} {h : Int} {b k w n : Nat} {A : Mm} {x f : Int}
theorem LX_24 (j : Int) : LX M h x f 24 j = LM M h 24 j := by rw [LX_o 24 (by omega)]
theorem LX_ru (hR : RuI M) : RuI (LX M h x f) := by
  unfold RuI at *
  rw [LX_o 3 (by omega), LX_o 4 (by omega), LX_o 27 (by omega), LX_o 28 (by omega), LX_o 29 (by omega), LX_o 30 (by omega), LM_o 3 (by omega), LM_o 4 (by omega), LM_o 27 (by omega), LM_o 28 (by omega), LM_o 29 (by omega), LM_o 30 (by omega)]
  exact hR
theorem LX_tie (hh : isH h) (hT : TieI M) : LX M h x f 24 12 = 0 ∨ TOk (LX M h x f) := by
  have := LM_tie (M := M) hh hT
  unfold TOk at *
  rw [LX_24, LX_24, LX_24, LX_24]
  exact this
theorem LX_thd (hh : isH h) (hT : TieI M) : 0 < LX M h x f 24 12 ↔ thd M h := by
  have ht := hT h hh
  rw [LX_24, LM_12]
  by_cases q : thd M h
  · rw [if_pos q]
    have := q.1
    exact ⟨fun _ => q, fun _ => by omega⟩
  · rw [if_neg q]
    exact ⟨fun z => by omega, fun z => absurd z q⟩
theorem ld_f (hb : isHC h b k w n) (hH : HnI M h b k w n) (hL : Ld h x f b M A) (hR : RuI M) (hK : KyI M) (hT : TieI M) (hf : x ≠ -9 → isF f) : LdF (LX M h x f) A := by
  have e7 : LX M h x f 24 7 = cnt (fK M h) 30 := by rw [LX_24, LM_7]
  have bd := ld_bd hL hR
  refine ⟨⟨by rw [e7]; exact hL.2.1.1, fun q => ?_⟩, fun m e q1 q2 e1 e2 => ?_, fun m e g q1 q2 e1 e2 g1 g2 => ?_⟩
  · have t := (LX_thd (hc_h hb) hT).mp q
    obtain ⟨_, l7, l8, l9⟩ := hL.2.1
    have hn := hH.2.2.2.2
    have t1 := t.1
    rw [LX_24, LX_24, LX_24, LM_10, LM_11, LM_12, if_pos t]
    omega
  · rw [e7] at q2
    exact ⟨ld_note hL hR hf (hc_h hb) hK q1 q2 e1 e2, bd.1 m e q1 q2 e1 e2⟩
  · rw [e7] at q2
    exact ⟨ld_step hL hR q1 q2 e1 e2 g1 g2, bd.2 m e g q1 q2 e1 e2 g1 g2⟩
theorem TieI.fr {A : Mm} (hT : TieI M) (hf : ∀ c j, 24 < c → A c j = M c j) : TieI A := by
  intro h hh
  rw [hf 40 _ (by omega), hf 41 _ (by omega), hf 42 _ (by omega)]
  exact hT h hh
theorem t_leastCost (hb : isHC h b k w n) (hH : HnI M h b k w n) (hK : KyI M) (hR : RuI M) (hT : TieI M) (hx : R32 x) (hf : x ≠ -9 → isF f) (hfr : R32 f) (hx9 : x = -9 ∨ 0 ≤ x) : Ret 5 0 0 mR_leastCost [.inr 13, .inr b, .inl x, .inl f] (S0 N) M (fun r S' M' => r = some (.inl (lrV (LX M h x f))) ∧ S' = S0 N ∧ FrR M M' ∧ LcP (LX M h x f) M') := by
  have cr := cnt_rng (fK M h) 30
  have hh := hc_h hb
  have e7 : LX M h x f 24 7 = cnt (fK M h) 30 := by rw [LX_24, LM_7]
  have ht := LX_tie (x := x) (f := f) hh hT
  have hI := LX_ru (h := h) (x := x) (f := f) hR
  have Lo := t_load (N := N) (x := x) (f := f) hb hH hK hR hx hf hfr hx9
  have lf := fun A hL => ld_f (A := A) hb hH hL hR hK hT hf
  have Ti : ∀ A, Ld h x f b M A → Ret 0 0 0 mH_tieHolds [.inr b] (S0 N) A (Pu (S0 N) A (bi (thd M h))) := fun A hL => by
    have fr := fun c j (q : c ≤ 12 ∨ 24 < c) => hL.2.2 c j (by omega) (by omega)
    obtain ⟨hA, hc, _, _⟩ := hH.fr (A := A) hb fr
    have e : thd A h ↔ thd M h := by
      unfold thd
      rw [hc, fr 40 _ (by omega), fr 41 _ (by omega), fr 42 _ (by omega)]
    have := t_tieHolds' (N := N) hb hA (hT.fr (fun c j q => fr c j (by omega)))
    have eb : bi (thd A h) = bi (thd M h) := by
      by_cases q : thd M h
      · rw [bi_t q, bi_t (e.mpr q)]
      · rw [bi_f q, bi_f (fun z => q (e.mp z))]
    rw [eb] at this
    exact this
  have tied : thd M h → ∀ A, Ld h x f b M A → AJ 5 0 0 mR_leastCost (fun r S' M' => r = some (.inl (lrV (LX M h x f))) ∧ S' = S0 N ∧ FrR M M' ∧ LcP (LX M h x f) M') 0 0 30 [some (.inr 13), some (.inr b), some (.inl x), some (.inl f)] [] (S0 N) A := by
    intro q A hL
    have l := lf A hL
    have t1 := (LX_thd (x := x) (f := f) hh hT).mpr q
    have TO : TOk (LX M h x f) := by
      rcases ht with ht | ht
      · omega
      · exact ht
    have hLr : FrR M A := fun c j q => hL.2.2 c j (by omega) (by omega)
    generalize LX M h x f = L at *
    obtain ⟨_, t2, t3, t4⟩ := id TO
    obtain ⟨a7, a8, a9⟩ := l.1.2 t1
    have a6 := l.1.1
    have S := t_sweep (N := N) (M := A) (fr := A 13 6 - 1) (to := A 13 8 + A 13 9) (by omega) (by omega) (by omega) (by omega) (l.swB (by omega))
    have S' : Ret 3 0 0 mR_sweep [.inr 13, .inl (A 13 6 - 1), .inl (A 13 8 + A 13 9)] (S0 N) A (Vo (S0 N) (swp (L 24 7 - (L 24 11 + L 24 12)).toNat (L 24 7 - 1) A)) := by
      rw [show (A 13 6 - 1 + 1 - (A 13 8 + A 13 9)).toNat = (L 24 7 - (L 24 11 + L 24 12)).toNat by omega, show swp (L 24 7 - (L 24 11 + L 24 12)).toNat (A 13 6 - 1) A = swp (L 24 7 - (L 24 11 + L 24 12)).toNat (L 24 7 - 1) A by rw [a6]] at S
      exact S
    have hn : L 24 11 + L 24 12 + ((L 24 7 - (L 24 11 + L 24 12)).toNat : Int) = L 24 7 := by omega
    obtain ⟨fb, ft⟩ := FdB_of l hI (by omega) TO hn
    have sp := swp_spec (L 24 7 - (L 24 11 + L 24 12)).toNat (L 24 7 - 1) A
    have F := t_fold (N := N) fb ft
    have fin : ∀ B, LwI L M B → HdI L B 5 → AJ 5 0 0 mR_leastCost (fun r S' M' => r = some (.inl (lrV L)) ∧ S' = S0 N ∧ FrR M M' ∧ LcP L M') 0 0 99 [some (.inr 13), some (.inr b), some (.inl x), some (.inl f), some (.inl 5)] [] (S0 N) B := by
      intro B hB hHd
      have k139 := t_lc_139 (N := N) (L := L) (M := M) (b := b) (x := x) (f := f) (Φ := fun r S' M' => r = some (.inl (lrV L)) ∧ S' = S0 N ∧ FrR M M' ∧ LcP L M') (C := wr B 16 (5 * L 24 10 - 1) (fun e => B 17 (e - 1)) 5) TO hI (by omega) (hB.st (fun c j q => wr_ne (by omega))) (fun e e1 e2 => by
        rw [show 5 * L 24 10 + e - 1 = 5 * L 24 10 - 1 + e by omega, wr_eq e1 e2]
        exact hHd e e1 e2) (fun M' p1 p2 => ⟨rfl, rfl, p1, p2⟩)
      have k102 := t_lc_102 (N := N) (L := L) (b := b) (x := x) (f := f) (Φ := fun r S' M' => r = some (.inl (lrV L)) ∧ S' = S0 N ∧ FrR M M' ∧ LcP L M') (B := B) (hB.1.1.2 t1).1 t2 (by omega) hHd k139 5 0 (by omega)
      rw [show ((0 : Nat) : Int) = 0 from rfl, wr_0] at k102
      refine aR_leastCost [102] 30 (fun hM => ?_)
      exact k102
    refine aR_leastCost [56] 40 (fun hM => ?_)
    refine CL.vo S' (Nat.le_of_ble_eq_true rfl) (fun hM2 => ?_)
    refine ⟨3, _, (Nat.le_of_ble_eq_true rfl), F, ?_⟩
    rintro r S'' A2 ⟨rfl, rfl, hF⟩ hA2
    obtain ⟨fn, tl⟩ := FN.fold l hI (by omega) TO hn hF
    refine t_lc_56 (L := L) (M := M) TO hI (by omega) fin 5 0 A2 (by omega) (by omega) ⟨fn, fun c j q => ?_, tl⟩ (fun e e1 e2 => by omega)
    rw [hF.2.2 c j (by omega) (by omega), sp.2 c j (by omega)]
    exact hLr c j q
  have plainly : ¬ thd M h → ∀ A, Ld h x f b M A → LcP (LX M h x f) (swp (cnt (fK M h) 30).toNat (cnt (fK M h) 30 - 1) A) ∧ anV (swp (cnt (fK M h) 30).toNat (cnt (fK M h) 30 - 1) A) = lrV (LX M h x f) := by
    intro q A hL
    have l := lf A hL
    have t0 : LX M h x f 24 12 = 0 := by
      rcases ht with ht | ht
      · exact ht
      · exact absurd ((LX_thd hh hT).mp ht.1) q
    have sp := swp_spec (cnt (fK M h) 30).toNat (cnt (fK M h) 30 - 1) A
    have lc : LcP (LX M h x f) (swp (cnt (fK M h) 30).toNat (cnt (fK M h) 30 - 1) A) := by
      refine ⟨(FN.plain l t0).fr (fun c j q => sp.2 c j (by omega)), fun m e q1 q2 _ e1 e2 => ?_⟩
      rw [if_neg (by omega)]
      have tf := tail_fq l hI (by omega) (to := 0) (n := (cnt (fK M h) 30).toNat) (by omega) (by omega) m e q1 q2 e1 e2
      rw [e7] at tf
      exact ⟨tf.1.mono (by omega), by omega, by omega⟩
    exact ⟨lc, lc_an lc hI (Or.inl t0) (by omega)⟩
  rcases hb with ⟨rfl, rfl, rfl, rfl, rfl⟩ | ⟨rfl, rfl, rfl, rfl, rfl⟩
  all_goals
    refine eR_leastCost [30] 30 (Nat.le_of_ble_eq_true rfl) (fun hM => ?_)
    refine ⟨4, _, (Nat.le_of_ble_eq_true rfl), Lo, ?_⟩
    rintro r S' A ⟨rfl, rfl, hL⟩ hA
    refine CL.bl (Ti A hL) (Nat.le_of_ble_eq_true rfl) (fun q => ?_) (fun q => ?_)
    · exact ⟨R32_1, tied q A hL⟩
    · obtain ⟨p1, p2⟩ := t_plainRow (N := N) hL hR
      obtain ⟨lc, an⟩ := plainly q A hL
      rw [an] at p2
      refine ⟨R32_0, CL.vo p1 (Nat.le_of_ble_eq_true rfl) (fun hM2 => CL.pu p2 (Nat.le_of_ble_eq_true rfl) ?_)⟩
      exact ⟨rfl, rfl, swp_frR hL _ _, lc⟩
end L3
