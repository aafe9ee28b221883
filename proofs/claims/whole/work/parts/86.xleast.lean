/-! ===== the class: leastCost, of a hand that is not the reference's ===== -/
section Xc
variable {N : Nat} {Q M : Mm} {h : Int} {b k w n : Nat} {A : Mm} {x f : Int}
theorem LdF.fr {L B : Mm} (hl : LdF L A) (hf : ∀ c j, c = 13 ∨ c = 14 ∨ c = 15 → B c j = A c j) : LdF L B := by
  have e13 : B 13 = A 13 := funext fun j => hf 13 j (by omega)
  have e14 : B 14 = A 14 := funext fun j => hf 14 j (by omega)
  have e15 : B 15 = A 15 := funext fun j => hf 15 j (by omega)
  unfold LdF at *
  rw [e13, e14, e15]
  exact hl
theorem lx_f (hQ : ∀ c j, c ≠ 25 → c ≠ 26 → Q c j = M c j) (hb : isHC h b k w n) (hH : HnI Q h b k w n) (hL : Lx h x f b Q M A) (hR : RuI Q) (hK : KyI Q) (hT : TieI Q) (hf : x ≠ -9 → isF f) : LdF (LX Q h x f) A := by
  have hd : Ld h x f b Q (qv Q A) := by
    obtain ⟨l1, l2, l3⟩ := hL
    refine ⟨⟨fun m e q1 q2 q3 q4 => by rw [qv_o (by omega)]; exact l1.1 m e q1 q2 q3 q4, fun m e g q1 q2 q3 q4 q5 q6 q7 => by rw [qv_o (by omega)]; exact l1.2 m e g q1 q2 q3 q4 q5 q6 q7⟩, ?_, fun c j q1 q2 => ?_⟩
    · rw [qv_o (by omega), qv_o (by omega), qv_o (by omega), qv_o (by omega), hQ b 5 (by omega) (by omega), hQ b 6 (by omega) (by omega), hQ b 7 (by omega) (by omega)]
      exact l2
    · unfold qv
      split
      · rfl
      · rw [l3 c j q1 q2, hQ c j (by omega) (by omega)]
  exact (ld_f hb hH hd hR hK hT hf).fr (fun c j q => (qv_o (by omega)).symm)
theorem x_leastCost (hQ : ∀ c j, c ≠ 25 → c ≠ 26 → Q c j = M c j) (hb : isHC h b k w n) (hH : HnI Q h b k w n) (hK : KyI Q) (hR : RuI M) (hT : TieI Q) (hx : R32 x) (hf : x ≠ -9 → isF f) (hfr : R32 f) (hx9 : x = -9 ∨ 0 ≤ x) : Ret 5 0 0 mR_leastCost [.inr 13, .inr b, .inl x, .inl f] (S0 N) M (fun r S' M' => r = some (.inl (lrV (LX Q h x f))) ∧ S' = S0 N ∧ FrR M M' ∧ LcP (LX Q h x f) M') := by
  have cr := cnt_rng (fK Q h) 30
  have hh := hc_h hb
  have e7 : LX Q h x f 24 7 = cnt (fK Q h) 30 := by rw [LX_24, LM_7]
  have ht := LX_tie (x := x) (f := f) hh hT
  have hRQ : RuI Q := hR.fr (fun c hc => by funext j; exact hQ c j (by omega) (by omega))
  have hI := LX_ru (h := h) (x := x) (f := f) hRQ
  have Lo := x_load (N := N) (x := x) (f := f) hb hQ hH hK hR hx hf hfr hx9
  have lf := fun A hL => lx_f (A := A) hQ hb hH hL hRQ hK hT hf
  have Ti : ∀ A, Lx h x f b Q M A → Ret 0 0 0 mH_tieHolds [.inr b] (S0 N) A (Pu (S0 N) A (bi (thd Q h))) := fun A hL => by
    have fr := qv_fr (A := A) hQ (fun c j (q : c ≤ 12 ∨ 24 < c) => hL.2.2 c j (by omega) (by omega))
    obtain ⟨hA, hc, _, _⟩ := hH.fr (A := qv Q A) hb fr
    have e : thd (qv Q A) h ↔ thd Q h := by
      unfold thd
      rw [hc, fr 40 _ (by omega), fr 41 _ (by omega), fr 42 _ (by omega)]
    have := x_tieHolds (N := N) (M := A) qv_q hb hA (hT.fr (fun c j q => fr c j (by omega)))
    have eb : bi (thd (qv Q A) h) = bi (thd Q h) := by
      by_cases q : thd Q h
      · rw [bi_t q, bi_t (e.mpr q)]
      · rw [bi_f q, bi_f (fun z => q (e.mp z))]
    rw [eb] at this
    exact this
  have tied : thd Q h → ∀ A, Lx h x f b Q M A → AJ 5 0 0 mR_leastCost (fun r S' M' => r = some (.inl (lrV (LX Q h x f))) ∧ S' = S0 N ∧ FrR M M' ∧ LcP (LX Q h x f) M') 0 0 30 [some (.inr 13), some (.inr b), some (.inl x), some (.inl f)] [] (S0 N) A := by
    intro q A hL
    have l := lf A hL
    have t1 := (LX_thd (x := x) (f := f) hh hT).mpr q
    have TO : TOk (LX Q h x f) := by
      rcases ht with ht | ht
      · omega
      · exact ht
    have hLr : FrR M A := fun c j q => hL.2.2 c j (by omega) (by omega)
    generalize LX Q h x f = L at *
    obtain ⟨_, t2, t3, t4⟩ := id TO
    obtain ⟨a7, a8, a9⟩ := l.1.2 t1
    have a6 := l.1.1
    have S := t_sweep (N := N) (M := A) (fr := A 13 6 - 1) (to := A 13 8 + A 13 9) (by omega) (by omega) (by omega) (by omega) (l.swB (by omega))
    have S' : Ret 3 0 0 mR_sweep [.inr 13, .inl (A 13 6 - 1), .inl (A 13 8 + A 13 9)] (S0 N) A (Vo (S0 N) (swp (L 24 7 - (L 24 11 + L 24 12)).toNat (L 24 7 - 1) A)) := by
      rw [show (A 13 6 - 1 + 1 - (A 13 8 + A 13 9)).toNat = (L 24 7 - (L 24 11 + L 24 12)).toNat by omega, show swp (L 24 7 - (L 24 11 + L 24 12)).toNat (A 13 6 - 1) A = swp (L 24 7 - (L 24 11 + L 24 12)).toNat (L 24 7 - 1) A by rw [a6]] at S
      exact S
    have hn : L 24 11 + L 24 12 + ((L 24 7 - (L 24 11 + L 24 12)).toNat : Int) = L 24 7 := by omega
    obtain ⟨fb, ft⟩ := FdB_of l hI (by omega) TO hn
    have sp := swp_spec (L 24 7 - (L 24 11 + L 24 12)).toNat (L 24 7 - 1) A
    have F := t_fold (N := N) fb ft
    have fin : ∀ B, LwI L M B → HdI L B 5 → AJ 5 0 0 mR_leastCost (fun r S' M' => r = some (.inl (lrV L)) ∧ S' = S0 N ∧ FrR M M' ∧ LcP L M') 0 0 99 [some (.inr 13), some (.inr b), some (.inl x), some (.inl f), some (.inl 5)] [] (S0 N) B := by
      intro B hB hHd
      have k139 := t_lc_139 (N := N) (L := L) (M := M) (b := b) (x := x) (f := f) (Φ := fun r S' M' => r = some (.inl (lrV L)) ∧ S' = S0 N ∧ FrR M M' ∧ LcP L M') (C := wr B 16 (5 * L 24 10 - 1) (fun e => B 17 (e - 1)) 5) TO hI (by omega) (hB.st (fun c j q => wr_ne (by omega))) (fun e e1 e2 => by
        rw [show 5 * L 24 10 + e - 1 = 5 * L 24 10 - 1 + e by omega, wr_eq e1 e2]
        exact hHd e e1 e2) (fun M' p1 p2 => ⟨rfl, rfl, p1, p2⟩)
      have k102 := t_lc_102 (N := N) (L := L) (b := b) (x := x) (f := f) (Φ := fun r S' M' => r = some (.inl (lrV L)) ∧ S' = S0 N ∧ FrR M M' ∧ LcP L M') (B := B) (hB.1.1.2 t1).1 t2 (by omega) hHd k139 5 0 (by omega)
      rw [show ((0 : Nat) : Int) = 0 from rfl, wr_0] at k102
      refine aR_leastCost [102] 30 (fun hM => ?_)
      exact k102
    refine aR_leastCost [56] 40 (fun hM => ?_)
    refine CL.vo S' (Nat.le_of_ble_eq_true rfl) (fun hM2 => ?_)
    refine ⟨3, _, (Nat.le_of_ble_eq_true rfl), F, ?_⟩
    rintro r S'' A2 ⟨rfl, rfl, hF⟩ hA2
    obtain ⟨fn, tl⟩ := FN.fold l hI (by omega) TO hn hF
    refine t_lc_56 (L := L) (M := M) TO hI (by omega) fin 5 0 A2 (by omega) (by omega) ⟨fn, fun c j q => ?_, tl⟩ (fun e e1 e2 => by omega)
    rw [hF.2.2 c j (by omega) (by omega), sp.2 c j (by omega)]
    exact hLr c j q
  have plainly : ¬ thd Q h → ∀ A, Lx h x f b Q M A → Ret 3 0 0 mR_sweep [.inr 13, .inl (A 13 6 - 1), .inl 0] (S0 N) A (Vo (S0 N) (swp (cnt (fK Q h) 30).toNat (cnt (fK Q h) 30 - 1) A)) ∧ Ret 1 0 0 mR_answerOfTable [.inr 13] (S0 N) (swp (cnt (fK Q h) 30).toNat (cnt (fK Q h) 30 - 1) A) (Pu (S0 N) (swp (cnt (fK Q h) 30).toNat (cnt (fK Q h) 30 - 1) A) (lrV (LX Q h x f))) ∧ FrR M (swp (cnt (fK Q h) 30).toNat (cnt (fK Q h) 30 - 1) A) ∧ LcP (LX Q h x f) (swp (cnt (fK Q h) 30).toNat (cnt (fK Q h) 30 - 1) A) := by
    intro q A hL
    have l := lf A hL
    have t0 : LX Q h x f 24 12 = 0 := by
      rcases ht with ht | ht
      · exact ht
      · exact absurd ((LX_thd hh hT).mp ht.1) q
    have sp := swp_spec (cnt (fK Q h) 30).toNat (cnt (fK Q h) 30 - 1) A
    have lc : LcP (LX Q h x f) (swp (cnt (fK Q h) 30).toNat (cnt (fK Q h) 30 - 1) A) := by
      refine ⟨(FN.plain l t0).fr (fun c j q => sp.2 c j (by omega)), fun m e q1 q2 _ e1 e2 => ?_⟩
      rw [if_neg (by omega)]
      have tf := tail_fq l hI (by omega) (to := 0) (n := (cnt (fK Q h) 30).toNat) (by omega) (by omega) m e q1 q2 e1 e2
      rw [e7] at tf
      exact ⟨tf.1.mono (by omega), by omega, by omega⟩
    have an := lc_an lc hI (Or.inl t0) (by omega)
    have a6 : A 13 6 = cnt (fK Q h) 30 := hL.2.1.1
    have Sw := t_sweep (N := N) (M := A) (fr := A 13 6 - 1) (to := 0) (by omega) (by omega) (by omega) (by omega) (l.swB (by omega))
    rw [show (A 13 6 - 1 + 1 - 0).toNat = (cnt (fK Q h) 30).toNat by omega, show swp (cnt (fK Q h) 30).toNat (A 13 6 - 1) A = swp (cnt (fK Q h) 30).toNat (cnt (fK Q h) 30 - 1) A by rw [a6]] at Sw
    have An := t_answerOfTable (N := N) (M := swp (cnt (fK Q h) 30).toNat (cnt (fK Q h) 30 - 1) A) (fun q e e1 e2 => by
      rw [sp.2 13 6 (by omega)] at q
      have := (lc.2 0 e (by omega) (by omega) (fun _ => by omega) e1 e2).2
      rw [show 5 * 0 + e - 1 = e - 1 by omega] at this
      omega)
    rw [an] at An
    exact ⟨Sw, An, fun c j q => by rw [sp.2 c j (by omega)]; exact hL.2.2 c j (by omega) (by omega), lc⟩
  rcases hb with ⟨rfl, rfl, rfl, rfl, rfl⟩ | ⟨rfl, rfl, rfl, rfl, rfl⟩
  all_goals
    refine eR_leastCost [30] 30 (Nat.le_of_ble_eq_true rfl) (fun hM => ?_)
    refine ⟨4, _, (Nat.le_of_ble_eq_true rfl), Lo, ?_⟩
    rintro r S' A ⟨rfl, rfl, hL⟩ hA
    refine CL.bl (Ti A hL) (Nat.le_of_ble_eq_true rfl) (fun q => ?_) (fun q => ?_)
    · exact ⟨R32_1, tied q A hL⟩
    · obtain ⟨p1, p2, p3, lc⟩ := plainly q A hL
      exact ⟨R32_0, CL.vo p1 (Nat.le_of_ble_eq_true rfl) (fun hM2 => CL.pu p2 (Nat.le_of_ble_eq_true rfl) ⟨rfl, rfl, p3, lc⟩)⟩
end Xc
