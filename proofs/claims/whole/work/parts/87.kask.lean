/-! ===== the class: best, finger, would, tied, stuck, sum ===== -/
section Ka
variable {N : Nat} {M : Mm} {h : Int} {b k w n : Nat}
theorem FrR.ce {M M' : Mm} (hf : FrR M M') : CE M M' := ⟨by funext j; exact hf _ _ (by omega), by funext j; exact hf _ _ (by omega), by funext j; exact hf _ _ (by omega), by funext j; exact hf _ _ (by omega), by funext j; exact hf _ _ (by omega), by funext j; exact hf _ _ (by omega), by funext j; exact hf _ _ (by omega), by funext j; exact hf _ _ (by omega), by funext j; exact hf _ _ (by omega)⟩
theorem MI.frR {M M' : Mm} (hf : FrR M M') (hI : MI M) : MI M' := hI.ce hf.ce ⟨by funext j; exact hf _ _ (by omega), by funext j; exact hf _ _ (by omega)⟩
theorem HI2.frR {M M' : Mm} (hf : FrR M M') (hH : HI2 M) : HI2 M' := fun h b k w n hb => ((hH h b k w n hb).fr hb (fun c j q => hf c j (by omega))).1
theorem LX9 : LX M h (-9) (-9) = LM M h := by unfold LX; rw [if_pos rfl]
theorem lc_bst {A : Mm} (hh : isH h) (hI : MI M) (hl : LcP (LM M h) A) : bst M h = -9 ∨ (0 ≤ bst M h ∧ bst M h ≤ 10000) := by
  have hO := LM_ok (M := M) hh hI.1 hI.2.1
  exact (lc_an' hl hO.1 (LM_tie hh hI.2.2) hO.2.2.1).2
theorem x_least9 {Q : Mm} (hQ : ∀ c j, c ≠ 25 → c ≠ 26 → Q c j = M c j) (hb : isHC h b k w n) (hH : HI2 Q) (hI : MI Q) : Ret 5 0 0 mR_leastCost [.inr 13, .inr b, .inl (-9), .inl (-9)] (S0 N) M (fun r S' M' => r = some (.inl (bst Q h)) ∧ S' = S0 N ∧ FrR M M' ∧ LcP (LM Q h) M') := by
  have hR : RuI M := hI.1.fr (fun c hc => by funext j; exact (hQ c j (by omega) (by omega)).symm)
  have L := x_leastCost (N := N) (x := -9) (f := -9) hQ hb (hH _ _ _ _ _ hb) hI.2.1 hR hI.2.2 (by decide) (fun z => absurd rfl z) (by decide) (Or.inl rfl)
  rw [LX9] at L
  exact L
theorem t_least9 (hb : isHC h b k w n) (hH : HI2 M) (hI : MI M) : Ret 5 0 0 mR_leastCost [.inr 13, .inr b, .inl (-9), .inl (-9)] (S0 N) M (fun r S' M' => r = some (.inl (bst M h)) ∧ S' = S0 N ∧ FrR M M' ∧ LcP (LM M h) M') := x_least9 (fun _ _ _ _ => rfl) hb hH hI
theorem frR_stp {M' : Mm} {v : Int} (hf : FrR M M') (p2 : StP (upF (LM M' h)) (cnt (fK M' h) 30) v) : StP (upF (LM M h)) (cnt (fK M h) 30) v := by
  have d := ce_LM hf.ce h
  have ec : cnt (fK M' h) 30 = cnt (fK M h) 30 := by rw [ce_fK hf.ce]
  rw [ec] at p2
  have iff : ∀ i, 0 ≤ i → i < cnt (fK M h) 30 → (upF (LM M' h) i ↔ upF (LM M h) i) := fun i q1 q2 => by
    unfold upF
    have : m5 (up (LM M' h) i.toNat) = m5 (up (LM M h) i.toNat) := m5_congr (fun g g1 g2 => de_up d i.toNat (by rw [LM_7]; omega) g g1 g2)
    rw [this]
  rcases p2 with ⟨a1, a2, a3, a4⟩ | ⟨a1, a2⟩
  · exact Or.inl ⟨a1, a2, fun z => a3 ((iff v a1 a2).mpr z), fun i i1 i2 => (iff i i1 (by omega)).mp (a4 i i1 i2)⟩
  · exact Or.inr ⟨a1, fun i i1 i2 => (iff i i1 i2).mp (a2 i i1 i2)⟩
theorem k_best (hr : R32 h) (hH : HI2 M) (hI : MI M) : Ret 6 0 0 mK_best [.inr 1, .inl h] (S0 N) M (fun r S' M' => r = some (.inl (bestV M h)) ∧ S' = S0 N ∧ FrR M M') := by
  refine eK_best [] 30 (Nat.le_of_ble_eq_true rfl) (fun hM => ?_)
  refine CL.bl (t_isHand hr) (Nat.le_of_ble_eq_true rfl) (fun q1 => ?_) (fun q1 => ?_)
  · obtain ⟨b, kk, w, n, hb⟩ := hc_of q1
    have P := t_playerOf (N := N) (M := M) hb
    have L := t_least9 (N := N) hb hH hI
    have e : bestV M h = bst M h := if_pos q1
    refine ⟨R32_1, ?_⟩
    rcases hb with ⟨rfl, rfl, rfl, rfl, rfl⟩ | ⟨rfl, rfl, rfl, rfl, rfl⟩
    all_goals
      refine CL.pa P (Nat.le_of_ble_eq_true rfl) ⟨5, _, (Nat.le_of_ble_eq_true rfl), L, ?_⟩
      rintro r S' M' ⟨rfl, rfl, p3, p4⟩ hM'
      exact ⟨by rw [e], rfl, p3⟩
  · exact ⟨R32_0, by unfold bestV; rw [if_neg q1], rfl, fun _ _ _ => rfl⟩
theorem k_finger {z : Int} (hr : R32 h) (hz : R32 z) (hH : HI2 M) (hI : MI M) : Ret 7 0 0 mK_finger [.inr 1, .inl h, .inl z] (S0 N) M (fun r S' M' => (∃ v, r = some (.inl v) ∧ (if isH h ∧ 0 ≤ z ∧ z < cnt (fK M h) 30 then bfV M h z v else v = -1)) ∧ S' = S0 N ∧ FrR M M') := by
  refine eK_finger [] 30 (Nat.le_of_ble_eq_true rfl) (fun hM => ?_)
  refine CL.bl (t_isNote hr hz hH) (Nat.le_of_ble_eq_true rfl) (fun q1 => ?_) (fun q1 => ?_)
  · obtain ⟨b, kk, w, n, hb⟩ := hc_of q1.1
    have P := t_playerOf (N := N) (M := M) hb
    have B := t_bestFinger (N := N) hb (hH _ _ _ _ _ hb) hI.2.1 hI.1 hI.2.2 q1.2.1 q1.2.2
    refine ⟨R32_1, ?_⟩
    rcases hb with ⟨rfl, rfl, rfl, rfl, rfl⟩ | ⟨rfl, rfl, rfl, rfl, rfl⟩
    all_goals
      refine CL.pa P (Nat.le_of_ble_eq_true rfl) ⟨6, _, (Nat.le_of_ble_eq_true rfl), B, ?_⟩
      rintro r S' M' ⟨⟨v, rfl, p1⟩, rfl, p3⟩ hM'
      exact ⟨⟨v, rfl, by rw [if_pos q1]; exact p1⟩, rfl, p3⟩
  · exact ⟨R32_0, ⟨_, rfl, by rw [if_neg q1]⟩, rfl, fun _ _ _ => rfl⟩
theorem k_would {z f : Int} (hr : R32 h) (hz : R32 z) (hf : R32 f) (hH : HI2 M) (hI : MI M) : Ret 6 0 0 mK_would [.inr 1, .inl h, .inl z, .inl f] (S0 N) M (fun r S' M' => r = some (.inl (wouldV M h z f)) ∧ S' = S0 N ∧ FrR M M') := by
  refine eK_would [] 30 (Nat.le_of_ble_eq_true rfl) (fun hM => ?_)
  refine CL.bl (t_isNote hr hz hH) (Nat.le_of_ble_eq_true rfl) (fun q1 => ?_) (fun q1 => ?_)
  · refine ⟨R32_1, CL.bl (t_isFinger hf) (Nat.le_of_ble_eq_true rfl) (fun q2 => ?_) (fun q2 => ?_)⟩
    · obtain ⟨b, kk, w, n, hb⟩ := hc_of q1.1
      have P := t_playerOf (N := N) (M := M) hb
      have L := t_leastCost (N := N) (x := z) (f := f) hb (hH _ _ _ _ _ hb) hI.2.1 hI.1 hI.2.2 hz (fun _ => q2) hf (Or.inr q1.2.1)
      have e : wouldV M h z f = lrV (LX M h z f) := by
        unfold wouldV LX
        rw [if_pos ⟨q1.1, q1.2, q2⟩, if_neg (by omega)]
      refine ⟨R32_1, ?_⟩
      rcases hb with ⟨rfl, rfl, rfl, rfl, rfl⟩ | ⟨rfl, rfl, rfl, rfl, rfl⟩
      all_goals
        refine CL.pa P (Nat.le_of_ble_eq_true rfl) ⟨5, _, (Nat.le_of_ble_eq_true rfl), L, ?_⟩
        rintro r S' M' ⟨rfl, rfl, p3, p4⟩ hM'
        exact ⟨by rw [e], rfl, p3⟩
    · exact ⟨R32_0, by unfold wouldV; rw [if_neg (fun z => q2 z.2.2)], rfl, fun _ _ _ => rfl⟩
  · exact ⟨R32_0, by unfold wouldV; rw [if_neg (fun z => q1 ⟨z.1, z.2.1⟩)], rfl, fun _ _ _ => rfl⟩
theorem frR_plain {M' : Mm} (hh : isH h) (hf : FrR M M') (hI : MI M) : plain M' h = plain M h := by
  have hO := (LM_ok (M := M) hh hI.1 hI.2.1).t0
  exact de_lrV (de_t0 (ce_LM hf.ce h)) (Or.inl (mset_eq ..)) hO.2.2.1
theorem k_tied (hr : R32 h) (hH : HI2 M) (hI : MI M) : Ret 6 0 0 mK_tied [.inr 1, .inl h] (S0 N) M (fun r S' M' => r = some (.inl (tiedV M h)) ∧ S' = S0 N ∧ FrR M M') := by
  refine eK_tied [51, 56] 60 (Nat.le_of_ble_eq_true rfl) (fun hM => ?_)
  refine CL.bl (t_isHand hr) (Nat.le_of_ble_eq_true rfl) (fun q1 => ?_) (fun q1 => ?_)
  · obtain ⟨b, kk, w, n, hb⟩ := hc_of q1
    have P := t_playerOf (N := N) (M := M) hb
    have L := t_least9 (N := N) hb hH hI
    have pr : plain M h = -9 ∨ (0 ≤ plain M h ∧ plain M h < 1000000) := lrV_rng (Or.inl (mset_eq ..)) (LM_ok (M := M) q1 hI.1 hI.2.1).t0
    have nxt : ∀ M', FrR M M' → Ret 0 0 0 mK_playerOf [.inr 1, .inl h] (S0 N) M' (Pa (S0 N) M' b) ∧ Ret 5 0 0 mR_untiedCost [.inr 13, .inr b] (S0 N) M' (fun r S' M'' => r = some (.inl (plain M h)) ∧ S' = S0 N ∧ FrR M' M'') := fun M' hf => by
      have hI' := hI.frR hf
      have U := t_untiedCost (N := N) hb ((hH.frR hf) _ _ _ _ _ hb) hI'.2.1 hI'.1
      rw [frR_plain q1 hf hI] at U
      exact ⟨t_playerOf hb, U⟩
    have e : tiedV M h = if bst M h = -9 ∨ plain M h = -9 then -9 else bst M h - plain M h := if_pos q1
    have k51 : ∀ M'', FrR M M'' → (bst M h = -9 ∨ plain M h = -9) → AJ 6 0 0 mK_tied (fun r S' M' => r = some (.inl (tiedV M h)) ∧ S' = S0 N ∧ FrR M M') 0 0 51 [some (.inr 1), some (.inl h), some (.inl (bst M h)), some (.inl (plain M h))] [] (S0 N) M'' := fun M'' hf q => by
      refine aK_tied [] 30 (fun hM => ?_)
      exact ⟨by rw [e, if_pos q], rfl, hf⟩
    have k56 : ∀ M'', FrR M M'' → ¬ (bst M h = -9 ∨ plain M h = -9) → R32 (bst M h - plain M h) → AJ 6 0 0 mK_tied (fun r S' M' => r = some (.inl (tiedV M h)) ∧ S' = S0 N ∧ FrR M M') 0 0 56 [some (.inr 1), some (.inl h), some (.inl (bst M h)), some (.inl (plain M h))] [] (S0 N) M'' := fun M'' hf q hr => by
      refine aK_tied [] 30 (fun hM => ?_)
      refine ⟨?_, rfl, hf⟩
      rw [e, if_neg q]
    refine ⟨R32_1, ?_⟩
    rcases hb with ⟨rfl, rfl, rfl, rfl, rfl⟩ | ⟨rfl, rfl, rfl, rfl, rfl⟩
    all_goals
      refine CL.pa P (Nat.le_of_ble_eq_true rfl) ⟨5, _, (Nat.le_of_ble_eq_true rfl), L, ?_⟩
      rintro r S' M' ⟨rfl, rfl, p3, p4'⟩ hM'
      have p4 := lc_bst q1 hI p4'
      obtain ⟨P', U⟩ := nxt M' p3
      refine CL.pa P' (Nat.le_of_ble_eq_true rfl) ⟨5, _, (Nat.le_of_ble_eq_true rfl), U, ?_⟩
      rintro r S' M'' ⟨rfl, rfl, p5⟩ hM''
      refine ⟨by omega, ite_i (fun q2 => ?_) (fun q2 => ?_)⟩
      · exact k51 M'' (p3.trans p5) (Or.inl q2)
      · refine ⟨by omega, ite_i (fun q3 => ?_) (fun q3 => ?_)⟩
        · exact k51 M'' (p3.trans p5) (Or.inr q3)
        · exact k56 M'' (p3.trans p5) (by omega) (by omega)
  · exact ⟨R32_0, by unfold tiedV; rw [if_neg q1], rfl, fun _ _ _ => rfl⟩
theorem k_stuck (hr : R32 h) (hH : HI2 M) (hI : MI M) : Ret 6 0 0 mK_stuck [.inr 1, .inl h] (S0 N) M (fun r S' M' => (∃ v, r = some (.inl v) ∧ StkV M h v) ∧ S' = S0 N ∧ FrR M M') := by
  refine eK_stuck [] 60 (Nat.le_of_ble_eq_true rfl) (fun hM => ?_)
  refine CL.bl (t_isHand hr) (Nat.le_of_ble_eq_true rfl) (fun q1 => ?_) (fun q1 => ?_)
  · obtain ⟨b, kk, w, n, hb⟩ := hc_of q1
    have P := t_playerOf (N := N) (M := M) hb
    have L := t_least9 (N := N) hb hH hI
    have nxt : ∀ M', FrR M M' → Ret 5 0 0 mR_firstBlocked [.inr 13, .inr b] (S0 N) M' (fun r S' M'' => (∃ v, r = some (.inl v) ∧ StP (upF (LM M' h)) (cnt (fK M' h) 30) v) ∧ S' = S0 N ∧ FrR M' M'') := fun M' hf => by
      have hI' := hI.frR hf
      exact t_firstBlocked (N := N) hb ((hH.frR hf) _ _ _ _ _ hb) hI'.2.1 hI'.1 hI'.2.2
    refine ⟨R32_1, ?_⟩
    rcases hb with ⟨rfl, rfl, rfl, rfl, rfl⟩ | ⟨rfl, rfl, rfl, rfl, rfl⟩
    all_goals
      refine CL.pa P (Nat.le_of_ble_eq_true rfl) ⟨5, _, (Nat.le_of_ble_eq_true rfl), L, ?_⟩
      rintro r S' M' ⟨rfl, rfl, p3, p4'⟩ hM'
      have p4 := lc_bst q1 hI p4'
      refine ⟨by omega, ite_i (fun q2 => ?_) (fun q2 => ?_)⟩
      · refine ⟨5, _, (Nat.le_of_ble_eq_true rfl), nxt M' p3, ?_⟩
        rintro r S' M'' ⟨⟨v, rfl, p5⟩, rfl, p6⟩ hM''
        exact ⟨⟨v, rfl, by unfold StkV; rw [if_pos q1, if_pos q2]; exact frR_stp p3 p5⟩, rfl, p3.trans p6⟩
      · exact ⟨⟨_, rfl, by unfold StkV; rw [if_pos q1, if_neg q2]⟩, rfl, p3⟩
  · exact ⟨R32_0, ⟨_, rfl, by unfold StkV; rw [if_neg q1]⟩, rfl, fun _ _ _ => rfl⟩
theorem qv_ce {Q M' : Mm} (hQ : ∀ c j, c ≠ 25 → c ≠ 26 → Q c j = M c j) (hf : FrR M M') : FrR Q (qv Q M') := fun c j q => by
  unfold qv
  split
  · rfl
  · rw [hf c j q, hQ c j (by omega) (by omega)]
theorem x_sum {Q : Mm} (hQ : ∀ c j, c ≠ 25 → c ≠ 26 → Q c j = M c j) (hH : HI2 Q) (hI : MI Q) : Ret 6 0 0 mK_sum [.inr 1] (S0 N) M (fun r S' M' => r = some (.inl (sumV Q)) ∧ S' = S0 N ∧ FrR M M' ∧ (sumV Q = -9 ∨ (0 ≤ sumV Q ∧ sumV Q ≤ 20000))) := by
  have L0 := x_least9 (N := N) hQ hc0 hH hI
  have L1 : ∀ M', FrR M M' → Ret 5 0 0 mR_leastCost [.inr 13, .inr 9, .inl (-9), .inl (-9)] (S0 N) M' (fun r S' M'' => r = some (.inl (bst Q 1)) ∧ S' = S0 N ∧ FrR M' M'' ∧ LcP (LM (qv Q M') 1) M'') := fun M' hf => by
    have hq := qv_ce hQ hf
    have := x_least9 (N := N) (M := M') (Q := qv Q M') qv_q hc1 (hH.frR hq) (hI.frR hq)
    rw [ce_bst hq.ce (Or.inr rfl) hI] at this
    exact this
  have k44 : ∀ M'', FrR M M'' → (bst Q 0 = -9 ∨ bst Q 1 = -9) → AJ 6 0 0 mK_sum (fun r S' M' => r = some (.inl (sumV Q)) ∧ S' = S0 N ∧ FrR M M' ∧ (sumV Q = -9 ∨ (0 ≤ sumV Q ∧ sumV Q ≤ 20000))) 0 0 44 [some (.inr 1), some (.inl (bst Q 0)), some (.inl (bst Q 1))] [] (S0 N) M'' := fun M'' hf q => by
    have e : sumV Q = -9 := by unfold sumV tgt; rw [if_pos q]
    refine aK_sum [] 30 (fun hM => ?_)
    exact ⟨by rw [e], rfl, hf, Or.inl e⟩
  have k49 : ∀ M'', FrR M M'' → ¬ (bst Q 0 = -9 ∨ bst Q 1 = -9) → (0 ≤ bst Q 0 ∧ bst Q 0 ≤ 10000) → (0 ≤ bst Q 1 ∧ bst Q 1 ≤ 10000) → AJ 6 0 0 mK_sum (fun r S' M' => r = some (.inl (sumV Q)) ∧ S' = S0 N ∧ FrR M M' ∧ (sumV Q = -9 ∨ (0 ≤ sumV Q ∧ sumV Q ≤ 20000))) 0 0 49 [some (.inr 1), some (.inl (bst Q 0)), some (.inl (bst Q 1))] [] (S0 N) M'' := fun M'' hf q h0 h1 => by
    have e : sumV Q = bst Q 0 + bst Q 1 := by unfold sumV tgt; rw [if_neg q]
    refine aK_sum [] 30 (fun hM => ?_)
    exact ⟨by rw [e], rfl, hf, by omega⟩
  refine eK_sum [44, 49] 60 (Nat.le_of_ble_eq_true rfl) (fun hM => ?_)
  refine ⟨5, _, (Nat.le_of_ble_eq_true rfl), L0, ?_⟩
  rintro r S' M' ⟨rfl, rfl, p3, p4'⟩ hM'
  have p4 := lc_bst (Or.inl rfl) hI p4'
  refine ⟨5, _, (Nat.le_of_ble_eq_true rfl), L1 M' p3, ?_⟩
  rintro r S' M'' ⟨rfl, rfl, p5, p6'⟩ hM''
  have p6 := lc_bst (Or.inr rfl) (hI.frR (qv_ce hQ p3)) p6'
  rw [ce_bst (qv_ce hQ p3).ce (Or.inr rfl) hI] at p6
  refine ⟨by omega, ite_i (fun q2 => ?_) (fun q2 => ?_)⟩
  · exact k44 M'' (p3.trans p5) (Or.inl q2)
  · refine ⟨by omega, ite_i (fun q3 => ?_) (fun q3 => ?_)⟩
    · exact k44 M'' (p3.trans p5) (Or.inr q3)
    · exact k49 M'' (p3.trans p5) (by omega) (by omega) (by omega)
theorem k_sum (hH : HI2 M) (hI : MI M) : Ret 6 0 0 mK_sum [.inr 1] (S0 N) M (fun r S' M' => r = some (.inl (sumV M)) ∧ S' = S0 N ∧ FrR M M' ∧ (sumV M = -9 ∨ (0 ≤ sumV M ∧ sumV M ≤ 20000))) := x_sum (fun _ _ _ _ => rfl) hH hI
end Ka
