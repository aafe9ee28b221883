/-! ===== the class: more public calls ===== -/
section Kq
variable {N : Nat} {M : Mm} {h : Int}
/-- of the hand that h is -/
abbrev oH (h : Int) (P : Nat → Nat → Nat → Nat → Prop) : Prop := ∀ b k w n, isHC h b k w n → P b k w n
theorem oH_of {P : Nat → Nat → Nat → Nat → Prop} {b k w n : Nat} (hb : isHC h b k w n) (hp : P b k w n) : oH h P := fun b' k' w' n' hb' => by
  have e1 : b' = b := by omega
  have e2 : k' = k := by omega
  have e3 : w' = w := by omega
  have e4 : n' = n := by omega
  subst e1; subst e2; subst e3; subst e4
  exact hp
theorem k_mark {m f : Int} (hr : R32 h) (hm : R32 m) (hf : R32 f) (hH : HI2 M) : Ret 3 0 0 mK_mark [.inr 1, .inl h, .inl m, .inl f] (S0 N) M (fun r S' M' => r = some (.inl (markV M h m f)) ∧ S' = S0 N ∧ (markK M h m f → oH h (fun b k w n => M' = mset M w m f)) ∧ (¬ markK M h m f → M' = M)) := by
  have go : isH h → isM m → (f = -9 ∨ isF f) → AJ 3 0 0 mK_mark (fun r S' M' => r = some (.inl (markV M h m f)) ∧ S' = S0 N ∧ (markK M h m f → oH h (fun b k w n => M' = mset M w m f)) ∧ (¬ markK M h m f → M' = M)) 0 0 32 [some (.inr 1), some (.inl h), some (.inl m), some (.inl f)] [] (S0 N) M := by
    intro q1 q2 q3
    obtain ⟨b, k, w, n, hb⟩ := hc_of q1
    have P := t_playerOf (N := N) (M := M) hb
    have hk := (hH _ _ _ _ _ hb).1 m q2.1 q2.2
    have K := t_keyAt (N := N) (M := M) (b := b) (hc_b hb) q2.1 q2.2
    have W := t_markAt (N := N) (M := M) (b := b) (hc_b hb) q2.1 q2.2
    have G := t_setMark (N := N) (M := M) (b := b) (hc_b hb) q2.1 q2.2 hf
    rw [show b + 1 = k by omega, hk.1] at K
    rw [show b + 2 = w by omega, hk.2] at W
    rw [show b + 2 = w by omega] at G
    have hb0 := hb
    rcases hb with ⟨rfl, rfl, rfl, rfl, rfl⟩ | ⟨rfl, rfl, rfl, rfl, rfl⟩
    all_goals
      refine aK_mark [] 40 (fun hM => ?_)
      refine CL.pa P (Nat.le_of_ble_eq_true rfl) (CL.pu K (Nat.le_of_ble_eq_true rfl) ?_)
      refine ⟨⟨hM _ _, by decide⟩, ite_i (fun q4 => ?_) (fun q4 => ?_)⟩
      · exact ⟨by unfold markV; rw [if_pos ⟨q1, q2⟩, if_pos q3, if_pos q4], rfl, fun z => absurd q4 z.2.2, fun _ => rfl⟩
      · refine CL.pu W (Nat.le_of_ble_eq_true rfl) (CL.vo G (Nat.le_of_ble_eq_true rfl) (fun hM2 => ?_))
        exact ⟨by unfold markV; rw [if_pos ⟨q1, q2⟩, if_pos q3, if_neg q4], rfl, fun _ => oH_of hb0 rfl, fun z => absurd ⟨⟨q1, q2⟩, q3, q4⟩ z⟩
  refine eK_mark [32] 40 (Nat.le_of_ble_eq_true rfl) (fun hM => ?_)
  refine CL.bl (t_isHand hr) (Nat.le_of_ble_eq_true rfl) (fun q1 => ?_) (fun q1 => ?_)
  · refine ⟨R32_1, CL.bl (t_isMoment hm) (Nat.le_of_ble_eq_true rfl) (fun q2 => ?_) (fun q2 => ?_)⟩
    · refine ⟨R32_1, by omega, ite_i (fun q3 => ?_) (fun q3 => ?_)⟩
      · exact go q1 q2 (Or.inl q3)
      · refine CL.bl (t_isFinger hf) (Nat.le_of_ble_eq_true rfl) (fun q4 => ?_) (fun q4 => ?_)
        · exact ⟨R32_1, go q1 q2 (Or.inr q4)⟩
        · exact ⟨R32_0, by unfold markV; rw [if_pos ⟨q1, q2⟩, if_neg (by omega)], rfl, fun z => absurd z.2.1 (by omega), fun _ => rfl⟩
    · exact ⟨R32_0, by unfold markV; rw [if_neg (fun z => q2 z.2)], rfl, fun z => absurd z.1.2 q2, fun _ => rfl⟩
  · exact ⟨R32_0, by unfold markV; rw [if_neg (fun z => q1 z.1)], rfl, fun z => absurd z.1.1 q1, fun _ => rfl⟩
theorem k_price {k v : Int} (hk : R32 k) (hv : R32 v) (hI : RuI M) : Ret 2 0 0 mK_price [.inr 1, .inl k, .inl v] (S0 N) M (Pv (S0 N) (if priceK k v then mset M 3 k v else M) (priceV M k v)) := by
  refine eK_price [] 40 (Nat.le_of_ble_eq_true rfl) (fun hM => ?_)
  have bad : ¬ priceK k v → Pv (S0 N) (if priceK k v then mset M 3 k v else M) (priceV M k v) (some (.inl (-2))) (S0 N) M := fun q => pv_eq (by unfold priceV; rw [if_neg q]) (by rw [if_neg q])
  refine CL.bl (t_isBelow hk (by decide)) (Nat.le_of_ble_eq_true rfl) (fun q1 => ?_) (fun q1 => ?_)
  · refine ⟨R32_1, hv, ite_i (fun q2 => ?_) (fun q2 => ?_)⟩
    · exact bad (by omega)
    · refine ⟨by omega, ite_i (fun q3 => ?_) (fun q3 => ?_)⟩
      · exact bad (by omega)
      · have ok : priceK k v := ⟨by omega, by omega, by omega⟩
        refine CL.pu (t_priceOf (by omega) (by omega)) (Nat.le_of_ble_eq_true rfl) ?_
        refine CL.vo (t_setPrice (by omega) (by omega) hv) (Nat.le_of_ble_eq_true rfl) (fun hM2 => ?_)
        exact pv_eq (by unfold priceV; rw [if_pos ok]; exact (hI.1 k (by omega) (by omega)).1) (by rw [if_pos ok])
  · exact ⟨R32_0, bad (by omega)⟩
theorem k_clear (hr : R32 h) (hH : HI2 M) : Ret 2 0 0 mK_clear [.inr 1, .inl h] (S0 N) M (fun r S' M' => r = some (.inl (clearV M h)) ∧ S' = S0 N ∧ (isH h → oH h (fun b k w n => M' = raM b k w M)) ∧ (¬ isH h → M' = M)) := by
  refine eK_clear [] 40 (Nat.le_of_ble_eq_true rfl) (fun hM => ?_)
  refine CL.bl (t_isHand hr) (Nat.le_of_ble_eq_true rfl) (fun q1 => ?_) (fun q1 => ?_)
  · obtain ⟨b, k, w, n, hb⟩ := hc_of q1
    have P := t_playerOf (N := N) (M := M) hb
    have C := t_noteCount' (N := N) hb (hH _ _ _ _ _ hb)
    have G := t_restAlways (N := N) (M := M) (hc_c hb)
    have hb0 := hb
    rcases hb with ⟨rfl, rfl, rfl, rfl, rfl⟩ | ⟨rfl, rfl, rfl, rfl, rfl⟩
    all_goals
      refine ⟨R32_1, CL.pa P (Nat.le_of_ble_eq_true rfl) (CL.pu C (Nat.le_of_ble_eq_true rfl) (CL.vo G (Nat.le_of_ble_eq_true rfl) (fun hM2 => ?_)))⟩
      exact ⟨by unfold clearV; rw [if_pos q1], rfl, fun _ => oH_of hb0 rfl, fun z => absurd q1 z⟩
  · exact ⟨R32_0, by unfold clearV; rw [if_neg q1], rfl, fun z => absurd z q1, fun _ => rfl⟩
theorem k_note {k v : Int} (hr : R32 h) (hk : R32 k) (hv : R32 v) (hH : HI2 M) (hK : KyI M) : Ret 2 0 0 mK_note [.inr 1, .inl h, .inl k, .inl v] (S0 N) M (Pu (S0 N) M (noteV M h k v)) := by
  refine eK_note [] 40 (Nat.le_of_ble_eq_true rfl) (fun hM => ?_)
  refine CL.bl (t_isNote hr hk hH) (Nat.le_of_ble_eq_true rfl) (fun q => ?_) (fun q => ?_)
  · obtain ⟨q1, q2⟩ := id q
    obtain ⟨b, kk, w, n, hb⟩ := hc_of q1
    have P := t_playerOf (N := N) (M := M) hb
    have K1 := t_momentOf' (N := N) hb (hH _ _ _ _ _ hb) q2.1 q2.2
    have K2 := t_keyOf' (N := N) hb (hH _ _ _ _ _ hb) q2.1 q2.2
    have K3 := t_markOf' (N := N) hb (hH _ _ _ _ _ hb) q2.1 q2.2
    have kr := kyF_rng q1 hK q2.1 q2.2
    rcases hb with ⟨rfl, rfl, rfl, rfl, rfl⟩ | ⟨rfl, rfl, rfl, rfl, rfl⟩
    all_goals
      refine ⟨R32_1, CL.pa P (Nat.le_of_ble_eq_true rfl) ?_⟩
      refine ⟨hv, fun q3 => ?_, fun q3 => ?_, fun q3 => ?_, fun q3 => ?_, fun q3 => ?_, trivial⟩
      · exact pu_eq (by unfold noteV; rw [if_pos q, if_neg (by omega), if_neg (by omega), if_neg (by omega), if_neg (by omega)])
      · exact CL.pu K1 (Nat.le_of_ble_eq_true rfl) (pu_eq (by unfold noteV; rw [if_pos q, if_pos (by omega)]))
      · exact CL.pu K2 (Nat.le_of_ble_eq_true rfl) (pu_eq (by unfold noteV; rw [if_pos q, if_neg (by omega), if_pos (by omega)]))
      · exact CL.pu K3 (Nat.le_of_ble_eq_true rfl) (pu_eq (by unfold noteV; rw [if_pos q, if_neg (by omega), if_neg (by omega), if_pos (by omega)]))
      · refine CL.pu K2 (Nat.le_of_ble_eq_true rfl) (CL.bl (t_isBlack kr.1 (by omega)) (Nat.le_of_ble_eq_true rfl) (fun q4 => ?_) (fun q4 => ?_))
        · exact ⟨R32_1, pu_eq (by unfold noteV; rw [if_pos q, if_neg (by omega), if_neg (by omega), if_neg (by omega), if_pos (by omega)]; exact (bi_t q4).symm)⟩
        · exact ⟨R32_0, pu_eq (by unfold noteV; rw [if_pos q, if_neg (by omega), if_neg (by omega), if_neg (by omega), if_pos (by omega)]; exact (bi_f q4).symm)⟩
  · exact ⟨R32_0, pu_eq (by unfold noteV; rw [if_neg q])⟩
theorem k_costs {k f : Int} (hf : R32 f) (hk : R32 k) (hI : RuI M) : Ret 2 0 0 mK_costs [.inr 1, .inl k, .inl f] (S0 N) M (Pu (S0 N) M (costsV M k f)) := by
  refine eK_costs [] 60 (Nat.le_of_ble_eq_true rfl) (fun hM => ?_)
  refine CL.bl (t_isFinger hf) (Nat.le_of_ble_eq_true rfl) (fun q1 => ?_) (fun q1 => ?_)
  · refine ⟨R32_1, CL.bl (t_isKey hk) (Nat.le_of_ble_eq_true rfl) (fun q2 => ?_) (fun q2 => ?_)⟩
    · refine ⟨R32_1, CL.pu (t_noteCost hI q2.1 (by omega) hf) (Nat.le_of_ble_eq_true rfl) ?_⟩
      exact pu_eq (by unfold costsV; rw [if_pos q1, if_pos q2])
    · exact ⟨R32_0, pu_eq (by unfold costsV; rw [if_pos q1, if_neg q2])⟩
  · exact ⟨R32_0, pu_eq (by unfold costsV; rw [if_neg q1])⟩
theorem k_step {a f b g : Int} (hr : R32 h) (ha : R32 a) (hf : R32 f) (hb : R32 b) (hg : R32 g) (hI : RuI M) (hH : HI2 M) : Ret 3 0 0 mK_step [.inr 1, .inl h, .inl a, .inl f, .inl b, .inl g] (S0 N) M (Pu (S0 N) M (stepV M h a f b g)) := by
  refine eK_step [] 60 (Nat.le_of_ble_eq_true rfl) (fun hM => ?_)
  refine CL.bl (t_isHand hr) (Nat.le_of_ble_eq_true rfl) (fun q0 => ?_) (fun q0 => ?_)
  · refine ⟨R32_1, CL.bl (t_isFinger hf) (Nat.le_of_ble_eq_true rfl) (fun q1 => ?_) (fun q1 => ?_)⟩
    · refine ⟨R32_1, CL.bl (t_isFinger hg) (Nat.le_of_ble_eq_true rfl) (fun q2 => ?_) (fun q2 => ?_)⟩
      · refine ⟨R32_1, CL.bl (t_isKey ha) (Nat.le_of_ble_eq_true rfl) (fun q3 => ?_) (fun q3 => ?_)⟩
        · refine ⟨R32_1, CL.bl (t_isKey hb) (Nat.le_of_ble_eq_true rfl) (fun q4 => ?_) (fun q4 => ?_)⟩
          · have sr := stv_rng hI (hand := h) (a := a) (b := b) q1.1 q1.2 q2.1 q2.2
            obtain ⟨bb, kk, w, n, hc⟩ := hc_of q0
            have P := t_playerOf (N := N) (M := M) hc
            have Sd := t_side (N := N) (M := M) (b := bb) (hc_b hc)
            have e0 := (hH _ _ _ _ _ hc).2.2.2.1
            rw [e0] at Sd
            have C := t_stepCost (N := N) (sd := if h = 0 then 1 else -1) (hand := h) (a := a) (f := f) (b := b) (g := g) hI (by rcases q0 with rfl | rfl <;> simp) q3.1 q3.2 q4.1 q4.2 q1.1 q1.2 q2.1 q2.2
            have ev : (if stv (M 30) (M 27) (M 28) (M 29) h a f b g = 1000000 then -9 else stv (M 30) (M 27) (M 28) (M 29) h a f b g) = stepV M h a f b g := by
              have e1 : stepV M h a f b g = if stv (M 30) (M 27) (M 28) (M 29) h a f b g < 1000000 then stv (M 30) (M 27) (M 28) (M 29) h a f b g else -9 := by unfold stepV; rw [if_pos ⟨q0, q1, q2⟩, if_pos ⟨q3, q4⟩]
              rw [e1]
              split <;> split <;> omega
            rw [ev] at C
            rcases hc with ⟨rfl, rfl, rfl, rfl, rfl⟩ | ⟨rfl, rfl, rfl, rfl, rfl⟩
            all_goals
              refine ⟨R32_1, CL.pa P (Nat.le_of_ble_eq_true rfl) (CL.pu Sd (Nat.le_of_ble_eq_true rfl) (CL.pu C (Nat.le_of_ble_eq_true rfl) ?_))⟩
              exact pu_eq rfl
          · exact ⟨R32_0, pu_eq (by unfold stepV; rw [if_pos ⟨q0, q1, q2⟩, if_neg (fun z => q4 z.2)])⟩
        · exact ⟨R32_0, pu_eq (by unfold stepV; rw [if_pos ⟨q0, q1, q2⟩, if_neg (fun z => q3 z.1)])⟩
      · exact ⟨R32_0, pu_eq (by unfold stepV; rw [if_neg (fun z => q2 z.2.2)])⟩
    · exact ⟨R32_0, pu_eq (by unfold stepV; rw [if_neg (fun z => q1 z.2.1)])⟩
  · exact ⟨R32_0, pu_eq (by unfold stepV; rw [if_neg (fun z => q0 z.1)])⟩
theorem k_untie (hr : R32 h) (hH : HI2 M) (hT : TieI M) : Ret 2 0 0 mK_untie [.inr 1, .inl h] (S0 N) M (fun r S' M' => r = some (.inl (untieV M h)) ∧ S' = S0 N ∧ (isH h → oH h (fun b k w n => M' = mset M b 7 0)) ∧ (¬ isH h → M' = M)) := by
  refine eK_untie [] 40 (Nat.le_of_ble_eq_true rfl) (fun hM => ?_)
  refine CL.bl (t_isHand hr) (Nat.le_of_ble_eq_true rfl) (fun q1 => ?_) (fun q1 => ?_)
  · obtain ⟨b, k, w, n, hb⟩ := hc_of q1
    have P := t_playerOf (N := N) (M := M) hb
    have C := t_hasTie' (N := N) hb (hH _ _ _ _ _ hb) hT
    have G := t_dropTie (N := N) (M := M) (hc_b hb)
    have hb0 := hb
    rcases hb with ⟨rfl, rfl, rfl, rfl, rfl⟩ | ⟨rfl, rfl, rfl, rfl, rfl⟩
    all_goals
      refine ⟨R32_1, CL.pa P (Nat.le_of_ble_eq_true rfl) (CL.bl C (Nat.le_of_ble_eq_true rfl) (fun q2 => ?_) (fun q2 => ?_))⟩
      · refine ⟨R32_1, CL.vo G (Nat.le_of_ble_eq_true rfl) (fun hM2 => ?_)⟩
        exact ⟨by unfold untieV; rw [if_pos q1, bi_t q2], rfl, fun _ => oH_of hb0 rfl, fun z => absurd q1 z⟩
      · refine ⟨R32_0, CL.vo G (Nat.le_of_ble_eq_true rfl) (fun hM2 => ?_)⟩
        exact ⟨by unfold untieV; rw [if_pos q1, bi_f q2], rfl, fun _ => oH_of hb0 rfl, fun z => absurd q1 z⟩
  · exact ⟨R32_0, by unfold untieV; rw [if_neg q1], rfl, fun z => absurd z q1, fun _ => rfl⟩
theorem k_reach {f g l e o : Int} (hf : R32 f) (hg : R32 g) (hl : R32 l) (he : R32 e) (ho : R32 o) : Ret 2 0 0 mK_reach [.inr 1, .inl f, .inl g, .inl l, .inl e, .inl o] (S0 N) M (Pv (S0 N) (if reachK f g l e o then mset (mset (mset M 4 (rp f g) l) 4 (rp f g + 1) e) 4 (rp f g + 2) o else M) (reachV f g l e o)) := by
  refine eK_reach [] 60 (Nat.le_of_ble_eq_true rfl) (fun hM => ?_)
  refine CL.bl (t_isFinger hf) (Nat.le_of_ble_eq_true rfl) (fun q1 => ?_) (fun q1 => ?_)
  · refine ⟨R32_1, CL.bl (t_isFinger hg) (Nat.le_of_ble_eq_true rfl) (fun q2 => ?_) (fun q2 => ?_)⟩
    · have bad : ¬ ((0 ≤ l ∧ l ≤ 24) ∧ (l ≤ e ∧ e ≤ 24) ∧ e ≤ o ∧ o ≤ 24) → Pv (S0 N) (if reachK f g l e o then mset (mset (mset M 4 (rp f g) l) 4 (rp f g + 1) e) 4 (rp f g + 2) o else M) (reachV f g l e o) (some (.inl (-2))) (S0 N) M := fun q => pv_eq (by unfold reachV; rw [if_pos ⟨q1, q2⟩, if_neg q]) (by rw [if_neg (fun z => q z.2.1)])
      refine ⟨R32_1, hl, ite_i (fun q3 => ?_) (fun q3 => ?_)⟩
      · exact bad (by omega)
      · refine ⟨⟨he, hl⟩, ite_i (fun q4 => ?_) (fun q4 => ?_)⟩
        · exact bad (by omega)
        · refine ⟨⟨ho, he⟩, ite_i (fun q5 => ?_) (fun q5 => ?_)⟩
          · exact bad (by omega)
          · refine ⟨⟨ho, by decide⟩, ite_i (fun q6 => ?_) (fun q6 => ?_)⟩
            · exact bad (by omega)
            · have ok : (0 ≤ l ∧ l ≤ 24) ∧ (l ≤ e ∧ e ≤ 24) ∧ e ≤ o ∧ o ≤ 24 := by omega
              refine ⟨⟨hf, hg⟩, ite_i (fun q7 => ?_) (fun q7 => ?_)⟩
              · refine CL.vo (t_setReach q1.1 q7 q2.2 hl he ho) (Nat.le_of_ble_eq_true rfl) (fun hM2 => ?_)
                exact pv_eq (by unfold reachV; rw [if_pos ⟨q1, q2⟩, if_pos ok, if_pos q7]) (by rw [if_pos ⟨⟨q1, q2⟩, ok, q7⟩])
              · exact pv_eq (by unfold reachV; rw [if_pos ⟨q1, q2⟩, if_pos ok, if_neg q7]) (by rw [if_neg (fun z => q7 z.2.2)])
    · exact ⟨R32_0, pv_eq (by unfold reachV; rw [if_neg (fun z => q2 z.2)]) (by rw [if_neg (fun z => q2 z.1.2)])⟩
  · exact ⟨R32_0, pv_eq (by unfold reachV; rw [if_neg (fun z => q1 z.1)]) (by rw [if_neg (fun z => q1 z.1.1)])⟩
theorem k_reachOf {f g v : Int} (hf : R32 f) (hg : R32 g) (hv : R32 v) (hI : RuI M) : Ret 2 0 0 mK_reachOf [.inr 1, .inl f, .inl g, .inl v] (S0 N) M (Pu (S0 N) M (reachOfV M f g v)) := by
  refine eK_reachOf [] 60 (Nat.le_of_ble_eq_true rfl) (fun hM => ?_)
  refine CL.bl (t_isFinger hf) (Nat.le_of_ble_eq_true rfl) (fun q1 => ?_) (fun q1 => ?_)
  · refine ⟨R32_1, CL.bl (t_isFinger hg) (Nat.le_of_ble_eq_true rfl) (fun q2 => ?_) (fun q2 => ?_)⟩
    · refine ⟨R32_1, CL.bl (t_isBelow hv (by decide)) (Nat.le_of_ble_eq_true rfl) (fun q3 => ?_) (fun q3 => ?_)⟩
      · refine ⟨R32_1, ⟨hf, hg⟩, ite_i (fun q4 => ?_) (fun q4 => ?_)⟩
        · have r := hI.2 f g q1.1 q4 q2.2
          refine CL.pu (t_reachPart q1.1 q4 q2.2 q3.1 q3.2) (Nat.le_of_ble_eq_true rfl) (pu_eq ?_)
          unfold reachOfV
          rw [if_pos ⟨q1, q2⟩, if_pos (by omega), if_pos q4]
          by_cases v0 : v = 0
          · rw [if_pos v0, v0, Int.add_zero]; exact r.1
          · rw [if_neg v0]
            by_cases v1 : v = 1
            · rw [if_pos v1, v1]; exact r.2.1
            · rw [if_neg v1, show v = 2 by omega]; exact r.2.2.1
        · exact pu_eq (by unfold reachOfV; rw [if_pos ⟨q1, q2⟩, if_pos (by omega), if_neg q4])
      · exact ⟨R32_0, pu_eq (by unfold reachOfV; rw [if_pos ⟨q1, q2⟩, if_neg (by omega)])⟩
    · exact ⟨R32_0, pu_eq (by unfold reachOfV; rw [if_neg (fun z => q2 z.2)])⟩
  · exact ⟨R32_0, pu_eq (by unfold reachOfV; rw [if_neg (fun z => q1 z.1)])⟩
end Kq
