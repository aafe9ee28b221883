section Fin
variable {N : Nat} {M0 : Mm} {a : Int}
/-- behind findTied: the fingers from the tie's first note on -/
def TdP (M0 : Mm) (a : Int) (M M' : Mm) : Prop := (∀ c j, ¬ (c = 39 ∧ a + (M0 24 10 + 1) ≤ j ∧ j ≤ a + (M0 24 7 - 1)) → ¬ (33 ≤ c ∧ c ≤ 37) → M' c j = M c j) ∧ (∀ k, M0 24 10 + 1 ≤ k → k ≤ M0 24 7 - 1 → 1 ≤ M' 39 (a + k) ∧ M' 39 (a + k) ≤ 5) ∧
  (∀ k, 0 ≤ k → k < M0 24 12 - 1 → Fst (fun g => jsM M0 k (M' 39 (a + (M0 24 10 + k))) g + jtX M0 (M' 39 (a + M0 24 10)) (k + 1) g) (jtX M0 (M' 39 (a + M0 24 10)) k (M' 39 (a + (M0 24 10 + k)))) (M' 39 (a + (M0 24 10 + k + 1)))) ∧
  (∀ k, M0 24 10 + M0 24 12 - 1 ≤ k → k < M0 24 11 - 1 → Fst (fun g => goM M0 k (M' 39 (a + k)) g + rsX M0 (M' 39 (a + M0 24 10)) (k + 1) g) (rsX M0 (M' 39 (a + M0 24 10)) k (M' 39 (a + k))) (M' 39 (a + (k + 1)))) ∧
  (∀ k, 0 ≤ k → k < M0 24 12 → M' 39 (a + (M0 24 11 + k)) = M' 39 (a + (M0 24 10 + k))) ∧
  ∀ k, M0 24 11 + M0 24 12 - 1 ≤ k → k < M0 24 7 - 1 → Fst (fun g => goM M0 k (M' 39 (a + k)) g + rsT M0 (k + 1) g) (rsT M0 k (M' 39 (a + k))) (M' 39 (a + (k + 1)))
theorem wt_lt {x : Int} (hL : LOk M0) (hT : TOk M0) (hx0 : 1 ≤ x) (hx1 : x ≤ 5) (h : wtX M0 x < 1000000) : jtX M0 x 0 x < 1000000 ∧ okM M0 (M0 24 10) x ∧ okM M0 (M0 24 11) x := by
  have hr := jtX_rng hL.1 hT (k := 0) hx0 hx1 (by have := hT.1; omega) hx0 hx1
  have hn := ncv_rng hL.1 (M0 31 (M0 24 11)) x
  unfold wtX at h
  by_cases hc : okM M0 (M0 24 10) x ∧ okM M0 (M0 24 11) x
  · rw [if_pos hc] at h
    unfold clp ncM at h
    refine ⟨?_, hc⟩
    split at h <;> omega
  · rw [if_neg hc] at h; omega
theorem z_findTied {M : Mm} (hA : Ag9 M0 M) (hT : TOk M0) (hL : LOk M0) (ha : a = 0 ∨ a = 30) (hx0 : 1 ≤ M 39 (a + M0 24 10)) (hx1 : M 39 (a + M0 24 10) ≤ 5) (hw : wtX M0 (M 39 (a + M0 24 10)) < 1000000) (htl : ∀ k f, M0 24 11 + M0 24 12 - 1 ≤ k → k ≤ M0 24 7 - 1 → 1 ≤ f → f ≤ 5 → M 35 (6 * k + f) = rsT M0 k f) : Ret 7 0 0 mM_findTied [.inr 24, .inl a] (S0 N) M (fun r S' M' => r = none ∧ S' = S0 N ∧ TdP M0 a M M') := by
  obtain ⟨t1, t2, t3, t4⟩ := id hT
  have l4 := hL.2.2.2.1
  have e10 := hA 24 10 (by omega) (by omega)
  have e24 : P9 M0 M 24 = M0 24 := P9_o 24 (by omega)
  obtain ⟨j0, -, -⟩ := wt_lt hL hT hx0 hx1 hw
  generalize hxe : M 39 (a + M0 24 10) = x at hx0 hx1 hw j0
  refine eM_findTied [19] 30 (Nat.le_of_ble_eq_true rfl) (fun hM => ?_)
  conv => whnf
  rw [e10]
  refine ⟨by omega, ?_⟩
  rw [hxe]
  refine ⟨6, _, (Nat.le_of_ble_eq_true rfl), z_findWith hA.p (P9_T hT) (P9_L hL) hx0 hx1 (fun f q1 q2 => by rw [e24, P9_rsT]; exact htl _ f (by omega) (by omega) q1 q2), ?_⟩
  rintro r S' M1 ⟨rfl, rfl, hX⟩ hM1
  unfold WX at hX
  rw [e24, P9_rsX, P9_jtX] at hX
  obtain ⟨x1, x2, x3, x4⟩ := hX
  have n9 : ∀ j, M1 39 j = M 39 j := fun j => x4 39 j (by omega) (by omega) (by omega)
  have hTB1 : TB M0 M1 x := ⟨fun c j q1 q2 => by rw [x4 c j (by omega) (by omega) (by omega)]; exact hA c j q1 q2, x1, x2, fun k f q1 q2 q3 q4 => by rw [x4 35 _ (by omega) (by omega) (by omega)]; exact htl k f q1 q2 q3 q4⟩
  have h1x : M1 39 (a + M0 24 10) = x := by rw [n9]; exact hxe
  refine z_td_l1 hT hL ha hx0 hx1 hTB1 h1x (fun M2 b2 w2 f20 f21 lt2 c2 => ?_) (M0 24 12 - 1).toNat 0 M1 (by omega) (by omega) hTB1 ⟨fun c j q => rfl, fun k q1 q2 => by omega⟩ (by rw [show M0 24 10 + 0 = M0 24 10 by omega, h1x]; exact hx0) (by rw [show M0 24 10 + 0 = M0 24 10 by omega, h1x]; exact hx1) (by rw [show M0 24 10 + 0 = M0 24 10 by omega, h1x]; exact j0) (fun i q1 q2 => by omega)
  have e210 := b2.1 24 10 (by omega) (by omega)
  have e212 := b2.1 24 12 (by omega) (by omega)
  have hlast : jtX M0 x (M0 24 12 - 1) (M2 39 (a + (M0 24 10 + M0 24 12 - 1))) = clp (rsX M0 x (M0 24 10 + M0 24 12 - 1) (M2 39 (a + (M0 24 10 + M0 24 12 - 1))) + rsT M0 (M0 24 11 + M0 24 12 - 1) (M2 39 (a + (M0 24 10 + M0 24 12 - 1)))) := by unfold jtX; rw [bz_e]
  have rX := rsX_rng hL.1 (k := M0 24 10 + M0 24 12 - 1) hx0 hx1 (by omega) f20 f21
  have rT := rsT_rng hL.1 (k := M0 24 11 + M0 24 12 - 1) (by omega) f20 f21
  have hlt2 : rsX M0 x (M0 24 10 + M0 24 12 - 1) (M2 39 (a + (M0 24 10 + M0 24 12 - 1))) < 1000000 ∧ rsT M0 (M0 24 11 + M0 24 12 - 1) (M2 39 (a + (M0 24 10 + M0 24 12 - 1))) < 1000000 := by
    rw [hlast] at lt2
    unfold clp at lt2
    split at lt2 <;> omega
  have c68 : AJ 7 0 0 mM_findTied (fun r S' M' => r = none ∧ S' = S0 N ∧ TdP M0 a M M') 0 0 68 [some (.inr 24), some (.inl a), some (.inl x)] [] (S0 N) M2 := by
    refine aM_findTied [80] 30 (fun hM => ?_)
    conv => whnf
    rw [e210, e212]
    refine AJ.wk (z_td_l2 (Ma := M2) hT hL ha hx0 hx1 (fun M3 b3 w3 c3 => ?_) (M0 24 11 - 1 - (M0 24 10 + M0 24 12 - 1)).toNat (M0 24 10 + M0 24 12 - 1) M2 (by omega) (by omega) b2 ⟨fun c j q => rfl, fun k q1 q2 => by omega⟩ f20 f21 hlt2.1 (fun i q1 q2 => by omega) none) ⟨rfl, rfl, rfl, rfl, trivial⟩
    have p3 : ∀ k, k ≤ M0 24 10 + M0 24 12 - 1 → M3 39 (a + k) = M2 39 (a + k) := fun k q => w3.1 39 _ (by omega)
    have p2 : ∀ k, k ≤ M0 24 10 → M2 39 (a + k) = M1 39 (a + k) := fun k q => w2.1 39 _ (by omega)
    have r2 : ∀ k, 0 ≤ k → k < M0 24 12 → 1 ≤ M3 39 (a + (M0 24 10 + k)) ∧ M3 39 (a + (M0 24 10 + k)) ≤ 5 := by
      intro k q1 q2
      rw [p3 _ (by omega)]
      by_cases hk : k = 0
      · rw [hk, show M0 24 10 + 0 = M0 24 10 by omega, p2 _ (by omega), h1x]; exact ⟨hx0, hx1⟩
      · exact w2.2 (M0 24 10 + k) (by omega) (by omega)
    refine aM_findTied [170] 30 (fun hM => ?_)
    refine z_td_l3 (Ma := M3) hT hL ha r2 (fun M4 b4 w4 c4 => ?_) (M0 24 12).toNat 0 M3 (by omega) (by omega) b3 ⟨fun c j q => rfl, fun k q1 q2 => by omega⟩ (fun i q1 q2 => by omega)
    have p4 : ∀ k, k ≤ M0 24 11 - 1 → M4 39 (a + k) = M3 39 (a + k) := fun k q => w4.1 39 _ (by omega)
    have e411 := b4.1 24 11 (by omega) (by omega)
    have e412 := b4.1 24 12 (by omega) (by omega)
    have hl4 : M4 39 (a + (M0 24 11 + M0 24 12 - 1)) = M2 39 (a + (M0 24 10 + M0 24 12 - 1)) := by
      have := c4 (M0 24 12 - 1) (by omega) (by omega)
      rw [show M0 24 11 + (M0 24 12 - 1) = M0 24 11 + M0 24 12 - 1 by omega, show M0 24 10 + (M0 24 12 - 1) = M0 24 10 + M0 24 12 - 1 by omega] at this
      rw [this, p4 _ (by omega), p3 _ (by omega)]
    refine aM_findTied [222] 30 (fun hM => ?_)
    conv => whnf
    rw [e411, e412]
    refine z_td_l4 (x := x) (Ma := M4) hT hL ha (fun M5 w5 b5 c5 => ⟨rfl, rfl, ?_⟩) (M0 24 7 - 1 - (M0 24 11 + M0 24 12 - 1)).toNat (M0 24 11 + M0 24 12 - 1) M4 (by omega) (by omega) b4 ⟨fun c j q => rfl, fun k q1 q2 => by omega⟩ (by rw [hl4]; exact f20) (by rw [hl4]; exact f21) (by rw [hl4]; exact hlt2.2) (fun i q1 q2 => by omega)
    have p5 : ∀ k, k ≤ M0 24 11 + M0 24 12 - 1 → M5 39 (a + k) = M4 39 (a + k) := fun k q => w5.1 39 _ (by omega)
    have px : M5 39 (a + M0 24 10) = x := by rw [p5 _ (by omega), p4 _ (by omega), p3 _ (by omega), p2 _ (by omega)]; exact h1x
    refine ⟨fun c j q1 q2 => ?_, fun k q1 q2 => ?_, fun k q1 q2 => ?_, fun k q1 q2 => ?_, fun k q1 q2 => ?_, c5⟩
    · rw [w5.1 c j (by omega), w4.1 c j (by omega), w3.1 c j (by omega), w2.1 c j (by omega)]
      exact x4 c j (by omega) (by omega) (by omega)
    · by_cases k1 : M0 24 11 + M0 24 12 ≤ k
      · exact w5.2 k k1 q2
      rw [p5 k (by omega)]
      by_cases k2 : M0 24 11 ≤ k
      · exact w4.2 k k2 (by omega)
      rw [p4 k (by omega)]
      by_cases k3 : M0 24 10 + M0 24 12 ≤ k
      · exact w3.2 k k3 (by omega)
      rw [p3 k (by omega)]
      exact w2.2 k (by omega) (by omega)
    · rw [px, p5 _ (by omega), p4 _ (by omega), p3 _ (by omega), p5 _ (by omega), p4 _ (by omega), p3 _ (by omega)]
      exact c2 k q1 q2
    · rw [px, p5 k (by omega), p4 k (by omega), p5 (k + 1) (by omega), p4 (k + 1) (by omega)]
      exact c3 k q1 q2
    · rw [p5 _ (by omega), p5 _ (by omega)]; exact c4 k q1 q2
  exact c68
/-- behind findFingers -/
def FfP (M0 : Mm) (a : Int) (M M' : Mm) : Prop := (∀ c j, ¬ (c = 39 ∧ a ≤ j ∧ j ≤ a + (M0 24 7 - 1)) → ¬ (33 ≤ c ∧ c ≤ 37) → M' c j = M c j) ∧ (∀ k, 0 ≤ k → k ≤ M0 24 7 - 1 → 1 ≤ M' 39 (a + k) ∧ M' 39 (a + k) ≤ 5) ∧ BR M0 (pf M' a)
theorem z_findFingers {M : Mm} (h : RT M0 M) (ht : M0 24 12 = 0 ∨ TOk M0) (hL : LOk M0) (hn : 0 < M0 24 7) (ha : a = 0 ∨ a = 30) (hlt : tot M0 < 1000000) : Ret 8 0 0 mM_findFingers [.inr 24, .inl a] (S0 N) M (fun r S' M' => r = none ∧ S' = S0 N ∧ FfP M0 a M M') := by
  have l4 := hL.2.2.2.1
  obtain ⟨gs, hF⟩ := m5_at (φ := stC M0) hlt
  have hg0 := hF.1
  have hg1 := hF.2.1
  have hst : stC M0 gs = tot M0 := hF.2.2.1
  have hA0 : A0 M0 gs < 1000000 ∧ okM M0 0 gs := by
    have hn2 := ncv_rng hL.1 (M0 31 0) gs
    unfold stC at hst
    by_cases hc : okM M0 0 gs
    · rw [if_pos hc] at hst
      unfold ncM at hst
      exact ⟨by omega, hc⟩
    · rw [if_neg hc] at hst; omega
  have hA := h.1
  have h9 : Ag9 M0 (mset M 39 a gs) := fun c j q1 q2 => by rw [mset_ne (by omega)]; exact hA c j q1
  have e7 := h9 24 7 (by omega) (by omega)
  have e10 := h9 24 10 (by omega) (by omega)
  have e12 := h9 24 12 (by omega) (by omega)
  have p0 : (mset M 39 a gs) 39 (a + 0) = gs := by rw [show a + 0 = a by omega, mset_eq]
  have c20 : AJ 8 0 0 mM_findFingers (fun r S' M' => r = none ∧ S' = S0 N ∧ FfP M0 a M M') 0 0 20 [some (.inr 24), some (.inl a), some (.inl gs)] [] (S0 N) M := by
    refine aM_findFingers [51] 40 (fun hM => ?_)
    refine ⟨⟨by decide, by omega, by omega, by omega, by omega⟩, ?_⟩
    refine ⟨by rw [e12, ← hA 24 12 (by omega)]; exact hM _ _, ite_i (fun q => ?_) (fun q => ?_)⟩
    · rw [e12] at q
      have hT : TOk M0 := by
        rcases ht with ht | ht
        · omega
        · exact ht
      obtain ⟨t1, t2, t3, t4⟩ := id hT
      obtain ⟨f1, f2, f3⟩ := h.2.1 t1
      conv => whnf
      rw [e10]
      refine z_ff_loop (V := rsH M0) (hi := M0 24 10) hL ha (by omega) h9 (fun M1 hM1 k g q1 q2 q3 q4 => ?_) (fun k g q1 q2 q3 q4 => rsH_rng hL.1 hT q2 q3 q4) (fun k f q1 q2 => by unfold rsH; rw [bz_s q2]) (fun M2 f0 w2 r2 lt2 c2 => ?_) (M0 24 10).toNat 0 gs _ (by omega) (by omega) (fun c j q => rfl) (fun i q1 q2 => by rw [show i = 0 by omega, p0]; omega) ?_ (fun i q1 q2 => by omega)
      · unfold aft
        rw [hM1 24 12 (by omega), hM1 24 10 (by omega), e12, e10, hM1 37 g (by omega), hM1 35 _ (by omega), mset_ne (by omega), mset_ne (by omega)]
        by_cases hk : k = M0 24 10
        · rw [if_pos ⟨t1, hk⟩, f2 g q3 q4, hk]; unfold rsH; rw [bz_e]
        · rw [if_neg (fun z => hk z.2)]; exact f3 k g q1 (by omega) q3 q4
      · have g9 : Ag9 M0 M2 := fun c j q1 q2 => by rw [w2 c j (by omega)]; exact h9 c j q1 q2
        have g12 := g9 24 12 (by omega) (by omega)
        have g0 : M2 39 (a + 0) = gs := by rw [w2 39 _ (by omega)]; exact p0
        refine aM_findFingers [] 30 (fun hM => ?_)
        refine ⟨hM _ _, ite_i (fun q => ?_) (fun q => by omega)⟩
        have hwl : wtX M0 (M2 39 (a + M0 24 10)) < 1000000 := by
          have : rsH M0 (M0 24 10) (M2 39 (a + M0 24 10)) = wtX M0 (M2 39 (a + M0 24 10)) := by unfold rsH; rw [bz_e]
          rw [← this]; exact lt2
        have hr := r2 (M0 24 10) t2 (Int.le_refl _)
        refine ⟨7, _, (Nat.le_of_ble_eq_true rfl), z_findTied g9 hT hL ha hr.1 hr.2 hwl (fun k f q1 q2 q3 q4 => ?_), ?_⟩
        · rw [w2 35 _ (by omega), mset_ne (by omega)]; exact f1 k f q1 q2 q3 q4
        · rintro r S' M3 ⟨rfl, rfl, d1, d2, d3, d4, d5, d6⟩ hM3
          have p3 : ∀ k, k ≤ M0 24 10 → M3 39 (a + k) = M2 39 (a + k) := fun k q => d1 39 _ (by omega) (by omega)
          refine ⟨rfl, rfl, fun c j q1 q2 => ?_, fun k q1 q2 => ?_, ?_, fun h0 => by omega, fun _ => ⟨fun k q1 q2 => ?_, fun k q1 q2 => ?_, fun k q1 q2 => ?_, fun k q1 q2 => ?_, fun k q1 q2 => ?_⟩⟩
          · rw [d1 c j (by omega) q2, w2 c j (by omega), mset_ne (by omega)]
          · by_cases hk : k ≤ M0 24 10
            · rw [p3 k hk]; exact r2 k q1 hk
            · exact d2 k (by omega) q2
          · show Fst (stC M0) (tot M0) (M3 39 (a + 0))
            rw [p3 0 t2, g0]; exact hF
          · have := c2 k q1 q2
            rw [show a + k + 1 = a + (k + 1) by omega] at this
            show Fst (fun g => goM M0 k (M3 39 (a + k)) g + rsH M0 (k + 1) g) (rsH M0 k (M3 39 (a + k))) (M3 39 (a + (k + 1)))
            rw [p3 k (by omega), p3 (k + 1) (by omega)]; exact this
          · exact d3 k q1 q2
          · exact d4 k q1 q2
          · exact d5 k q1 q2
          · exact d6 k q1 q2
      · rw [p0]
        unfold A0 at hA0
        rw [if_pos t1] at hA0
        exact hA0.1
    · rw [e12] at q
      have h0 : M0 24 12 = 0 := by
        rcases ht with ht | ht
        · exact ht
        · have := ht.1; omega
      have hU := h.2.2 h0
      conv => whnf
      rw [e7]
      refine z_ff_loop (V := rsT M0) (hi := M0 24 7 - 1) hL ha (by omega) h9 (fun M1 hM1 k g q1 q2 q3 q4 => ?_) (fun k g q1 q2 q3 q4 => rsT_rng hL.1 q2 q3 q4) (fun k f q1 q2 => by unfold rsT; rw [bz_s q2]) (fun M2 f0 w2 r2 lt2 c2 => ?_) (M0 24 7 - 1).toNat 0 gs _ (by omega) (by omega) (fun c j q => rfl) (fun i q1 q2 => by rw [show i = 0 by omega, p0]; omega) ?_ (fun i q1 q2 => by omega)
      · unfold aft
        rw [hM1 24 12 (by omega), e12, if_neg (by omega), hM1 35 _ (by omega), mset_ne (by omega)]
        exact hU k g q1 q2 q3 q4
      · have g0 : M2 39 (a + 0) = gs := by rw [w2 39 _ (by omega)]; exact p0
        have g12 : M2 24 12 = M0 24 12 := by rw [w2 24 12 (by omega)]; exact e12
        refine aM_findFingers [] 30 (fun hM => ?_)
        refine ⟨by omega, ite_i (fun q => by omega) (fun q => ?_)⟩
        refine ⟨rfl, rfl, fun c j q1 q2 => ?_, r2, ?_, fun _ k q1 q2 => ?_, fun h1 => by omega⟩
        · rw [w2 c j (by omega), mset_ne (by omega)]
        · show Fst (stC M0) (tot M0) (M2 39 (a + 0))
          rw [g0]; exact hF
        · have := c2 k q1 q2
          rw [show a + k + 1 = a + (k + 1) by omega] at this
          exact this
      · rw [p0]
        unfold A0 at hA0
        rw [if_neg (by omega)] at hA0
        exact hA0.1
  refine eM_findFingers [2] 30 (Nat.le_of_ble_eq_true rfl) (fun hM => ?_)
  exact z_ff_start h ht hL hn hF c20 (gs - 1).toNat 1 (by omega) (by omega)
end Fin
