/-! ===== the class: a hand is loaded that is not the reference's hand (Q: what the reference would have) ===== -/
/-- M, with what the reference would have -/
def qv (Q M : Mm) : Mm := fun c j => if c = 25 ∨ c = 26 then Q c j else M c j
def Lx (h x f : Int) (b : Nat) (Q M M' : Mm) : Prop := LdP h x f (cnt (fK Q h) 30) Q M' ∧ (M' 13 6 = cnt (fK Q h) 30 ∧ M' 13 7 = M b 5 ∧ M' 13 8 = M b 6 ∧ M' 13 9 = M b 7) ∧ ∀ c j, ¬ (c = 13 ∧ 6 ≤ j ∧ j ≤ 9) → ¬ (c = 14 ∨ c = 15) → M' c j = M c j
section Xl
variable {N : Nat} {Q M : Mm} {h : Int} {b k w n : Nat}
theorem qv_o {c : Nat} {j : Int} (hc : c ≠ 25 ∧ c ≠ 26) : qv Q M c j = M c j := by unfold qv; rw [if_neg (by omega)]
theorem qv_q : ∀ c j, c ≠ 25 → c ≠ 26 → qv Q M c j = M c j := fun _ _ h1 h2 => qv_o ⟨h1, h2⟩
theorem qv_26 {j : Int} : qv Q M 26 j = Q 26 j := by unfold qv; rw [if_pos (Or.inr rfl)]
theorem qv_25 {j : Int} : qv Q M 25 j = Q 25 j := by unfold qv; rw [if_pos (Or.inl rfl)]
theorem qv_fr {A : Mm} (hQ : ∀ c j, c ≠ 25 → c ≠ 26 → Q c j = M c j) (hf : ∀ c j, c ≤ 12 ∨ 24 < c → A c j = M c j) : ∀ c j, c ≤ 12 ∨ 24 < c → qv Q A c j = Q c j := fun c j hc => by
  unfold qv
  split
  · rfl
  · rw [hf c j hc, hQ c j (by omega) (by omega)]
theorem x_keyOf (hQ : ∀ c j, c ≠ 25 → c ≠ 26 → Q c j = M c j) (hb : isHC h b k w n) (hI : HnI Q h b k w n) {j : Int} (h0 : 0 ≤ j) (h1 : j < cnt (fK Q h) 30) : Ret 1 0 0 mH_keyOf [.inr b, .inl j] (S0 N) M (Pu (S0 N) M (kyF Q h j)) := by
  obtain ⟨i1, i2, i3, i4, i5⟩ := hI
  have cr := cnt_rng (fK Q h) 30
  have no := nmo_ok h0 h1
  have e := i3 j h0 h1
  rw [hQ n _ (by omega) (by omega)] at e
  have e2 := (i1 (nmo (fK Q h) j 30) no.1 no.2.1).1
  rw [hQ k _ (by omega) (by omega)] at e2
  have := t_keyOf (N := N) (M := M) (k := j) (b := b) (hc_b hb) h0 (by omega) (by rw [show b + 3 = n by omega, e]; exact no.1) (by rw [show b + 3 = n by omega, e]; exact no.2.1)
  rw [show b + 3 = n by omega, show b + 1 = k by omega, e, e2] at this
  exact this
theorem x_markOf (hQ : ∀ c j, c ≠ 25 → c ≠ 26 → Q c j = M c j) (hb : isHC h b k w n) (hI : HnI Q h b k w n) {j : Int} (h0 : 0 ≤ j) (h1 : j < cnt (fK Q h) 30) : Ret 1 0 0 mH_markOf [.inr b, .inl j] (S0 N) M (Pu (S0 N) M (Q 26 (30 * h + nmo (fK Q h) j 30))) := by
  obtain ⟨i1, i2, i3, i4, i5⟩ := hI
  have cr := cnt_rng (fK Q h) 30
  have no := nmo_ok h0 h1
  have e := i3 j h0 h1
  rw [hQ n _ (by omega) (by omega)] at e
  have e2 := (i1 (nmo (fK Q h) j 30) no.1 no.2.1).2
  rw [hQ w _ (by omega) (by omega)] at e2
  have := t_markOf (N := N) (M := M) (k := j) (b := b) (hc_b hb) h0 (by omega) (by rw [show b + 3 = n by omega, e]; exact no.1) (by rw [show b + 3 = n by omega, e]; exact no.2.1)
  rw [show b + 3 = n by omega, show b + 2 = w by omega, e, e2] at this
  exact this
theorem x_noteCount (hQ : ∀ c j, c ≠ 25 → c ≠ 26 → Q c j = M c j) (hb : isHC h b k w n) (hI : HnI Q h b k w n) : Ret 0 0 0 mH_noteCount [.inr b] (S0 N) M (Pu (S0 N) M (cnt (fK Q h) 30)) := by
  have := t_noteCount (N := N) (M := M) (b := b) (hc_b hb)
  have e := hI.2.1
  rw [hQ b 4 (by omega) (by omega)] at e
  rw [e] at this
  exact this
theorem x_tieHolds (hQ : ∀ c j, c ≠ 25 → c ≠ 26 → Q c j = M c j) (hb : isHC h b k w n) (hI : HnI Q h b k w n) (hT : TieI Q) : Ret 0 0 0 mH_tieHolds [.inr b] (S0 N) M (Pu (S0 N) M (bi (thd Q h))) := by
  have ht := hT h (hc_h hb)
  obtain ⟨i1, i2, i3, i4, i5⟩ := hI
  rw [hQ b 7 (by omega) (by omega), hQ b 5 (by omega) (by omega), hQ b 6 (by omega) (by omega)] at i5
  rw [hQ b 4 (by omega) (by omega)] at i2
  have := t_tieHolds (N := N) (M := M) (b := b) (hc_b hb) (fun q => by omega)
  refine this.up ?_
  unfold thd
  by_cases q : 0 < M b 7 ∧ M b 6 + M b 7 ≤ M b 4
  · rw [bi_t q, bi_t (by omega)]
  · rw [bi_f q, bi_f (by omega)]
theorem x_load_loop {x f : Int} (hb : isHC h b k w n) (hQ : ∀ c j, c ≠ 25 → c ≠ 26 → Q c j = M c j) (hH : HnI Q h b k w n) (hK : KyI Q) (hR : RuI M) (hx : R32 x) (hf : x ≠ -9 → isF f) (hfr : R32 f) (hx9 : x = -9 ∨ 0 ≤ x) {A : Mm} (hA : ∀ c j, ¬ (c = 13 ∧ 6 ≤ j ∧ j ≤ 9) → A c j = M c j) (hA6 : A 13 6 = cnt (fK Q h) 30) : ∀ (l i : Nat), (i : Int) + l = cnt (fK Q h) 30 → ∀ M1 : Mm, LdP h x f i Q M1 → (∀ c j, ¬ (c = 14 ∨ c = 15) → M1 c j = A c j) → ∀ Φ : Option Vl → Ly → Mm → Prop, (∀ M', LdP h x f (cnt (fK Q h) 30) Q M' → (∀ c j, ¬ (c = 14 ∨ c = 15) → M' c j = A c j) → Φ none (S0 N) M') → AJ 4 0 0 mR_load Φ 0 0 35 [some (.inr 13), some (.inr b), some (.inl x), some (.inl f), some (.inl i)] [] (S0 N) M1 := by
  have cr := cnt_rng (fK Q h) 30
  intro l
  induction l with
  | zero =>
    intro i hi M1 hL hF Φ kk
    have e6 : M1 13 6 = cnt (fK Q h) 30 := by rw [hF 13 6 (by omega)]; exact hA6
    have hi' : (i : Int) = cnt (fK Q h) 30 := by omega
    rw [hi'] at hL
    rcases hb with ⟨rfl, rfl, rfl, rfl, rfl⟩ | ⟨rfl, rfl, rfl, rfl, rfl⟩
    all_goals
      refine aR_load [] 30 (fun hM => ?_)
      refine ⟨by omega, ite_i (fun q => by omega) (fun q => ?_)⟩
      exact kk M1 hL hF
  | succ l ih =>
    intro i hi M1 hL hF Φ kk
    have e6 : M1 13 6 = cnt (fK Q h) 30 := by rw [hF 13 6 (by omega)]; exact hA6
    have fr1 : ∀ c j, c ≤ 12 ∨ 24 < c → M1 c j = M c j := fun c j hc => by rw [hF c j (by omega)]; exact hA c j (by omega)
    have hR1 : RuI M1 := hR.fr (fun c hc => by funext j; exact fr1 c j (by omega))
    have h1 := hH.fr (A := qv Q M1) hb (qv_fr hQ fr1)
    have kr := kyF_rng (hc_h hb) hK (show 0 ≤ (i : Int) by omega) (show (i : Int) < cnt (fK Q h) 30 by omega)
    have K1 := x_keyOf (N := N) (M := M1) qv_q hb h1.1 (j := i) (by omega) (by rw [h1.2.1]; omega)
    have W1 := x_markOf (N := N) (M := M1) qv_q hb h1.1 (j := i) (by omega) (by rw [h1.2.1]; omega)
    rw [h1.2.2.1] at K1
    rw [h1.2.2.2, qv_26] at W1
    have ho : onlV Q h x f i = -9 ∨ isF (onlV Q h x f i) := by
      unfold onlV
      by_cases q : (i : Int) = x
      · rw [if_pos q]; right; exact hf (by omega)
      · rw [if_neg q]
        have := hK (30 * h + nmo (fK Q h) i 30) (by have := hc_h hb; omega) (by have := hc_h hb; omega)
        omega
    have hne : lnV M1 = lnV Q := by funext a c d; unfold lnV; rw [show M1 30 = Q 30 by funext j; rw [fr1 30 j (by omega), hQ 30 j (by omega) (by omega)]]
    have LN := t_loadNote (N := N) (M := M1) (m := i) (key := kyF Q h i) (only := onlV Q h x f i) hR1 (by omega) (by omega) kr.1 kr.2.1 ho
    rw [hne] at LN
    -- the memory behind the note's costs
    have fr2 : ∀ c j, c ≤ 12 ∨ 24 < c → (wr M1 14 (5 * (i : Int) - 1) (lnV Q (kyF Q h i) (onlV Q h x f i)) 5) c j = M c j := fun c j hc => by rw [wr_ne (by omega)]; exact fr1 c j hc
    have e62 : (wr M1 14 (5 * (i : Int) - 1) (lnV Q (kyF Q h i) (onlV Q h x f i)) 5) 13 6 = cnt (fK Q h) 30 := by rw [wr_ne (by omega)]; exact e6
    have hR2 := hR.fr (A := wr M1 14 (5 * (i : Int) - 1) (lnV Q (kyF Q h i) (onlV Q h x f i)) 5) (fun c hc => by funext j; exact fr2 c j (by omega))
    have h2 := hH.fr (A := qv Q (wr M1 14 (5 * (i : Int) - 1) (lnV Q (kyF Q h i) (onlV Q h x f i)) 5)) hb (qv_fr hQ fr2)
    have hse : ∀ A : Mm, (∀ c j, c ≤ 12 ∨ 24 < c → A c j = M c j) → lsV A = lsV Q := fun A hA => by
      funext a1 a2 a3 a4 a5; unfold lsV
      rw [show A 30 = Q 30 by funext j; rw [hA 30 j (by omega), hQ 30 j (by omega) (by omega)], show A 27 = Q 27 by funext j; rw [hA 27 j (by omega), hQ 27 j (by omega) (by omega)], show A 28 = Q 28 by funext j; rw [hA 28 j (by omega), hQ 28 j (by omega) (by omega)], show A 29 = Q 29 by funext j; rw [hA 29 j (by omega), hQ 29 j (by omega) (by omega)]]
    have n14 : ∀ m e, 0 ≤ m → m < (i : Int) + 1 → 1 ≤ e → e ≤ 5 → (wr M1 14 (5 * (i : Int) - 1) (lnV Q (kyF Q h i) (onlV Q h x f i)) 5) 14 (5 * m + e - 1) = lnV Q (kyF Q h m) (onlV Q h x f m) e := fun m e z1 z2 z3 z4 => by
      by_cases hm : m = i
      · subst hm
        rw [show 5 * (i : Int) + e - 1 = (5 * (i : Int) - 1) + e by omega, wr_eq z3 z4]
      · rw [wr_ne (by omega)]; exact hL.1 m e z1 (by omega) z3 z4
    generalize hw2 : wr M1 14 (5 * (i : Int) - 1) (lnV Q (kyF Q h i) (onlV Q h x f i)) 5 = M2 at *
    have n15 : ∀ j, M2 15 j = M1 15 j := fun j => by rw [← hw2]; exact wr_ne (by omega)
    have fA2 : ∀ c j, ¬ (c = 14 ∨ c = 15) → M2 c j = A c j := fun c j hc => by rw [← hw2, wr_ne (by omega)]; exact hF c j hc
    have K2 := x_keyOf (N := N) (M := M2) qv_q hb h2.1 (j := i) (by omega) (by rw [h2.2.1]; omega)
    rw [h2.2.2.1] at K2
    have Sd := t_side (N := N) (M := M2) (b := b) (hc_b hb)
    have sd0 : M2 b 0 = (if h = 0 then 1 else -1) := by
      have := h2.1.2.2.2.1
      rw [qv_o (by omega)] at this
      exact this
    rw [sd0] at Sd
    have last : ¬ (i : Int) + 1 < cnt (fK Q h) 30 → AJ 4 0 0 mR_load Φ 0 0 35 [some (.inr 13), some (.inr b), some (.inl x), some (.inl f), some (.inl ((i : Int) + 1))] [] (S0 N) M2 := fun q => by
      have := ih (i + 1) (by omega) M2 ⟨fun m e z1 z2 z3 z4 => n14 m e z1 (by omega) z3 z4, fun m e g z1 z2 z3 z4 z5 z6 z7 => by rw [n15]; exact hL.2 m e g z1 (by omega) z3 z4 z5 z6 z7⟩ fA2 Φ kk
      rw [show ((i + 1 : Nat) : Int) = (i : Int) + 1 by omega] at this
      exact this
    have tail : AJ 4 0 0 mR_load Φ 0 0 72 [some (.inr 13), some (.inr b), some (.inl x), some (.inl f), some (.inl i)] [] (S0 N) M2 := by
      by_cases q : (i : Int) + 1 < cnt (fK Q h) 30
      · have kr2 := kyF_rng (hc_h hb) hK (show 0 ≤ (i : Int) + 1 by omega) q
        have K3 := x_keyOf (N := N) (M := M2) qv_q hb h2.1 (j := (i : Int) + 1) (by omega) (by rw [h2.2.1]; omega)
        rw [h2.2.2.1] at K3
        have LS := t_loadSteps (N := N) (M := M2) (m := i) (sd := if h = 0 then 1 else -1) (hand := h) (a := kyF Q h i) (b := kyF Q h ((i : Int) + 1)) hR2 (by rcases hc_h hb with rfl | rfl <;> simp) (by omega) (by omega) kr.1 kr.2.1 kr2.1 kr2.2.1
        have step : ∀ M3, LsP h (kyF Q h i) (kyF Q h ((i : Int) + 1)) i 5 M2 M3 → AJ 4 0 0 mR_load Φ 0 0 35 [some (.inr 13), some (.inr b), some (.inl x), some (.inl f), some (.inl ((i : Int) + 1))] [] (S0 N) M3 := fun M3 hS => by
          have := ih (i + 1) (by omega) M3 ⟨fun m e z1 z2 z3 z4 => by rw [hS.2 14 _ (by omega)]; exact n14 m e z1 (by omega) z3 z4, fun m e g z1 z2 z3 z4 z5 z6 z7 => by
            by_cases hm : m = i
            · subst hm
              rw [hS.1 e g z4 z5 z6 z7, hse M2 fr2]
            · rw [hS.2 15 _ (by omega), n15]; exact hL.2 m e g z1 (by omega) z3 z4 z5 z6 z7⟩ (fun c j hc => by rw [hS.2 c j (by omega)]; exact fA2 c j hc) Φ kk
          rw [show ((i + 1 : Nat) : Int) = (i : Int) + 1 by omega] at this
          exact this
        rcases hb with ⟨rfl, rfl, rfl, rfl, rfl⟩ | ⟨rfl, rfl, rfl, rfl, rfl⟩
        all_goals
          refine aR_load [35] 30 (fun hM => ?_)
          refine ⟨by omega, ite_i (fun _ => ?_) (fun q => by omega)⟩
          refine CL.pu Sd (Nat.le_of_ble_eq_true rfl) (CL.pu K2 (Nat.le_of_ble_eq_true rfl) (CL.pu K3 (Nat.le_of_ble_eq_true rfl) ?_))
          refine ⟨3, _, (Nat.le_of_ble_eq_true rfl), LS, ?_⟩
          rintro r S' M3 ⟨rfl, rfl, hS⟩ hM3
          exact step M3 hS
      · have lt := last q
        rcases hb with ⟨rfl, rfl, rfl, rfl, rfl⟩ | ⟨rfl, rfl, rfl, rfl, rfl⟩
        all_goals
          refine aR_load [35] 30 (fun hM => ?_)
          refine ⟨by omega, ite_i (fun q => by omega) (fun _ => ?_)⟩
          exact lt
    by_cases q : (i : Int) = x
    · have eo : onlV Q h x f i = f := by unfold onlV; rw [if_pos q]
      rw [eo] at LN
      rcases hb with ⟨rfl, rfl, rfl, rfl, rfl⟩ | ⟨rfl, rfl, rfl, rfl, rfl⟩
      all_goals
        refine aR_load [72] 30 (fun hM => ?_)
        refine ⟨by omega, ite_i (fun _ => ?_) (fun q => by omega)⟩
        refine CL.pu K1 (Nat.le_of_ble_eq_true rfl) ?_
        refine ⟨⟨by omega, hx⟩, ite_i (fun _ => ?_) (fun z => absurd q z)⟩
        refine CL.vo LN (Nat.le_of_ble_eq_true rfl) (fun hM2 => ?_)
        exact tail
    · have eo : onlV Q h x f i = Q 26 (30 * h + nmo (fK Q h) i 30) := by unfold onlV; rw [if_neg q]
      rw [eo] at LN
      rcases hb with ⟨rfl, rfl, rfl, rfl, rfl⟩ | ⟨rfl, rfl, rfl, rfl, rfl⟩
      all_goals
        refine aR_load [72] 30 (fun hM => ?_)
        refine ⟨by omega, ite_i (fun _ => ?_) (fun q => by omega)⟩
        refine CL.pu K1 (Nat.le_of_ble_eq_true rfl) ?_
        refine ⟨⟨by omega, hx⟩, ite_i (fun z => absurd z q) (fun _ => ?_)⟩
        refine CL.pu W1 (Nat.le_of_ble_eq_true rfl) (CL.vo LN (Nat.le_of_ble_eq_true rfl) (fun hM2 => ?_))
        exact tail
theorem x_load {x f : Int} (hb : isHC h b k w n) (hQ : ∀ c j, c ≠ 25 → c ≠ 26 → Q c j = M c j) (hH : HnI Q h b k w n) (hK : KyI Q) (hR : RuI M) (hx : R32 x) (hf : x ≠ -9 → isF f) (hfr : R32 f) (hx9 : x = -9 ∨ 0 ≤ x) : Ret 4 0 0 mR_load [.inr 13, .inr b, .inl x, .inl f] (S0 N) M (fun r S' M' => r = none ∧ S' = S0 N ∧ Lx h x f b Q M M') := by
  have cr := cnt_rng (fK Q h) 30
  have C := x_noteCount (N := N) hQ hb hH
  have f7 : ∀ (v : Int) (j : Int), (mset M 13 6 v) b j = M b j := fun v j => mset_ne (by omega)
  have L := x_load_loop (N := N) (x := x) (f := f) hb hQ hH hK hR hx hf hfr hx9 (A := mset (mset (mset (mset M 13 6 (cnt (fK Q h) 30)) 13 7 (M b 5)) 13 8 (M b 6)) 13 9 (M b 7)) (fun c j hc => by rw [mset_ne (by omega), mset_ne (by omega), mset_ne (by omega), mset_ne (by omega)]) (by rw [mset_ne (by omega), mset_ne (by omega), mset_ne (by omega), mset_eq]) (cnt (fK Q h) 30).toNat 0 (by omega) _ ⟨fun m e z1 z2 => by omega, fun m e g z1 z2 => by omega⟩ (fun _ _ _ => rfl) (fun r S' M' => r = none ∧ S' = S0 N ∧ Lx h x f b Q M M') (fun M' hL hF => ⟨rfl, rfl, hL, ⟨by rw [hF 13 6 (by omega), mset_ne (by omega), mset_ne (by omega), mset_ne (by omega), mset_eq], by rw [hF 13 7 (by omega), mset_ne (by omega), mset_ne (by omega), mset_eq], by rw [hF 13 8 (by omega), mset_ne (by omega), mset_eq], by rw [hF 13 9 (by omega), mset_eq]⟩, fun c j h1 h2 => by rw [hF c j h2, mset_ne (by omega), mset_ne (by omega), mset_ne (by omega), mset_ne (by omega)]⟩)
  have F1 := t_firstTied (N := N) (M := mset M 13 6 (cnt (fK Q h) 30)) (hc_b hb)
  rw [mset_ne (by omega)] at F1
  have F2 := t_secondTied (N := N) (M := mset (mset M 13 6 (cnt (fK Q h) 30)) 13 7 (M b 5)) (hc_b hb)
  rw [mset_ne (by omega), mset_ne (by omega)] at F2
  have F3 := t_tiedLength (N := N) (M := mset (mset (mset M 13 6 (cnt (fK Q h) 30)) 13 7 (M b 5)) 13 8 (M b 6)) (hc_b hb)
  rw [mset_ne (by omega), mset_ne (by omega), mset_ne (by omega)] at F3
  rcases hb with ⟨rfl, rfl, rfl, rfl, rfl⟩ | ⟨rfl, rfl, rfl, rfl, rfl⟩
  all_goals
    refine eR_load [35] 40 (Nat.le_of_ble_eq_true rfl) (fun hM => ?_)
    refine CL.pu C (Nat.le_of_ble_eq_true rfl) ⟨⟨by omega, trivial⟩, ?_⟩
    refine CL.pu F1 (Nat.le_of_ble_eq_true rfl) ⟨⟨hM _ _, trivial⟩, ?_⟩
    refine CL.pu F2 (Nat.le_of_ble_eq_true rfl) ⟨⟨hM _ _, trivial⟩, ?_⟩
    refine CL.pu F3 (Nat.le_of_ble_eq_true rfl) ⟨⟨hM _ _, trivial⟩, ?_⟩
    exact L
end Xl
