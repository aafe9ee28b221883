/-! ===== the class: help ===== -/
/-- what help may change -/
def FrH (M M' : Mm) : Prop := ∀ c j, ¬ (5 ≤ c ∧ c ≤ 18) → M' c j = M c j
section Kh
variable {N : Nat} {M : Mm} {m : Int}
theorem FrH.ce {M M' : Mm} (hf : FrH M M') : CE M M' := ⟨by funext j; exact hf _ _ (by omega), by funext j; exact hf _ _ (by omega), by funext j; exact hf _ _ (by omega), by funext j; exact hf _ _ (by omega), by funext j; exact hf _ _ (by omega), by funext j; exact hf _ _ (by omega), by funext j; exact hf _ _ (by omega), by funext j; exact hf _ _ (by omega), by funext j; exact hf _ _ (by omega)⟩
theorem MI.frH {M M' : Mm} (hf : FrH M M') (hI : MI M) : MI M' := hI.ce hf.ce ⟨by funext j; exact hf _ _ (by omega), by funext j; exact hf _ _ (by omega)⟩
theorem sw_same (h0 : 0 ≤ m) (e : M 25 m = M 25 (30 + m)) : CE M (swE M m) := by
  refine ⟨?_, ?_, ?_, ?_, ?_, ?_, ?_, ?_, ?_⟩
  · funext j
    rw [sw_25 h0]
    split
    · rename_i q; subst q; exact e
    · split
      · rename_i q; subst q; exact e.symm
      · rfl
  · funext j
    unfold swE
    rw [lay_26, lay_25, if_neg (by omega), lay_26, if_neg (fun z => z.2 e)]
  all_goals
    funext j
    exact sw_o j (by omega)
/-- the way back, with the marks kept aside -/
theorem back_hi2 {M1 M2 M3 M5 : Mm} {x y : Int} (hH : HI2 M) (hX1 : Xc m M M1) (hF : FrR M1 M2) (hX2 : Xc m M2 M3) (h0 : 0 ≤ m) (h1 : m < 30) (hx : x = M 7 m) (hy : y = M 11 m) (h5 : M5 = mset (mset M3 7 m x) 11 m y) : HI2 M5 ∧ FrH M M5 := by
  obtain ⟨a1, a2⟩ := xc_hi2 (Q := M) (fun _ _ _ _ => rfl) hH hX1 h0 h1
  have hq : FrR (qv (swE M m) M1) (qv (swE M m) M2) := fun c j q => by
    unfold qv
    split
    · rfl
    · exact hF c j q
  obtain ⟨b1, b2⟩ := xc_hi2 (Q := qv (swE M m) M2) (M := M2) qv_q (a1.frR hq) hX2 h0 h1
  have fr : FrH M M5 := fun c j q => by
    rw [h5, mset_ne (by omega), mset_ne (by omega), b2 c j (by omega), hF c j (by omega), a2 c j (by omega)]
  have e25 : ∀ j, 0 ≤ j → j < 60 → swE (qv (swE M m) M2) m 25 j = M 25 j := fun j q1 q2 => by
    rw [sw_25 h0, qv_25, qv_25, qv_25, sw_25 h0, sw_25 h0, sw_25 h0]
    by_cases z1 : j = 30 + m
    · subst z1; rw [if_pos rfl, if_neg (by omega), if_pos rfl]
    · rw [if_neg z1]
      by_cases z2 : j = m
      · subst z2; rw [if_pos rfl, if_pos rfl]
      · rw [if_neg z2, if_neg z1, if_neg z2]
  have e26 : ∀ j, j ≠ m ∧ j ≠ 30 + m → swE (qv (swE M m) M2) m 26 j = M 26 j := fun j q => by
    rw [sw_26 j q, qv_26, sw_26 j q]
  have g : ∀ c j, c ≠ 7 → c ≠ 11 → c ≠ 25 → c ≠ 26 → M5 c j = qv (swE (qv (swE M m) M2) m) M3 c j := fun c j q1 q2 q3 q4 => by
    rw [h5, mset_ne (by omega), mset_ne (by omega), qv_o ⟨q3, q4⟩]
  refine ⟨fun h b k w n hb => ?_, fr⟩
  have I := b1 h b k w n hb
  have J := hH h b k w n hb
  have hh := hc_h hb
  refine hn_keep hb I (fun c j q => g c j (by omega) (by omega) (by omega) (by omega)) (fun i q1 q2 => ?_) (fun i q1 q2 => ?_)
  · rw [fr 25 _ (by omega), qv_25, e25 _ (by omega) (by omega)]
  · rw [fr 26 _ (by omega)]
    have Iw := (I.1 i q1 q2).2
    have Jw := (J.1 i q1 q2).2
    rw [qv_o (by omega), qv_26] at Iw
    by_cases hi : i = m
    · subst hi
      rcases hb with ⟨rfl, rfl, rfl, rfl, rfl⟩ | ⟨rfl, rfl, rfl, rfl, rfl⟩
      · rw [h5, mset_ne (by omega), mset_eq, hx]; exact Jw
      · rw [h5, mset_eq, hy]; exact Jw
    · rw [e26 _ (by omega)] at Iw
      rw [h5, mset_ne (by omega), mset_ne (by omega)]
      exact Iw
theorem k_help {v : Int} (hv : R32 v) (hH : HI2 M) (hI : MI M) : Ret 7 0 0 mK_help [.inr 1, .inl v] (S0 N) M (fun r S' M' => r = some (.inl (helpV M v)) ∧ S' = S0 N ∧ HI2 M' ∧ FrH M M') := by
  have rf : FrH M M := fun _ _ _ => rfl
  have bad : ¬ (0 ≤ v ∧ v ≤ 1) → AJ 7 0 0 mK_help (fun r S' M' => r = some (.inl (helpV M v)) ∧ S' = S0 N ∧ HI2 M' ∧ FrH M M') 0 0 9 [some (.inr 1), some (.inl v)] [] (S0 N) M := fun q => by
    refine aK_help [] 30 (fun hM => ?_)
    exact ⟨by unfold helpV; rw [if_neg q], rfl, hH, rf⟩
  have good : 0 ≤ v ∧ v ≤ 1 → AJ 7 0 0 mK_help (fun r S' M' => r = some (.inl (helpV M v)) ∧ S' = S0 N ∧ HI2 M' ∧ FrH M M') 0 0 12 [some (.inr 1), some (.inl v)] [] (S0 N) M := by
    intro q
    have loop : ∀ (n : Nat) (i f l a now : Int) (L6 L7 L8 : Option Vl) (M4 : Mm), 0 ≤ i → i + n = 30 → HI2 M4 → FrH M M4 → (f = -9 ∨ (0 ≤ f ∧ f < 30)) → ((a = -9 ∧ l = 100000 ∧ f = -9) ∨ (a = l ∧ 0 ≤ a ∧ a ≤ 20000)) → (sumV M ≠ -9 → a ≠ -9 ∧ a ≤ sumV M) → hpL (fun m => sumV (swE M m)) n i f a = hpV M → AJ 7 0 0 mK_help (fun r S' M' => r = some (.inl (helpV M v)) ∧ S' = S0 N ∧ HI2 M' ∧ FrH M M') 0 0 37 [some (.inr 1), some (.inl v), some (.inl now), some (.inl l), some (.inl f), some (.inl i), L6, L7, L8] [] (S0 N) M4 := by
      intro n
      induction n with
      | zero =>
        intro i f l a now L6 L7 L8 M4 i0 hi h4 hF hf hl hs e
        have e' : (f, a) = hpV M := e
        have ef : (hpV M).1 = f := by rw [← e']
        have ea : (hpV M).2 = a := by rw [← e']
        have k167 : (v = 0 ∨ f = -9) → AJ 7 0 0 mK_help (fun r S' M' => r = some (.inl (helpV M v)) ∧ S' = S0 N ∧ HI2 M' ∧ FrH M M') 0 0 167 [some (.inr 1), some (.inl v), some (.inl now), some (.inl l), some (.inl f), some (.inl i), L6, L7, L8] [] (S0 N) M4 := fun z => by
          refine aK_help [] 30 (fun hM => ?_)
          refine ⟨?_, rfl, h4, hF⟩
          unfold helpV
          rw [if_pos q, if_pos (by rw [ef]; exact z), ef]
        refine aK_help [167] 60 (fun hM => ?_)
        refine ⟨by omega, ite_i (fun q2 => by omega) (fun _ => ?_)⟩
        refine ⟨by omega, ite_i (fun q2 => ?_) (fun q2 => ?_)⟩
        · exact k167 (Or.inr q2)
        · refine ⟨hv, ite_i (fun q3 => ?_) (fun q3 => ?_)⟩
          · exact k167 (Or.inl q3)
          · refine ⟨?_, rfl, h4, hF⟩
            unfold helpV
            rw [if_pos q, if_neg (by rw [ef]; omega), ea]
            have : a = l := by omega
            rw [this]
      | succ n ih =>
        intro i f l a now L6 L7 L8 M4 i0 hi h4 hF hf hl hs e
        have e : (if sumV (swE M i) ≠ -9 ∧ (a = -9 ∨ sumV (swE M i) < a) then hpL (fun m => sumV (swE M m)) n (i + 1) i (sumV (swE M i)) else hpL (fun m => sumV (swE M m)) n (i + 1) f a) = hpV M := e
        have hI4 := hI.frH hF
        have J0 := (h4 _ _ _ _ _ hc0).1 i i0 (by omega)
        have J1 := (h4 _ _ _ _ _ hc1).1 i i0 (by omega)
        rw [show (30 : Int) * 0 + i = i by omega] at J0
        rw [show (30 : Int) * 1 + i = 30 + i by omega] at J1
        have k150 : ∀ (f l a : Int) (L6 L7 L8 : Option Vl) (M4 : Mm), HI2 M4 → FrH M M4 → (f = -9 ∨ (0 ≤ f ∧ f < 30)) → ((a = -9 ∧ l = 100000 ∧ f = -9) ∨ (a = l ∧ 0 ≤ a ∧ a ≤ 20000)) → (sumV M ≠ -9 → a ≠ -9 ∧ a ≤ sumV M) → hpL (fun m => sumV (swE M m)) n (i + 1) f a = hpV M → AJ 7 0 0 mK_help (fun r S' M' => r = some (.inl (helpV M v)) ∧ S' = S0 N ∧ HI2 M' ∧ FrH M M') 0 0 150 [some (.inr 1), some (.inl v), some (.inl now), some (.inl l), some (.inl f), some (.inl i), L6, L7, L8] [] (S0 N) M4 := by
          intro f l a L6 L7 L8 M4 h4 hF hf hl hs e
          have h3 := ih (i + 1) f l a now L6 L7 L8 M4 (by omega) (by omega) h4 hF hf hl hs e
          refine aK_help [37] 30 (fun hM => ?_)
          exact h3
        have skip : M4 6 i = M4 10 i → AJ 7 0 0 mK_help (fun r S' M' => r = some (.inl (helpV M v)) ∧ S' = S0 N ∧ HI2 M' ∧ FrH M M') 0 0 150 [some (.inr 1), some (.inl v), some (.inl now), some (.inl l), some (.inl f), some (.inl i), L6, L7, L8] [] (S0 N) M4 := fun z => by
          refine k150 f l a L6 L7 L8 M4 h4 hF hf hl hs ?_
          have ek : M 25 i = M 25 (30 + i) := by rw [← hF 25 i (by omega), ← hF 25 (30 + i) (by omega), ← J0.1, ← J1.1]; exact z
          have es : sumV (swE M i) = sumV M := ce_sum (sw_same i0 ek) hI
          rw [es, if_neg (by omega)] at e
          exact e
        have X1 := t_exchange (N := N) (M := M4) (m := i) i0 (by omega)
        have sr := sumV_rng (hI.sw i0 (show i < 30 by omega))
        have nxt : ∀ M1, Xc i M4 M1 → Ret 6 0 0 mK_sum [.inr 1] (S0 N) M1 (fun r S' M' => r = some (.inl (sumV (swE M i))) ∧ S' = S0 N ∧ FrR M1 M' ∧ (sumV (swE M i) = -9 ∨ (0 ≤ sumV (swE M i) ∧ sumV (swE M i) ≤ 20000))) := fun M1 hX => by
          obtain ⟨x1, x2⟩ := xc_hi2 (Q := M4) (fun _ _ _ _ => rfl) h4 hX i0 (by omega)
          obtain ⟨x3, x4⟩ := xc_mi (Q := M4) (fun _ _ _ _ => rfl) hI4 x2 i0 (by omega)
          have S := x_sum (N := N) (M := M1) (Q := qv (swE M4 i) M1) qv_q x1 x3
          rw [ce_sum x4 (hI4.sw i0 (by omega)), ce_sum (ce_sw hF.ce i) (hI.sw i0 (by omega))] at S
          exact S
        have r7 : R32 (M4 7 i) := by
          have := hI4.2.1 i i0 (by omega)
          omega
        have r11 : R32 (M4 11 i) := by
          have := hI4.2.1 (30 + i) (by omega) (by omega)
          omega
        have kb : ∀ M1 M2 M3, Xc i M4 M1 → FrR M1 M2 → Xc i M2 M3 → HI2 (mset (mset M3 7 i (M4 7 i)) 11 i (M4 11 i)) ∧ FrH M (mset (mset M3 7 i (M4 7 i)) 11 i (M4 11 i)) := fun M1 M2 M3 g1 g2 g3 => by
          obtain ⟨y1, y2⟩ := back_hi2 h4 g1 g2 g3 i0 (by omega) rfl rfl rfl
          exact ⟨y1, fun c j z => by rw [y2 c j z, hF c j z]⟩
        have X3 := fun M2 => t_exchange (N := N) (M := M2) (m := i) i0 (by omega)
        have W1 := fun M3 => t_setMark (N := N) (M := M3) (b := 5) (m := i) (f := M4 7 i) (Or.inl rfl) i0 (by omega) r7
        have W2 := fun M3 => t_setMark (N := N) (M := M3) (b := 9) (m := i) (f := M4 11 i) (Or.inr rfl) i0 (by omega) r11
        refine aK_help [37, 150] 80 (fun hM => ?_)
        refine ⟨by omega, ite_i (fun _ => ?_) (fun q2 => by omega)⟩
        refine CL.pu (t_keyAt (b := 5) (Or.inl rfl) i0 (by omega)) (Nat.le_of_ble_eq_true rfl) (CL.pu (t_keyAt (b := 9) (Or.inr rfl) i0 (by omega)) (Nat.le_of_ble_eq_true rfl) ?_)
        refine ⟨⟨hM _ _, hM _ _⟩, ite_i (fun q2 => ?_) (fun q2 => ?_)⟩
        · exact skip q2
        · refine CL.pu (t_markAt (b := 5) (Or.inl rfl) i0 (by omega)) (Nat.le_of_ble_eq_true rfl) (CL.pu (t_markAt (b := 9) (Or.inr rfl) i0 (by omega)) (Nat.le_of_ble_eq_true rfl) ?_)
          refine ⟨3, _, (Nat.le_of_ble_eq_true rfl), X1, ?_⟩
          rintro r S' M1 ⟨rfl, rfl, g1⟩ hM1
          refine ⟨6, _, (Nat.le_of_ble_eq_true rfl), nxt M1 g1, ?_⟩
          rintro r S' M2 ⟨rfl, rfl, g2, g3⟩ hM2
          refine ⟨3, _, (Nat.le_of_ble_eq_true rfl), X3 M2, ?_⟩
          rintro r S' M3 ⟨rfl, rfl, g4⟩ hM3
          refine CL.vo (W1 M3) (Nat.le_of_ble_eq_true rfl) (fun hM5 => CL.vo (W2 _) (Nat.le_of_ble_eq_true rfl) (fun hM6 => ?_))
          obtain ⟨y1, y2⟩ := kb M1 M2 M3 g1 g2 g4
          refine ⟨by omega, ite_i (fun q3 => ?_) (fun q3 => ?_)⟩
          · rw [if_neg (fun z => z.1 q3)] at e
            exact k150 f l a _ _ _ _ y1 y2 hf hl hs e
          · refine ⟨by omega, ite_i (fun q4 => ?_) (fun q4 => ?_)⟩
            · rw [if_pos ⟨q3, by omega⟩] at e
              exact k150 i _ (sumV (swE M i)) _ _ _ _ y1 y2 (by omega) (by omega) (by omega) e
            · rw [if_neg (by omega)] at e
              exact k150 f l a _ _ _ _ y1 y2 hf hl hs e
    have S := k_sum (N := N) hH hI
    have k29 : ∀ (M' : Mm) (s : Int), FrR M M' → (sumV M = -9 ∨ (0 ≤ sumV M ∧ sumV M ≤ 20000)) → ((sumV M = -9 ∧ s = 100000) ∨ (sumV M ≠ -9 ∧ s = sumV M)) → AJ 7 0 0 mK_help (fun r S' M' => r = some (.inl (helpV M v)) ∧ S' = S0 N ∧ HI2 M' ∧ FrH M M') 0 0 29 [some (.inr 1), some (.inl v), some (.inl (sumV M))] [.inl s] (S0 N) M' := fun M' s hf hb hs => by
      have L := loop 30 0 (-9) s (sumV M) (sumV M) none none none M' (by omega) (by omega) (hH.frR hf) (fun c j q => hf c j (by omega)) (Or.inl rfl) (by omega) (by omega) rfl
      refine aK_help [37] 30 (fun hM => ?_)
      exact AJ.wk L ⟨rfl, rfl, rfl, rfl, rfl, rfl, trivial⟩
    refine aK_help [29] 40 (fun hM => ?_)
    refine ⟨6, _, (Nat.le_of_ble_eq_true rfl), S, ?_⟩
    rintro r S' M' ⟨rfl, rfl, p3, p4⟩ hM'
    refine ⟨by omega, ite_i (fun q2 => ?_) (fun q2 => ?_)⟩
    · exact k29 M' _ p3 p4 (Or.inl ⟨q2, rfl⟩)
    · exact k29 M' _ p3 p4 (Or.inr ⟨q2, rfl⟩)
  refine eK_help [9, 12] 30 (Nat.le_of_ble_eq_true rfl) (fun hM => ?_)
  refine ⟨hv, ite_i (fun q => ?_) (fun q => ?_)⟩
  · exact bad (by omega)
  · refine ⟨⟨hv, by decide⟩, ite_i (fun q2 => ?_) (fun q2 => ?_)⟩
    · exact bad (by omega)
    · exact good (by omega)
end Kh
