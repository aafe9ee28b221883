/-! ===== the class: bestFinger ===== -/
section Bf
variable {N : Nat} {M : Mm} {h : Int} {b k w n : Nat} {L : Mm} {z : Int}
def bfV (M : Mm) (h z v : Int) : Prop := if bst M h = -9 then v = -9 else ∃ p : Int → Int, (∀ i, 0 ≤ i → i ≤ cnt (fK M h) 30 - 1 → 1 ≤ p i ∧ p i ≤ 5) ∧ BR (LM M h) p ∧ v = p z
theorem FrR.trans {A B C : Mm} (h1 : FrR A B) (h2 : FrR B C) : FrR A C := fun c j q => by rw [h2 c j q, h1 c j q]
/-- pc 88: the fingers of the first part are copied -/
theorem t_bf_88 {Φ : Option Vl → Ly → Mm → Prop} {B : Mm} (h7 : B 13 7 = L 24 10) (h8 : B 13 8 = L 24 11) (h9 : B 13 9 = L 24 12) (hT : TOk L) (h30 : L 24 7 ≤ 30) (hr : ∀ t, 0 ≤ t → t < L 24 12 → R32 (B 18 (L 24 10 + t))) (kk : AJ 6 0 0 mR_bestFinger Φ 0 0 128 [some (.inr 13), some (.inr b), some (.inl z)] [] (S0 N) (wr B 18 (L 24 11 - 1) (fun e => B 18 (L 24 10 + e - 1)) (L 24 12))) : ∀ (n s : Nat), (s : Int) + n = L 24 12 → AJ 6 0 0 mR_bestFinger Φ 0 0 88 [some (.inr 13), some (.inr b), some (.inl z), some (.inl s)] [] (S0 N) (wr B 18 (L 24 11 - 1) (fun e => B 18 (L 24 10 + e - 1)) s) := by
  intro n
  obtain ⟨t1, t2, t3, t4⟩ := id hT
  induction n with
  | zero =>
    intro s sn
    have es : (s : Int) = L 24 12 := by omega
    have e9 : (wr B 18 (L 24 11 - 1) (fun e => B 18 (L 24 10 + e - 1)) s) 13 9 = L 24 12 := by rw [wr_ne (by omega)]; exact h9
    rw [es] at e9 ⊢
    refine aR_bestFinger [128] 30 (fun hM => ?_)
    refine ⟨by omega, ite_i (fun q => ?_) (fun q => ?_)⟩
    · omega
    · exact AJ.wk kk ⟨rfl, rfl, rfl, trivial⟩
  | succ n ih =>
    intro s sn
    have h3 := ih (s + 1) (by omega)
    rw [show ((s + 1 : Nat) : Int) = (s : Int) + 1 by omega] at h3
    have hrs := hr s (by omega) (by omega)
    have st := wr_step (M := B) (c := 18) (b := L 24 11 - 1) (i := s) (V := fun e => B 18 (L 24 10 + e - 1)) (v := B 18 (L 24 10 + s)) (by omega) (by show _ = B 18 (L 24 10 + ((s : Int) + 1) - 1); rw [show L 24 10 + ((s : Int) + 1) - 1 = L 24 10 + s by omega])
    have e9 : (wr B 18 (L 24 11 - 1) (fun e => B 18 (L 24 10 + e - 1)) s) 13 9 = L 24 12 := by rw [wr_ne (by omega)]; exact h9
    have e8 : (wr B 18 (L 24 11 - 1) (fun e => B 18 (L 24 10 + e - 1)) s) 13 8 = L 24 11 := by rw [wr_ne (by omega)]; exact h8
    have e7 : (wr B 18 (L 24 11 - 1) (fun e => B 18 (L 24 10 + e - 1)) s) 13 7 = L 24 10 := by rw [wr_ne (by omega)]; exact h7
    have e18 : (wr B 18 (L 24 11 - 1) (fun e => B 18 (L 24 10 + e - 1)) s) 18 (L 24 10 + s) = B 18 (L 24 10 + s) := wr_ne (by omega)
    generalize wr B 18 (L 24 11 - 1) (fun e => B 18 (L 24 10 + e - 1)) (s : Int) = W at *
    have T := t_at (N := N) (c := 18) (n := 30) (p := W 13 7 + s) (M := W) rfl (by omega) (by omega) (Nat.le_of_ble_eq_true rfl)
    rw [show W 18 (W 13 7 + s) = B 18 (L 24 10 + s) by rw [e7]; exact e18] at T
    have St := t_store (N := N) (c := 18) (n := 30) (p := W 13 8 + s) (v := B 18 (L 24 10 + s)) (M := W) rfl (by decide) (by omega) (by omega) (Nat.le_of_ble_eq_true rfl) hrs
    rw [show mset W 18 (W 13 8 + s) (B 18 (L 24 10 + s)) = wr B 18 (L 24 11 - 1) (fun e => B 18 (L 24 10 + e - 1)) ((s : Int) + 1) by rw [← st, show W 13 8 + (s : Int) = L 24 11 - 1 + ((s : Int) + 1) by omega]] at St
    refine aR_bestFinger [88] 40 (fun hM => ?_)
    refine ⟨by omega, ite_i (fun q => ?_) (fun q => by omega)⟩
    exact CL.pu T (Nat.le_of_ble_eq_true rfl) (CL.vo St (Nat.le_of_ble_eq_true rfl) (fun hM3 => h3))
theorem t_bf_46 {Φ : Option Vl → Ly → Mm → Prop} {B : Mm} (hLc : LcP L B) (hI : RuI L) (hT : TOk L) (h30 : L 24 7 ≤ 30) (hm : tot L < 1000000) (z0 : 0 ≤ z) (z1 : z < L 24 7) (kk : ∀ F, FrR B F → (∀ i, 0 ≤ i → i < L 24 7 → 1 ≤ F 18 i + 1 ∧ F 18 i + 1 ≤ 5) → BR L (fun i => F 18 i + 1) → Φ (some (.inl (F 18 z + 1))) (S0 N) F) : AJ 6 0 0 mR_bestFinger Φ 0 0 46 [some (.inr 13), some (.inr b), some (.inl z)] [] (S0 N) B := by
  obtain ⟨t1, t2, t3, t4⟩ := id hT
  obtain ⟨⟨⟨e6, e789⟩, n1, n2, s1, s2, b1, b2⟩, tb⟩ := id hLc
  obtain ⟨e7, e8, e9⟩ := e789 t1
  obtain ⟨r1, o1⟩ := flw_spec (L 24 10 + 1).toNat 0 B
  have W1 := t_follow (N := N) (M := B) (fr := 0) (to := B 13 7) (by omega) (by omega) (by omega) ⟨fun m g q1 q2 g1 g2 => by
      have := (tb m g q1 (by omega) (fun _ => Or.inl (by omega)) g1 g2).2
      omega, fun m f g q1 q2 q3 f1 f2 g1 g2 => by
      have := b2 (m - 1) f g (by omega) (by omega) f1 f2 g1 g2
      omega, fun q => by omega⟩
  rw [show (B 13 7 + 1 - 0).toNat = (L 24 10 + 1).toNat by omega] at W1
  have br := fun B2 B3 B4 F => br_tied (B2 := B2) (B3 := B3) (B4 := B4) (F := F) hLc hI hT h30 hm rfl
  generalize flw (L 24 10 + 1).toNat 0 B = B1 at *
  have fn1 : FN L B1 := hLc.1.fr (fun c j q => o1 c j (by omega))
  obtain ⟨u6, u789⟩ := fn1.1
  obtain ⟨u7, u8, u9⟩ := u789 t1
  have x01 : 0 ≤ B1 18 (L 24 10) ∧ B1 18 (L 24 10) ≤ 4 := by
    have := chz_rng (φ := flV B1 (L 24 10)) 5 1 100000 1 (by omega) (by omega) (by omega) (by omega)
    rw [r1 (L 24 10) t2 (by omega)]
    unfold cho
    omega
  have T1 := t_at (N := N) (c := 18) (n := 30) (p := B1 13 7) (M := B1) rfl (by omega) (by omega) (Nat.le_of_ble_eq_true rfl)
  rw [show B1 18 (B1 13 7) = B1 18 (L 24 10) by rw [u7]] at T1
  have Le := t_leadTo' (N := N) hT h30 fn1 x01.1 x01.2
  have lbd := lead_bd (s := B1 18 (L 24 10) + 1) hT h30 fn1
  have o2 : ∀ c j, ¬ (c = 16 ∧ 5 * L 24 10 ≤ j ∧ j < 5 * (L 24 11 + 1)) → lT B1 (B1 18 (L 24 10) + 1) c j = B1 c j := fun c j q => lT_o (by omega) (by omega)
  have br := fun B3 B4 F => br _ B3 B4 F rfl
  generalize lT B1 (B1 18 (L 24 10) + 1) = B2 at *
  have v7 : B2 13 7 = L 24 10 := by rw [o2 13 7 (by omega)]; exact u7
  have v8 : B2 13 8 = L 24 11 := by rw [o2 13 8 (by omega)]; exact u8
  have W2 := t_follow (N := N) (M := B2) (fr := B2 13 7 + 1) (to := B2 13 8 - 1) (by omega) (by omega) (by omega) ⟨fun m g q1 q2 g1 g2 => by
      have := lbd m g (by omega) (by omega) g1 g2
      omega, fun m f g q1 q2 q3 f1 f2 g1 g2 => by
      have := b2 (m - 1) f g (by omega) (by omega) f1 f2 g1 g2
      rw [o2 15 _ (by omega), o1 15 _ (by omega)]
      omega, fun q => by rw [show B2 13 7 + 1 - 1 = L 24 10 by omega, o2 18 _ (by omega)]; exact x01⟩
  rw [show (B2 13 8 - 1 + 1 - (B2 13 7 + 1)).toNat = (L 24 11 - 1 - L 24 10).toNat by omega, show flw (L 24 11 - 1 - L 24 10).toNat (B2 13 7 + 1) B2 = flw (L 24 11 - 1 - L 24 10).toNat (L 24 10 + 1) B2 by rw [v7]] at W2
  obtain ⟨r3, o3⟩ := flw_spec (L 24 11 - 1 - L 24 10).toNat (L 24 10 + 1) B2
  have br := fun B4 F => br _ B4 F rfl
  generalize flw (L 24 11 - 1 - L 24 10).toNat (L 24 10 + 1) B2 = B3 at *
  have w6 : B3 13 6 = L 24 7 := by rw [o3 13 6 (by omega), o2 13 6 (by omega)]; exact u6
  have w7 : B3 13 7 = L 24 10 := by rw [o3 13 7 (by omega)]; exact v7
  have w8 : B3 13 8 = L 24 11 := by rw [o3 13 8 (by omega)]; exact v8
  have w9 : B3 13 9 = L 24 12 := by rw [o3 13 9 (by omega), o2 13 9 (by omega)]; exact u9
  have rw3 : ∀ m, L 24 10 ≤ m → m < L 24 11 → 0 ≤ B3 18 m ∧ B3 18 m ≤ 4 := fun m q1 q2 => by
    by_cases hm : m = L 24 10
    · subst hm
      rw [o3 18 _ (by omega), o2 18 _ (by omega)]; exact x01
    · have := chz_rng (φ := flV B3 m) 5 1 100000 1 (by omega) (by omega) (by omega) (by omega)
      rw [r3 m (by omega) (by omega)]
      unfold cho
      omega
  have o4 : ∀ c j, ¬ (c = 18 ∧ L 24 11 ≤ j ∧ j < L 24 11 + L 24 12) → (wr B3 18 (L 24 11 - 1) (fun e => B3 18 (L 24 10 + e - 1)) (L 24 12)) c j = B3 c j := fun c j q => wr_ne (by omega)
  have r4 : ∀ t, 0 ≤ t → t < L 24 12 → (wr B3 18 (L 24 11 - 1) (fun e => B3 18 (L 24 10 + e - 1)) (L 24 12)) 18 (L 24 11 + t) = B3 18 (L 24 10 + t) := fun t q1 q2 => by
    rw [show L 24 11 + t = L 24 11 - 1 + (t + 1) by omega, wr_eq (by omega) (by omega), show L 24 10 + (t + 1) - 1 = L 24 10 + t by omega]
  have br := fun F => br _ F ⟨r4, o4⟩
  have k128 : AJ 6 0 0 mR_bestFinger Φ 0 0 128 [some (.inr 13), some (.inr b), some (.inl z)] [] (S0 N) (wr B3 18 (L 24 11 - 1) (fun e => B3 18 (L 24 10 + e - 1)) (L 24 12)) := by
    generalize wr B3 18 (L 24 11 - 1) (fun e => B3 18 (L 24 10 + e - 1)) (L 24 12) = B4 at *
    have y6 : B4 13 6 = L 24 7 := by rw [o4 13 6 (by omega)]; exact w6
    have y8 : B4 13 8 = L 24 11 := by rw [o4 13 8 (by omega)]; exact w8
    have y9 : B4 13 9 = L 24 12 := by rw [o4 13 9 (by omega)]; exact w9
    have W3 := t_follow (N := N) (M := B4) (fr := B4 13 8 + B4 13 9) (to := B4 13 6 - 1) (by omega) (by omega) (by omega) ⟨fun m g q1 q2 g1 g2 => by
        have := (tb m g (by omega) (by omega) (fun _ => Or.inr (by omega)) g1 g2).2
        rw [o4 16 _ (by omega), o3 16 _ (by omega), o2 16 _ (by omega), o1 16 _ (by omega)]
        omega, fun m f g q1 q2 q3 f1 f2 g1 g2 => by
        have := b2 (m - 1) f g (by omega) (by omega) f1 f2 g1 g2
        rw [o4 15 _ (by omega), o3 15 _ (by omega), o2 15 _ (by omega), o1 15 _ (by omega)]
        omega, fun q => by
        have e := r4 (L 24 12 - 1) (by omega) (by omega)
        rw [show B4 13 8 + B4 13 9 - 1 = L 24 11 + (L 24 12 - 1) by omega, e]
        exact rw3 _ (by omega) (by omega)⟩
    rw [show (B4 13 6 - 1 + 1 - (B4 13 8 + B4 13 9)).toNat = (L 24 7 - (L 24 11 + L 24 12)).toNat by omega, show flw (L 24 7 - (L 24 11 + L 24 12)).toNat (B4 13 8 + B4 13 9) B4 = flw (L 24 7 - (L 24 11 + L 24 12)).toNat (L 24 11 + L 24 12) B4 by rw [y8, y9]] at W3
    obtain ⟨r5, o5⟩ := flw_spec (L 24 7 - (L 24 11 + L 24 12)).toNat (L 24 11 + L 24 12) B4
    have br := br _ rfl
    generalize flw (L 24 7 - (L 24 11 + L 24 12)).toNat (L 24 11 + L 24 12) B4 = F at *
    have T := t_at (N := N) (c := 18) (n := 30) (p := z) (M := F) rfl (by omega) (by omega) (Nat.le_of_ble_eq_true rfl)
    refine aR_bestFinger [] 30 (fun hM => ?_)
    refine CL.vo W3 (Nat.le_of_ble_eq_true rfl) (fun hM2 => CL.pu T (Nat.le_of_ble_eq_true rfl) ?_)
    refine kk F (fun c j q => ?_) br.1 br.2
    rw [o5 c j (by omega), o4 c j (by omega), o3 c j (by omega), o2 c j (by omega), o1 c j (by omega)]
  have k88 := t_bf_88 (N := N) (b := b) (z := z) (Φ := Φ) w7 w8 w9 hT h30 (fun t q1 q2 => by have := rw3 (L 24 10 + t) (by omega) (by omega); omega) k128 (L 24 12).toNat 0 (by omega)
  rw [show ((0 : Nat) : Int) = 0 from rfl, wr_0] at k88
  refine aR_bestFinger [88] 40 (fun hM => ?_)
  exact CL.vo W1 (Nat.le_of_ble_eq_true rfl) (fun hM2 => CL.pu T1 (Nat.le_of_ble_eq_true rfl) (CL.vo Le (Nat.le_of_ble_eq_true rfl) (fun hM3 => CL.vo W2 (Nat.le_of_ble_eq_true rfl) (fun hM4 => k88))))
theorem t_bestFinger (hb : isHC h b k w n) (hH : HnI M h b k w n) (hK : KyI M) (hR : RuI M) (hT : TieI M) (z0 : 0 ≤ z) (z1 : z < cnt (fK M h) 30) : Ret 6 0 0 mR_bestFinger [.inr 13, .inr b, .inl z] (S0 N) M (fun r S' M' => (∃ v, r = some (.inl v) ∧ bfV M h z v) ∧ S' = S0 N ∧ FrR M M') := by
  have cr := cnt_rng (fK M h) 30
  have hh := hc_h hb
  have eL : LX M h (-9) (-9) = LM M h := by unfold LX; rw [if_pos rfl]
  have Lc := t_leastCost (N := N) (x := -9) (f := -9) hb hH hK hR hT (by decide) (fun z => absurd rfl z) (by decide) (Or.inl rfl)
  rw [eL] at Lc
  have e7 : LM M h 24 7 = cnt (fK M h) 30 := LM_7
  have ht := LM_tie (M := M) hh hT
  have hI : RuI (LM M h) := (LM_ok hh hR hK).1
  have hO := LM_ok hh hR hK
  have lr := lrV_rng ht hO
  have thl : 0 < LM M h 24 12 ↔ thd M h := by have := LX_thd (x := -9) (f := -9) hh hT; rw [eL] at this; exact this
  have Ti : ∀ A, FrR M A → Ret 0 0 0 mH_tieHolds [.inr b] (S0 N) A (Pu (S0 N) A (bi (thd M h))) := fun A hL => by
    have fr := fun c j (q : c ≤ 12 ∨ 24 < c) => hL c j (by omega)
    obtain ⟨hA, hc, _, _⟩ := hH.fr (A := A) hb fr
    have e : thd A h ↔ thd M h := by
      unfold thd
      rw [hc, fr 40 _ (by omega), fr 41 _ (by omega), fr 42 _ (by omega)]
    have := t_tieHolds' (N := N) hb hA (hT.fr (fun c j q => fr c j (by omega)))
    have eb : bi (thd A h) = bi (thd M h) := by
      by_cases q : thd M h
      · rw [bi_t q, bi_t (e.mpr q)]
      · rw [bi_f q, bi_f (fun z => q (e.mp z))]
    rw [eb] at this
    exact this
  have low : bst M h ≠ -9 → tot (LM M h) < 1000000 := fun q => by
    have q' : lrV (LM M h) ≠ -9 := q
    unfold lrV at q'
    rw [if_neg (by omega)] at q'
    split at q'
    · assumption
    · exact absurd rfl q'
  have fin : bst M h ≠ -9 → ∀ F : Mm, (∀ i, 0 ≤ i → i < LM M h 24 7 → 1 ≤ F 18 i + 1 ∧ F 18 i + 1 ≤ 5) → BR (LM M h) (fun i => F 18 i + 1) → bfV M h z (F 18 z + 1) := fun q F f1 f2 => by
    unfold bfV
    rw [if_neg q]
    exact ⟨fun i => F 18 i + 1, fun i q1 q2 => f1 i q1 (by omega), f2, rfl⟩
  have tied : bst M h ≠ -9 → thd M h → ∀ B, FrR M B → LcP (LM M h) B → AJ 6 0 0 mR_bestFinger (fun r S' M' => (∃ v, r = some (.inl v) ∧ bfV M h z v) ∧ S' = S0 N ∧ FrR M M') 0 0 46 [some (.inr 13), some (.inr b), some (.inl z)] [] (S0 N) B := by
    intro q q2 B fr lc
    have TO : TOk (LM M h) := by
      rcases ht with ht | ht
      · have := thl.mpr q2; omega
      · exact ht
    exact t_bf_46 lc hI TO (by omega) (low q) z0 (by omega) (fun F f0 f1 f2 => ⟨⟨_, rfl, fin q F f1 f2⟩, rfl, fr.trans f0⟩)
  have plainly : bst M h ≠ -9 → ¬ thd M h → ∀ B, FrR M B → LcP (LM M h) B → Ret 3 0 0 mR_follow [.inr 13, .inl 0, .inl (B 13 6 - 1)] (S0 N) B (Vo (S0 N) (flw (LM M h 24 7).toNat 0 B)) ∧ FrR M (flw (LM M h 24 7).toNat 0 B) ∧ bfV M h z ((flw (LM M h 24 7).toNat 0 B) 18 z + 1) ∧ R32 ((flw (LM M h 24 7).toNat 0 B) 18 z + 1) := by
    intro q q2 B fr lc
    have t0 : LM M h 24 12 = 0 := by
      rcases ht with ht | ht
      · exact ht
      · exact absurd (thl.mp ht.1) q2
    obtain ⟨⟨⟨e6, e789⟩, n1, n2, s1, s2, b1, b2⟩, tb⟩ := id lc
    have W1 := t_follow (N := N) (M := B) (fr := 0) (to := B 13 6 - 1) (by omega) (by omega) (by omega) ⟨fun m g q1 q2 g1 g2 => by
        have := (tb m g q1 (by omega) (fun q => by omega) g1 g2).2
        omega, fun m f g q1 q2 q3 f1 f2 g1 g2 => by
        have := b2 (m - 1) f g (by omega) (by omega) f1 f2 g1 g2
        omega, fun q => by omega⟩
    rw [show (B 13 6 - 1 + 1 - 0).toNat = (LM M h 24 7).toNat by omega] at W1
    have br := br_plain lc hI t0 (by omega) (low q) rfl
    refine ⟨W1, fr.trans (fun c j q => (flw_spec _ 0 B).2 c j (by omega)), fin q _ br.1 br.2, ?_⟩
    have := br.1 z z0 (by omega)
    omega
  rcases hb with ⟨rfl, rfl, rfl, rfl, rfl⟩ | ⟨rfl, rfl, rfl, rfl, rfl⟩
  all_goals
    refine eR_bestFinger [46] 40 (Nat.le_of_ble_eq_true rfl) (fun hM => ?_)
    refine ⟨5, _, (Nat.le_of_ble_eq_true rfl), Lc, ?_⟩
    rintro r S' B ⟨rfl, rfl, fr, lc⟩ hB
    refine ⟨by omega, ite_i (fun q => ?_) (fun q => ?_)⟩
    · refine ⟨⟨_, rfl, ?_⟩, rfl, fr⟩
      unfold bfV
      exact (if_pos (show bst M _ = -9 from q)).mpr rfl
    · refine CL.bl (Ti B fr) (Nat.le_of_ble_eq_true rfl) (fun q2 => ?_) (fun q2 => ?_)
      · exact ⟨R32_1, tied q q2 B fr lc⟩
      · obtain ⟨p1, p2, p3, p4⟩ := plainly q q2 B fr lc
        exact ⟨R32_0, CL.vo p1 (Nat.le_of_ble_eq_true rfl) (fun hM2 => CL.pu (t_at (n := 30) rfl (by omega) (by omega) (Nat.le_of_ble_eq_true rfl)) (Nat.le_of_ble_eq_true rfl) ⟨⟨_, rfl, p3⟩, rfl, p2⟩)⟩
end Bf
