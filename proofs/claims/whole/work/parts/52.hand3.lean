/-! ===== the class: a hand is the reference's hand ===== -/
abbrev isHC (h : Int) (b k w n : Nat) : Prop := (h = 0 ∧ b = 5 ∧ k = 6 ∧ w = 7 ∧ n = 8) ∨ (h = 1 ∧ b = 9 ∧ k = 10 ∧ w = 11 ∧ n = 12)
/-- the hand's rows are the reference's -/
def HnI (M : Mm) (h : Int) (b k w n : Nat) : Prop := (∀ m, 0 ≤ m → m < 30 → M k m = M 25 (30 * h + m) ∧ M w m = M 26 (30 * h + m)) ∧ M b 4 = cnt (fK M h) 30 ∧ (∀ j, 0 ≤ j → j < cnt (fK M h) 30 → M n j = nmo (fK M h) j 30) ∧ M b 0 = (if h = 0 then 1 else -1) ∧ ((M 40 h = -9 ∧ M b 7 = 0) ∨ (M 40 h ≠ -9 ∧ M b 5 = M 40 h ∧ M b 6 = M 41 h ∧ M b 7 = M 42 h))
section Hd3
variable {N : Nat} {M : Mm} {h : Int} {b k w n : Nat}
theorem hc_c (hb : isHC h b k w n) : isC b k w n := by
  rcases hb with ⟨_, rfl, rfl, rfl, rfl⟩ | ⟨_, rfl, rfl, rfl, rfl⟩
  · exact Or.inl ⟨rfl, rfl, rfl, rfl⟩
  · exact Or.inr ⟨rfl, rfl, rfl, rfl⟩
theorem hc_h (hb : isHC h b k w n) : isH h := by omega
theorem hc_b (hb : isHC h b k w n) : isB b := by omega
theorem kyF_rng (hh : isH h) (hK : KyI M) {j : Int} (h0 : 0 ≤ j) (h1 : j < cnt (fK M h) 30) : 0 ≤ kyF M h j ∧ kyF M h j < 60 ∧ 0 ≤ nmo (fK M h) j 30 ∧ nmo (fK M h) j 30 < 30 := by
  have no := nmo_ok h0 h1
  have ky := hK (30 * h + nmo (fK M h) j 30) (by omega) (by omega)
  have kne : M 25 (30 * h + nmo (fK M h) j 30) ≠ -9 := no.2.2.1
  show 0 ≤ M 25 (30 * h + nmo (fK M h) j 30) ∧ M 25 (30 * h + nmo (fK M h) j 30) < 60 ∧ _
  omega
theorem t_keyOf' (hb : isHC h b k w n) (hI : HnI M h b k w n) {j : Int} (h0 : 0 ≤ j) (h1 : j < cnt (fK M h) 30) : Ret 1 0 0 mH_keyOf [.inr b, .inl j] (S0 N) M (Pu (S0 N) M (kyF M h j)) := by
  obtain ⟨i1, i2, i3, i4, i5⟩ := hI
  have cr := cnt_rng (fK M h) 30
  have no := nmo_ok h0 h1
  have e := i3 j h0 h1
  have e2 := (i1 (nmo (fK M h) j 30) no.1 no.2.1).1
  have := t_keyOf (N := N) (M := M) (k := j) (b := b) (hc_b hb) h0 (by omega) (by rw [show b + 3 = n by omega, e]; exact no.1) (by rw [show b + 3 = n by omega, e]; exact no.2.1)
  rw [show b + 3 = n by omega, show b + 1 = k by omega, e, e2] at this
  exact this
theorem t_markOf' (hb : isHC h b k w n) (hI : HnI M h b k w n) {j : Int} (h0 : 0 ≤ j) (h1 : j < cnt (fK M h) 30) : Ret 1 0 0 mH_markOf [.inr b, .inl j] (S0 N) M (Pu (S0 N) M (M 26 (30 * h + nmo (fK M h) j 30))) := by
  obtain ⟨i1, i2, i3, i4, i5⟩ := hI
  have cr := cnt_rng (fK M h) 30
  have no := nmo_ok h0 h1
  have e := i3 j h0 h1
  have e2 := (i1 (nmo (fK M h) j 30) no.1 no.2.1).2
  have := t_markOf (N := N) (M := M) (k := j) (b := b) (hc_b hb) h0 (by omega) (by rw [show b + 3 = n by omega, e]; exact no.1) (by rw [show b + 3 = n by omega, e]; exact no.2.1)
  rw [show b + 3 = n by omega, show b + 2 = w by omega, e, e2] at this
  exact this
theorem t_momentOf' (hb : isHC h b k w n) (hI : HnI M h b k w n) {j : Int} (h0 : 0 ≤ j) (h1 : j < cnt (fK M h) 30) : Ret 1 0 0 mH_momentOf [.inr b, .inl j] (S0 N) M (Pu (S0 N) M (nmo (fK M h) j 30)) := by
  have cr := cnt_rng (fK M h) 30
  have := t_momentOf (N := N) (M := M) (k := j) (b := b) (hc_b hb) h0 (by omega)
  rw [show b + 3 = n by omega, hI.2.2.1 j h0 h1] at this
  exact this
theorem t_noteCount' (hb : isHC h b k w n) (hI : HnI M h b k w n) : Ret 0 0 0 mH_noteCount [.inr b] (S0 N) M (Pu (S0 N) M (cnt (fK M h) 30)) := by
  have := t_noteCount (N := N) (M := M) (b := b) (hc_b hb)
  rw [hI.2.1] at this
  exact this
theorem t_tieHolds' (hb : isHC h b k w n) (hI : HnI M h b k w n) (hT : TieI M) : Ret 0 0 0 mH_tieHolds [.inr b] (S0 N) M (Pu (S0 N) M (bi (thd M h))) := by
  have ht := hT h (hc_h hb)
  obtain ⟨i1, i2, i3, i4, i5⟩ := hI
  have := t_tieHolds (N := N) (M := M) (b := b) (hc_b hb) (fun q => by omega)
  refine this.up ?_
  unfold thd
  by_cases q : 0 < M b 7 ∧ M b 6 + M b 7 ≤ M b 4
  · rw [bi_t q, bi_t (by omega)]
  · rw [bi_f q, bi_f (by omega)]
theorem t_hasTie' (hb : isHC h b k w n) (hI : HnI M h b k w n) (hT : TieI M) : Ret 0 0 0 mH_hasTie [.inr b] (S0 N) M (Pu (S0 N) M (bi (M 40 h ≠ -9))) := by
  have ht := hT h (hc_h hb)
  obtain ⟨i1, i2, i3, i4, i5⟩ := hI
  have := t_hasTie (N := N) (M := M) (b := b) (hc_b hb)
  refine this.up ?_
  by_cases q : 0 < M b 7
  · rw [bi_t q, bi_t (by omega)]
  · rw [bi_f q, bi_f (by omega)]
theorem t_isEcho (hb : isHC h b k w n) (hI : HnI M h b k w n) (hK : KyI M) {i j l : Int} (hi : 0 ≤ i) (hj : 0 ≤ j) (hl : 1 ≤ l) (h1 : i + l ≤ cnt (fK M h) 30) (h2 : j + l ≤ cnt (fK M h) 30) : Ret 2 0 0 mH_isEcho [.inr b, .inl i, .inl j, .inl l] (S0 N) M (Pu (S0 N) M (bi (ecP (kyF M h) (cnt (fK M h) 30) i l j))) := by
  have cr := cnt_rng (fK M h) 30
  have hh := (hc_h hb)
  have r3 := kyF_rng hh hK hj (by omega)
  have r4 := kyF_rng hh hK hi (by omega)
  have kO := fun (j : Int) (h0 : 0 ≤ j) (h1 : j < cnt (fK M h) 30) => t_keyOf' (N := N) hb hI h0 h1
  have loop : ∀ (c x : Nat), 1 ≤ x → (x : Int) + c = l → (∀ y : Nat, y < x → kyF M h (j + y) - kyF M h (i + y) = kyF M h j - kyF M h i) → AJ 2 0 0 mH_isEcho (Pu (S0 N) M (bi (ecP (kyF M h) (cnt (fK M h) 30) i l j))) 0 0 16 [some (.inr b), some (.inl i), some (.inl j), some (.inl l), some (.inl (kyF M h j - kyF M h i)), some (.inl x)] [] (S0 N) M := by
    intro c
    induction c with
    | zero =>
      intro x x1 hx hy
      rcases hb with ⟨rfl, rfl, rfl, rfl, rfl⟩ | ⟨rfl, rfl, rfl, rfl, rfl⟩
      all_goals
        refine aH_isEcho [] 40 (fun hM => ?_)
        refine ⟨by omega, ite_i (fun q => by omega) (fun q => ?_)⟩
        exact ⟨Or.inr rfl, pu_eq (bi_t ⟨h1, h2, fun y hy2 => hy y (by omega)⟩).symm⟩
    | succ c ih =>
      intro x x1 hx hy
      have r1 := kyF_rng hh hK (show 0 ≤ j + x by omega) (by omega)
      have r2 := kyF_rng hh hK (show 0 ≤ i + x by omega) (by omega)
      have h3 := fun (q2 : kyF M h (j + x) - kyF M h (i + x) = kyF M h j - kyF M h i) => ih (x + 1) (by omega) (by omega) (fun y hy2 => by
        by_cases hyx : y < x
        · exact hy y hyx
        · have : y = x := by omega
          subst this
          exact q2)
      rw [show ((x + 1 : Nat) : Int) = (x : Int) + 1 by omega] at h3
      have k1 := kO (j + x) (by omega) (by omega)
      have k2 := kO (i + x) (by omega) (by omega)
      rcases hb with ⟨rfl, rfl, rfl, rfl, rfl⟩ | ⟨rfl, rfl, rfl, rfl, rfl⟩
      all_goals
        refine aH_isEcho [16] 40 (fun hM => ?_)
        refine ⟨by omega, ite_i (fun q => ?_) (fun q => by omega)⟩
        refine CL.pu k1 (Nat.le_of_ble_eq_true rfl) ?_
        refine CL.pu k2 (Nat.le_of_ble_eq_true rfl) ?_
        refine ⟨⟨by omega, by omega⟩, ite_i (fun q2 => ?_) (fun q2 => ?_)⟩
        · exact h3 q2
        · exact ⟨Or.inl rfl, pu_eq (bi_f (fun z => q2 (z.2.2 x (by omega)))).symm⟩
  have L := loop (l - 1).toNat 1 (by omega) (by omega) (fun y hy => by
    have : y = 0 := by omega
    subst this
    show kyF M h (j + 0) - kyF M h (i + 0) = _
    rw [Int.add_zero, Int.add_zero])
  have k1 := kO j hj (by omega)
  have k2 := kO i hi (by omega)
  rcases hb with ⟨rfl, rfl, rfl, rfl, rfl⟩ | ⟨rfl, rfl, rfl, rfl, rfl⟩
  all_goals
    refine eH_isEcho [16] 40 (Nat.le_of_ble_eq_true rfl) (fun hM => ?_)
    refine CL.pu k1 (Nat.le_of_ble_eq_true rfl) ?_
    refine CL.pu k2 (Nat.le_of_ble_eq_true rfl) ?_
    exact L
theorem t_likeness (hb : isHC h b k w n) (hI : HnI M h b k w n) (hK : KyI M) {i j l : Int} (hi : 0 ≤ i) (hj : 0 ≤ j) (hl : 1 ≤ l) (h1 : i + l ≤ cnt (fK M h) 30) (h2 : j + l ≤ cnt (fK M h) 30) : Ret 2 0 0 mH_likeness [.inr b, .inl i, .inl j, .inl l] (S0 N) M (Pu (S0 N) M (alk (kyF M h) i j l.toNat)) := by
  have cr := cnt_rng (fK M h) 30
  have hh := (hc_h hb)
  have kO := fun (j : Int) (h0 : 0 ≤ j) (h1 : j < cnt (fK M h) 30) => t_keyOf' (N := N) hb hI h0 h1
  have loop : ∀ (c x : Nat), (x : Int) + c = l → AJ 2 0 0 mH_likeness (Pu (S0 N) M (alk (kyF M h) i j l.toNat)) 0 0 6 [some (.inr b), some (.inl i), some (.inl j), some (.inl l), some (.inl (alk (kyF M h) i j x)), some (.inl x)] [] (S0 N) M := by
    intro c
    induction c with
    | zero =>
      intro x hx
      rcases hb with ⟨rfl, rfl, rfl, rfl, rfl⟩ | ⟨rfl, rfl, rfl, rfl, rfl⟩
      all_goals
        refine aH_likeness [] 40 (fun hM => ?_)
        refine ⟨by omega, ite_i (fun q => by omega) (fun q => ?_)⟩
        exact pu_eq (by rw [show l.toNat = x by omega])
    | succ c ih =>
      intro x hx
      have ar := alk_rng (K := kyF M h) (i := i) (j := j) x
      have r1 := kyF_rng hh hK (show 0 ≤ j + x by omega) (by omega)
      have r2 := kyF_rng hh hK (show 0 ≤ i + x by omega) (by omega)
      have h3 := ih (x + 1) (by omega)
      rw [show ((x + 1 : Nat) : Int) = (x : Int) + 1 by omega] at h3
      have ea : alk (kyF M h) i j (x + 1) = alk (kyF M h) i j x + (if (blk (kyF M h (j + x)) ↔ blk (kyF M h (i + x))) then 1 else 0) := rfl
      rw [ea] at h3
      have k1 := kO (j + x) (by omega) (by omega)
      have k2 := kO (i + x) (by omega) (by omega)
      rcases hb with ⟨rfl, rfl, rfl, rfl, rfl⟩ | ⟨rfl, rfl, rfl, rfl, rfl⟩
      all_goals
        refine aH_likeness [6] 40 (fun hM => ?_)
        refine ⟨by omega, ite_i (fun q => ?_) (fun q => by omega)⟩
        refine CL.pu k2 (Nat.le_of_ble_eq_true rfl) ?_
        refine CL.bl (t_isBlack r2.1 (by omega)) (Nat.le_of_ble_eq_true rfl) (fun q1 => ?_) (fun q1 => ?_)
        · refine CL.pu k1 (Nat.le_of_ble_eq_true rfl) (CL.bl (t_isBlack r1.1 (by omega)) (Nat.le_of_ble_eq_true rfl) (fun q2 => ?_) (fun q2 => ?_))
          · rw [if_pos (iff_of_true q2 q1)] at h3
            exact ⟨⟨R32_1, R32_1⟩, h3⟩
          · rw [if_neg (fun z => q2 (z.mpr q1)), Int.add_zero] at h3
            exact ⟨⟨R32_1, R32_0⟩, h3⟩
        · refine CL.pu k1 (Nat.le_of_ble_eq_true rfl) (CL.bl (t_isBlack r1.1 (by omega)) (Nat.le_of_ble_eq_true rfl) (fun q2 => ?_) (fun q2 => ?_))
          · rw [if_neg (fun z => q1 (z.mp q2)), Int.add_zero] at h3
            exact ⟨⟨R32_0, R32_1⟩, h3⟩
          · rw [if_pos (iff_of_false q2 q1)] at h3
            exact ⟨⟨R32_0, R32_0⟩, h3⟩
  have L := loop l.toNat 0 (by omega)
  rcases hb with ⟨rfl, rfl, rfl, rfl, rfl⟩ | ⟨rfl, rfl, rfl, rfl, rfl⟩
  all_goals
    refine eH_likeness [6] 40 (Nat.le_of_ble_eq_true rfl) (fun hM => ?_)
    exact L
end Hd3
