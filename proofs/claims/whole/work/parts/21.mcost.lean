theorem z_placeOf_loop {N : Nat} {h : Int} {M : Mm} (hh : h = 0 ∨ h = 1) {k : Int} {m : Nat} (hm : m < 30) (hf : fK M h m ≠ -9) (hk : cnt (fK M h) m = k) : ∀ (n i : Nat), i + n = m → AJ 0 0 0 mM_placeOf (Pu (S0 N) M (30 * h + m)) 0 0 8 [some (.inr 24), some (.inl h), some (.inl k), some (.inl (k - cnt (fK M h) i)), some (.inl (30 * h + i))] [] (S0 N) M := by
  intro n
  induction n with
  | zero =>
    intro i hi
    have : i = m := by omega
    subst this
    refine aM_placeOf [8] 30 (fun hM => ?_)
    refine ⟨by omega, ⟨hM _ _, by decide⟩, ite_i (fun q => absurd q hf) (fun q => ?_)⟩
    refine ⟨by omega, ite_i (fun q => by omega) (fun q => pu_eq rfl)⟩
  | succ n ih =>
    intro i hi
    have hr := cnt_rng (fK M h) i
    have hr2 := cnt_rng (fK M h) m
    refine aM_placeOf [8] 40 (fun hM => ?_)
    have key : ∀ q : Int, q = k - cnt (fK M h) (i + 1) → AJ 0 0 0 mM_placeOf (Pu (S0 N) M (30 * h + m)) 0 0 8 [some (.inr 24), some (.inl h), some (.inl k), some (.inl q), some (.inl (30 * h + i + 1))] [] (S0 N) M := by
      intro q hq
      have := ih (i + 1) (by omega)
      rw [hq]
      rw [show (30 * h + ((i + 1 : Nat) : Int)) = 30 * h + i + 1 by omega] at this
      exact this
    have e : cnt (fK M h) (i + 1) = cnt (fK M h) i + (if fK M h i = -9 then 0 else 1) := rfl
    refine ⟨by omega, ⟨hM _ _, by decide⟩, ite_i (fun q => ?_) (fun q => ?_)⟩
    · refine ⟨by omega, ⟨hM _ _, by decide⟩, ite_i (fun _ => ?_) (fun q2 => absurd q q2)⟩
      exact key _ (by rw [e, if_pos q]; omega)
    · have hlt := cnt_lt (fK M h) (show i < m by omega) q
      refine ⟨by omega, ite_i (fun q2 => ?_) (fun q2 => by omega)⟩
      refine ⟨by omega, ⟨hM _ _, by decide⟩, ite_i (fun q2 => absurd q2 q) (fun _ => ?_)⟩
      exact key _ (by rw [e, if_neg q]; omega)
theorem z_placeOf {N : Nat} {h k : Int} {M : Mm} (hh : h = 0 ∨ h = 1) (h0 : 0 ≤ k) (h1 : k < cnt (fK M h) 30) : Ret 0 0 0 mM_placeOf [.inr 24, .inl h, .inl k] (S0 N) M (Pu (S0 N) M (30 * h + nmo (fK M h) k 30)) := by
  obtain ⟨m, a, b, c⟩ := nmo_ex h0 h1
  rw [nmo_is a b c]
  refine eM_placeOf [8] 30 (Nat.le_of_ble_eq_true rfl) (fun hM => ?_)
  have := z_placeOf_loop (N := N) hh a b c m 0 (by omega)
  rw [show k - cnt (fK M h) 0 = k by simp [cnt], show 30 * h + ((0 : Nat) : Int) = 30 * h by omega] at this
  exact this
theorem z_noteCost {N : Nat} {k f : Int} {M : Mm} (hI : RuI M) (h0 : 0 ≤ k) (h1 : k ≤ 1000) (hf : R32 f) : Ret 1 0 0 mM_noteCost [.inr 24, .inl k, .inl f] (S0 N) M (Pu (S0 N) M (ncv (M 30) k f)) := by
  refine eM_noteCost [] 60 (Nat.le_of_ble_eq_true rfl) (fun hM => ?_)
  repeat' first
    | (exact pu_eq (by grind [ncv]))
    | (exact hM _ _)
    | (refine ite_i (fun _ => ?_) (fun _ => ?_))
    | (refine CL.bl (z_isBlack h0 h1) (Nat.le_of_ble_eq_true rfl) (fun _ => ?_) (fun _ => ?_))
    | (exact trivial)
    | (omega)
    | (refine And.intro ?_ ?_)
theorem z_byReach {N : Nat} {f g a : Int} {M : Mm} (hf0 : 1 ≤ f) (hf1 : f ≤ 5) (hg0 : 1 ≤ g) (hg1 : g ≤ 5) (hne : f ≠ g) (h4 : 0 ≤ a) (h5 : a ≤ 1000) : Ret 0 0 0 mM_byReach [.inr 24, .inl f, .inl g, .inl a] (S0 N) M (Pu (S0 N) M (rcv (M 27) (M 28) (M 29) (10 * min f g + max f g) a)) := by
  refine eM_byReach [] 60 (Nat.le_of_ble_eq_true rfl) (fun hM => ?_)
  refine ⟨by omega, ite_i (fun q => ?_) (fun q => ?_)⟩
  · rw [show min f g = f by omega, show max f g = g by omega]
    repeat' first
      | (exact pu_eq (by grind [rcv]))
      | (exact hM _ _)
      | (refine ite_i (fun _ => ?_) (fun _ => ?_))
      | (exact trivial)
      | (omega)
      | (refine And.intro ?_ ?_)
  · rw [show min f g = g by omega, show max f g = f by omega]
    repeat' first
      | (exact pu_eq (by grind [rcv]))
      | (exact hM _ _)
      | (refine ite_i (fun _ => ?_) (fun _ => ?_))
      | (exact trivial)
      | (omega)
      | (refine And.intro ?_ ?_)
theorem z_stepCost_tail {N : Nat} {hand a f b g dd far E : Int} {M : Mm} (ha0 : 0 ≤ a) (ha1 : a < 60) (hb0 : 0 ≤ b) (hb1 : b < 60) (hf0 : 1 ≤ f) (hf1 : f ≤ 5) (hg0 : 1 ≤ g) (hg1 : g ≤ 5) (hd0 : -59 ≤ dd) (hd1 : dd ≤ 59) (hfar : far = dd.natAbs)
    (hE0 : Unit → (if dd = 0 then (if f = g then M 30 5 else 0)
  else if f = g then (if blk a ∧ ¬ blk b ∧ (dd = 1 ∨ dd = -1) then M 30 4 else M 30 3)
  else if (0 < dd ↔ f < g) then rcv (M 27) (M 28) (M 29) (10 * min f g + max f g) dd.natAbs
  else if min f g = 1 ∧ max f g ≠ 5 ∧ dd ≤ 5 ∧ -5 ≤ dd then M 30 2 + dd.natAbs else 1000000) = E) :
    AJ 1 0 0 mM_stepCost (Pu (S0 N) M E) 0 0 32 [some (.inr 24), some (.inl hand), some (.inl a), some (.inl f), some (.inl b), some (.inl g), some (.inl dd), some (.inl far)] [] (S0 N) M := by
  refine aM_stepCost [] 120 (fun hM => ?_)
  refine ⟨by omega, ite_i (fun q => ?_) (fun q => ?_)⟩
  · refine ⟨by omega, ite_i (fun q2 => ?_) (fun q2 => ?_)⟩
    · exact ⟨by omega, pu_eq (by rw [← hE0 (), if_pos q, if_pos q2])⟩
    · exact pu_eq (by rw [← hE0 (), if_pos q, if_neg q2])
  · refine ⟨by omega, ite_i (fun q2 => ?_) (fun q2 => ?_)⟩
    · have l4 : Unit → blk a ∧ ¬ blk b ∧ (dd = 1 ∨ dd = -1) → M 30 4 = E := fun _ h => by rw [← hE0 (), if_neg q, if_pos q2, if_pos h]
      have l3 : Unit → ¬ (blk a ∧ ¬ blk b ∧ (dd = 1 ∨ dd = -1)) → M 30 3 = E := fun _ h => by rw [← hE0 (), if_neg q, if_pos q2, if_neg h]
      refine CL.bl (z_isBlack ha0 (by omega)) (Nat.le_of_ble_eq_true rfl) (fun q4 => ?_) (fun q4 => ?_)
      · refine ⟨R32_1, CL.bl (z_isBlack hb0 (by omega)) (Nat.le_of_ble_eq_true rfl) (fun q5 => ?_) (fun q5 => ?_)⟩
        · exact ⟨R32_1, by omega, pu_eq (l3 () (by intro h; exact h.2.1 q5))⟩
        · refine ⟨R32_0, by omega, ite_i (fun q6 => ?_) (fun q6 => ?_)⟩
          · exact ⟨by omega, pu_eq (l4 () ⟨q4, q5, by omega⟩)⟩
          · exact ⟨by omega, pu_eq (l3 () (by intro h; omega))⟩
      · exact ⟨R32_0, by omega, pu_eq (l3 () (by intro h; exact q4 h.1))⟩
    · refine ⟨by omega, ite_i (fun q3 => ?_) (fun q3 => ?_)⟩
      · refine ⟨by omega, ite_i (fun q4 => ?_) (fun q4 => ?_)⟩
        · refine ⟨⟨R32_1, R32_1⟩, ?_⟩
          refine CL.pu (z_byReach hf0 hf1 hg0 hg1 q2 (by omega) (by omega)) (Nat.le_of_ble_eq_true rfl) (pu_eq ?_)
          rw [← hE0 (), if_neg q, if_neg q2, if_pos (by omega : (0 < dd ↔ f < g)), hfar]
        · refine ⟨⟨R32_1, R32_0⟩, ?_⟩
          have qn : Unit → ¬ (0 < dd ↔ f < g) := fun _ => by omega
          have ly : Unit → (min f g = 1 ∧ max f g ≠ 5 ∧ dd ≤ 5 ∧ -5 ≤ dd) → M 30 2 + far = E := fun _ h => by rw [← hE0 (), if_neg q, if_neg q2, if_neg (qn ()), if_pos h, hfar]
          have ln : Unit → ¬ (min f g = 1 ∧ max f g ≠ 5 ∧ dd ≤ 5 ∧ -5 ≤ dd) → 1000000 = E := fun _ h => by rw [← hE0 (), if_neg q, if_neg q2, if_neg (qn ()), if_neg h]
          refine ⟨by omega, ite_i (fun p1 => ?_) (fun p1 => ?_)⟩
          · refine ⟨by omega, ite_i (fun _ => ?_) (fun p2 => absurd p1 p2)⟩
            refine ⟨by omega, ite_i (fun p3 => ?_) (fun p3 => ?_)⟩
            · exact ⟨R32_0, pu_eq (ln () (by omega))⟩
            · refine ⟨by omega, ite_i (fun p4 => ?_) (fun p4 => ?_)⟩
              · exact ⟨R32_0, pu_eq (ln () (by omega))⟩
              · exact ⟨R32_1, by omega, pu_eq (ly () (by omega))⟩
          · refine ⟨by omega, ite_i (fun p2 => absurd p2 p1) (fun _ => ?_)⟩
            refine ⟨by omega, ite_i (fun p2 => ?_) (fun p2 => ?_)⟩
            · refine ⟨by omega, ite_i (fun p3 => ?_) (fun p3 => ?_)⟩
              · exact ⟨R32_0, pu_eq (ln () (by omega))⟩
              · refine ⟨by omega, ite_i (fun p4 => ?_) (fun p4 => ?_)⟩
                · exact ⟨R32_0, pu_eq (ln () (by omega))⟩
                · exact ⟨R32_1, by omega, pu_eq (ly () (by omega))⟩
            · exact ⟨R32_0, pu_eq (ln () (by omega))⟩
      · refine ⟨by omega, ite_i (fun q4 => ?_) (fun q4 => ?_)⟩
        · refine ⟨⟨R32_0, R32_1⟩, ?_⟩
          have qn : Unit → ¬ (0 < dd ↔ f < g) := fun _ => by omega
          have ly : Unit → (min f g = 1 ∧ max f g ≠ 5 ∧ dd ≤ 5 ∧ -5 ≤ dd) → M 30 2 + far = E := fun _ h => by rw [← hE0 (), if_neg q, if_neg q2, if_neg (qn ()), if_pos h, hfar]
          have ln : Unit → ¬ (min f g = 1 ∧ max f g ≠ 5 ∧ dd ≤ 5 ∧ -5 ≤ dd) → 1000000 = E := fun _ h => by rw [← hE0 (), if_neg q, if_neg q2, if_neg (qn ()), if_neg h]
          refine ⟨by omega, ite_i (fun p1 => ?_) (fun p1 => ?_)⟩
          · refine ⟨by omega, ite_i (fun _ => ?_) (fun p2 => absurd p1 p2)⟩
            refine ⟨by omega, ite_i (fun p3 => ?_) (fun p3 => ?_)⟩
            · exact ⟨R32_0, pu_eq (ln () (by omega))⟩
            · refine ⟨by omega, ite_i (fun p4 => ?_) (fun p4 => ?_)⟩
              · exact ⟨R32_0, pu_eq (ln () (by omega))⟩
              · exact ⟨R32_1, by omega, pu_eq (ly () (by omega))⟩
          · refine ⟨by omega, ite_i (fun p2 => absurd p2 p1) (fun _ => ?_)⟩
            refine ⟨by omega, ite_i (fun p2 => ?_) (fun p2 => ?_)⟩
            · refine ⟨by omega, ite_i (fun p3 => ?_) (fun p3 => ?_)⟩
              · exact ⟨R32_0, pu_eq (ln () (by omega))⟩
              · refine ⟨by omega, ite_i (fun p4 => ?_) (fun p4 => ?_)⟩
                · exact ⟨R32_0, pu_eq (ln () (by omega))⟩
                · exact ⟨R32_1, by omega, pu_eq (ly () (by omega))⟩
            · exact ⟨R32_0, pu_eq (ln () (by omega))⟩
        · refine ⟨⟨R32_0, R32_0⟩, ?_⟩
          refine CL.pu (z_byReach hf0 hf1 hg0 hg1 q2 (by omega) (by omega)) (Nat.le_of_ble_eq_true rfl) (pu_eq ?_)
          rw [← hE0 (), if_neg q, if_neg q2, if_pos (by omega : (0 < dd ↔ f < g)), hfar]
theorem z_stepCost {N : Nat} {hand a f b g : Int} {M : Mm} (hh : hand = 0 ∨ hand = 1) (ha0 : 0 ≤ a) (ha1 : a < 60) (hb0 : 0 ≤ b) (hb1 : b < 60) (hf0 : 1 ≤ f) (hf1 : f ≤ 5) (hg0 : 1 ≤ g) (hg1 : g ≤ 5) : Ret 1 0 0 mM_stepCost [.inr 24, .inl hand, .inl a, .inl f, .inl b, .inl g] (S0 N) M (Pu (S0 N) M (stv (M 30) (M 27) (M 28) (M 29) hand a f b g)) := by
  generalize hE : stv (M 30) (M 27) (M 28) (M 29) hand a f b g = E
  unfold stv at hE
  dsimp only at hE
  have tl := fun dd far h1 h2 h3 h4 => z_stepCost_tail (N := N) (hand := hand) (dd := dd) (far := far) (E := E) (M := M) ha0 ha1 hb0 hb1 hf0 hf1 hg0 hg1 h1 h2 h3 h4
  refine eM_stepCost [32] 120 (Nat.le_of_ble_eq_true rfl) (fun hM => ?_)
  refine ⟨by omega, ite_i (fun q => ?_) (fun q => ?_)⟩
  · simp only [q, if_true] at hE
    refine ⟨by omega, ite_i (fun q2 => ?_) (fun q2 => ?_)⟩
    · exact tl _ _ (by omega) (by omega) (by omega) (fun _ => hE)
    · exact tl _ _ (by omega) (by omega) (by omega) (fun _ => hE)
  · simp only [q, if_false] at hE
    refine ⟨by omega, ite_i (fun q2 => ?_) (fun q2 => ?_)⟩
    · exact tl _ _ (by omega) (by omega) (by omega) (fun _ => hE)
    · exact tl _ _ (by omega) (by omega) (by omega) (fun _ => hE)
