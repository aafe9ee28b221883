/-! ===== KeyFingers: what numbers are; arrays ===== -/
theorem t_isBelow {N : Nat} {h b : Int} {M : Mm} (hh : R32 h) (hb : R32 b) : Ret 0 0 0 mK_isBelow [.inl h, .inl b] (S0 N) M (Pu (S0 N) M (bi (0 ≤ h ∧ h < b))) := by
  refine eK_isBelow [] 20 (Nat.le_of_ble_eq_true rfl) (fun hM => ?_)
  repeat' first
    | (exact ⟨Or.inr rfl, pu_eq (bi_t (by omega)).symm⟩)
    | (exact ⟨Or.inl rfl, pu_eq (bi_f (by omega)).symm⟩)
    | (exact hM _ _)
    | (refine ite_i (fun _ => ?_) (fun _ => ?_))
    | (exact trivial)
    | (omega)
    | (refine And.intro ?_ ?_)
theorem t_isHand {N : Nat} {h : Int} {M : Mm} (hh : R32 h) : Ret 0 0 0 mK_isHand [.inl h] (S0 N) M (Pu (S0 N) M (bi (h = 0 ∨ h = 1))) := by
  refine eK_isHand [] 20 (Nat.le_of_ble_eq_true rfl) (fun hM => ?_)
  repeat' first
    | (exact ⟨Or.inr rfl, pu_eq (bi_t (by omega)).symm⟩)
    | (exact ⟨Or.inl rfl, pu_eq (bi_f (by omega)).symm⟩)
    | (exact hM _ _)
    | (refine ite_i (fun _ => ?_) (fun _ => ?_))
    | (exact trivial)
    | (omega)
    | (refine And.intro ?_ ?_)
theorem t_isMoment {N : Nat} {h : Int} {M : Mm} (hh : R32 h) : Ret 0 0 0 mK_isMoment [.inl h] (S0 N) M (Pu (S0 N) M (bi (0 ≤ h ∧ h < 30))) := by
  refine eK_isMoment [] 20 (Nat.le_of_ble_eq_true rfl) (fun hM => ?_)
  repeat' first
    | (exact ⟨Or.inr rfl, pu_eq (bi_t (by omega)).symm⟩)
    | (exact ⟨Or.inl rfl, pu_eq (bi_f (by omega)).symm⟩)
    | (exact hM _ _)
    | (refine ite_i (fun _ => ?_) (fun _ => ?_))
    | (exact trivial)
    | (omega)
    | (refine And.intro ?_ ?_)
theorem t_isKey {N : Nat} {h : Int} {M : Mm} (hh : R32 h) : Ret 0 0 0 mK_isKey [.inl h] (S0 N) M (Pu (S0 N) M (bi (0 ≤ h ∧ h < 60))) := by
  refine eK_isKey [] 20 (Nat.le_of_ble_eq_true rfl) (fun hM => ?_)
  repeat' first
    | (exact ⟨Or.inr rfl, pu_eq (bi_t (by omega)).symm⟩)
    | (exact ⟨Or.inl rfl, pu_eq (bi_f (by omega)).symm⟩)
    | (exact hM _ _)
    | (refine ite_i (fun _ => ?_) (fun _ => ?_))
    | (exact trivial)
    | (omega)
    | (refine And.intro ?_ ?_)
theorem t_isFinger {N : Nat} {h : Int} {M : Mm} (hh : R32 h) : Ret 0 0 0 mK_isFinger [.inl h] (S0 N) M (Pu (S0 N) M (bi (1 ≤ h ∧ h ≤ 5))) := by
  refine eK_isFinger [] 20 (Nat.le_of_ble_eq_true rfl) (fun hM => ?_)
  repeat' first
    | (exact ⟨Or.inr rfl, pu_eq (bi_t (by omega)).symm⟩)
    | (exact ⟨Or.inl rfl, pu_eq (bi_f (by omega)).symm⟩)
    | (exact hM _ _)
    | (refine ite_i (fun _ => ?_) (fun _ => ?_))
    | (exact trivial)
    | (omega)
    | (refine And.intro ?_ ?_)
theorem t_isBlack {N : Nat} {k : Int} {M : Mm} (h0 : 0 ≤ k) (h1 : k ≤ 1000) : Ret 0 0 0 mK_isBlack [.inl k] (S0 N) M (Pu (S0 N) M (bi (blk k))) := by
  refine eK_isBlack [] 20 (Nat.le_of_ble_eq_true rfl) (fun hM => ?_)
  refine ⟨⟨by decide, by decide⟩, ?_⟩
  rw [remI_12 h0 h1]
  refine ⟨by omega, fun q => ?_, ?_⟩
  · exact ⟨Or.inl rfl, pu_eq (bi_f (by omega)).symm⟩
  · refine ⟨fun q => ?_, fun q => ?_, fun q => ?_, fun q => ?_, fun q => ?_, fun q => ?_, fun q => ?_, fun q => ?_, fun q => ?_, fun q => ?_, trivial⟩
    all_goals first | (exact ⟨Or.inr rfl, pu_eq (bi_t (by omega)).symm⟩) | (exact ⟨Or.inl rfl, pu_eq (bi_f (by omega)).symm⟩)
theorem t_at {N c n : Nat} {p : Int} {M : Mm} (hs : shp (S0 N) c = some (.inl n)) (h0 : 0 ≤ p) (h1 : p < n) (hn : n ≤ 1000) : Ret 0 0 0 mK_at [.inr c, .inl p] (S0 N) M (Pu (S0 N) M (M c p)) := by
  refine eK_at [] 20 (Nat.le_of_ble_eq_true rfl) (fun hM => ?_)
  refine ⟨by omega, ite_i (fun q => by omega) (fun q => ?_)⟩
  conv => whnf
  rw [hs]
  refine ⟨by omega, ite_i (fun q => ?_) (fun q => by omega)⟩
  conv => whnf
  rw [hs]
  exact ⟨by omega, pu_eq rfl⟩
theorem t_at_out {N c n : Nat} {p : Int} {M : Mm} (hs : shp (S0 N) c = some (.inl n)) (h0 : p < 0 ∨ (n : Int) ≤ p) (hp : R32 p) (hn : n ≤ 1000) : Ret 0 0 0 mK_at [.inr c, .inl p] (S0 N) M (Pu (S0 N) M (-9)) := by
  refine eK_at [] 20 (Nat.le_of_ble_eq_true rfl) (fun hM => ?_)
  refine ⟨by omega, ite_i (fun q => ?_) (fun q => ?_)⟩
  · exact pu_eq rfl
  · conv => whnf
    rw [hs]
    refine ⟨by omega, ite_i (fun q => by omega) (fun q => ?_)⟩
    exact pu_eq rfl
theorem t_store {N c n : Nat} {p v : Int} {M : Mm} (hs : shp (S0 N) c = some (.inl n)) (hc : c ≠ 0) (h0 : 0 ≤ p) (h1 : p < n) (hn : n ≤ 1000) (hv : R32 v) : Ret 0 0 0 mK_store [.inr c, .inl p, .inl v] (S0 N) M (Vo (S0 N) (mset M c p v)) := by
  refine eK_store [] 20 (Nat.le_of_ble_eq_true rfl) (fun hM => ?_)
  refine ⟨by omega, ite_i (fun q => by omega) (fun q => ?_)⟩
  conv => whnf
  rw [hs]
  refine ⟨by omega, ite_i (fun q => ?_) (fun q => by omega)⟩
  conv => whnf
  rw [hs]
  exact ⟨⟨hc, h0, h1, by omega, hv⟩, vo_eq rfl⟩
