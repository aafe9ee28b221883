/-! ===== notes by moments: pure words ===== -/
def cnt (f : Int → Int) : Nat → Int
  | 0 => 0
  | n + 1 => cnt f n + (if f n = -9 then 0 else 1)
theorem cnt_rng (f : Int → Int) : ∀ n : Nat, 0 ≤ cnt f n ∧ cnt f n ≤ n := by
  intro n
  induction n with
  | zero => simp [cnt]
  | succ n ih => unfold cnt; split <;> omega
theorem cnt_mono (f : Int → Int) {a b : Nat} (h : a ≤ b) : cnt f a ≤ cnt f b := by
  induction b with
  | zero => have : a = 0 := by omega
            subst this; omega
  | succ b ih =>
    by_cases hab : a = b + 1
    · subst hab; omega
    · have := ih (by omega)
      have e : cnt f (b + 1) = cnt f b + (if f b = -9 then 0 else 1) := rfl
      rw [e]; split <;> omega
theorem cnt_lt (f : Int → Int) {a b : Nat} (h : a < b) (ha : f a ≠ -9) : cnt f a < cnt f b := by
  have h1 := cnt_mono f (show a + 1 ≤ b from h)
  have e : cnt f (a + 1) = cnt f a + (if f a = -9 then 0 else 1) := rfl
  rw [if_neg ha] at e
  omega
theorem cnt_congr {f g : Int → Int} : ∀ n : Nat, (∀ m : Nat, m < n → f m = g m) → cnt f n = cnt g n := by
  intro n
  induction n with
  | zero => intro _; rfl
  | succ n ih => intro h; unfold cnt; rw [ih (fun m hm => h m (by omega)), h n (by omega)]
/-- the moment of note k -/
def nmo (f : Int → Int) (k : Int) : Nat → Int
  | 0 => 0
  | n + 1 => if f n ≠ -9 ∧ cnt f n = k then n else nmo f k n
theorem nmo_is {f : Int → Int} {k : Int} {m : Nat} : ∀ {n : Nat}, m < n → f m ≠ -9 → cnt f m = k → nmo f k n = m := by
  intro n
  induction n with
  | zero => intro h; omega
  | succ n ih =>
    intro h h1 h2
    unfold nmo
    by_cases hm : m = n
    · subst hm; rw [if_pos ⟨h1, h2⟩]
    · rw [if_neg]
      · exact ih (by omega) h1 h2
      · rintro ⟨h3, h4⟩
        have := cnt_lt f (show m < n by omega) h1
        omega
theorem nmo_ex {f : Int → Int} {k : Int} : ∀ {n : Nat}, 0 ≤ k → k < cnt f n → ∃ m : Nat, m < n ∧ f m ≠ -9 ∧ cnt f m = k := by
  intro n
  induction n with
  | zero => intro h1 h2; simp [cnt] at h2; omega
  | succ n ih =>
    intro h1 h2
    unfold cnt at h2
    by_cases hk : k < cnt f n
    · obtain ⟨m, a, b, c⟩ := ih h1 hk
      exact ⟨m, by omega, b, c⟩
    · by_cases hf : f n = -9
      · rw [if_pos hf] at h2; omega
      · rw [if_neg hf] at h2
        exact ⟨n, by omega, hf, by omega⟩
theorem nmo_ok {f : Int → Int} {k : Int} {n : Nat} (h1 : 0 ≤ k) (h2 : k < cnt f n) : 0 ≤ nmo f k n ∧ nmo f k n < n ∧ f (nmo f k n) ≠ -9 ∧ cnt f (nmo f k n).toNat = k := by
  obtain ⟨m, a, b, c⟩ := nmo_ex h1 h2
  rw [nmo_is a b c]
  refine ⟨by omega, by omega, b, ?_⟩
  rw [Int.toNat_natCast]; exact c
/-- keys of a hand by moments (as the reference has them) -/
abbrev fK (M : Mm) (h : Int) : Int → Int := fun m => M 25 (30 * h + m)
def KyI (M : Mm) : Prop := ∀ j, 0 ≤ j → j < 60 → (M 25 j = -9 ∨ (0 ≤ M 25 j ∧ M 25 j < 60)) ∧ (M 26 j = -9 ∨ (1 ≤ M 26 j ∧ M 26 j ≤ 5)) ∧ (M 25 j = -9 → M 26 j = -9)
/-! ===== the reference: leaves ===== -/
theorem z_within {N : Nat} {v a b : Int} {M : Mm} (hv : R32 v) (ha : R32 a) (hb : R32 b) : Ret 0 0 0 mM_within [.inl v, .inl a, .inl b] (S0 N) M (Pu (S0 N) M (bi (a ≤ v ∧ v ≤ b))) := by
  refine eM_within [] 20 (Nat.le_of_ble_eq_true rfl) (fun hM => ?_)
  repeat' first
    | (exact ⟨Or.inr rfl, pu_eq (bi_t (by omega)).symm⟩)
    | (exact ⟨Or.inl rfl, pu_eq (bi_f (by omega)).symm⟩)
    | (exact hM _ _)
    | (refine ite_i (fun _ => ?_) (fun _ => ?_))
    | (exact trivial)
    | (omega)
    | (refine And.intro ?_ ?_)
theorem pu_bi {S : Ly} {M : Mm} {p q : Prop} [Decidable p] [Decidable q] (h : p ↔ q) : bi p = bi q := by
  unfold bi; simp [h]
theorem bi01 {p : Prop} [Decidable p] : bi p = 0 ∨ bi p = 1 := by unfold bi; split <;> simp
theorem z_isHand {N : Nat} {h : Int} {M : Mm} (hh : R32 h) : Ret 1 0 0 mM_isHand [.inl h] (S0 N) M (Pu (S0 N) M (bi (h = 0 ∨ h = 1))) := by
  refine eM_isHand [] 20 (Nat.le_of_ble_eq_true rfl) (fun hM => ?_)
  refine CL.pu (z_within hh (by decide) (by decide)) (Nat.le_of_ble_eq_true rfl) ⟨bi01, pu_eq (pu_bi (S := []) (M := M) (by omega))⟩
theorem z_isMoment {N : Nat} {h : Int} {M : Mm} (hh : R32 h) : Ret 1 0 0 mM_isMoment [.inl h] (S0 N) M (Pu (S0 N) M (bi (0 ≤ h ∧ h < 30))) := by
  refine eM_isMoment [] 20 (Nat.le_of_ble_eq_true rfl) (fun hM => ?_)
  refine CL.pu (z_within hh (by decide) (by decide)) (Nat.le_of_ble_eq_true rfl) ⟨bi01, pu_eq (pu_bi (S := []) (M := M) (by omega))⟩
theorem z_isFinger {N : Nat} {h : Int} {M : Mm} (hh : R32 h) : Ret 1 0 0 mM_isFinger [.inl h] (S0 N) M (Pu (S0 N) M (bi (1 ≤ h ∧ h ≤ 5))) := by
  refine eM_isFinger [] 20 (Nat.le_of_ble_eq_true rfl) (fun hM => ?_)
  refine CL.pu (z_within hh (by decide) (by decide)) (Nat.le_of_ble_eq_true rfl) ⟨bi01, pu_eq (pu_bi (S := []) (M := M) (by omega))⟩
theorem z_isKey {N : Nat} {h : Int} {M : Mm} (hh : R32 h) : Ret 1 0 0 mM_isKey [.inl h] (S0 N) M (Pu (S0 N) M (bi (0 ≤ h ∧ h < 60))) := by
  refine eM_isKey [] 20 (Nat.le_of_ble_eq_true rfl) (fun hM => ?_)
  refine CL.pu (z_within hh (by decide) (by decide)) (Nat.le_of_ble_eq_true rfl) ⟨bi01, pu_eq (pu_bi (S := []) (M := M) (by omega))⟩
theorem z_isBlack {N : Nat} {k : Int} {M : Mm} (h0 : 0 ≤ k) (h1 : k ≤ 1000) : Ret 0 0 0 mM_isBlack [.inl k] (S0 N) M (Pu (S0 N) M (bi (blk k))) := by
  refine eM_isBlack [] 30 (Nat.le_of_ble_eq_true rfl) (fun hM => ?_)
  refine ⟨⟨by decide, by decide⟩, ?_⟩
  rw [remI_12 h0 h1]
  repeat' first
    | (exact ⟨Or.inr rfl, pu_eq (bi_t (by omega)).symm⟩)
    | (exact ⟨Or.inl rfl, pu_eq (bi_f (by omega)).symm⟩)
    | (exact hM _ _)
    | (refine ite_i (fun _ => ?_) (fun _ => ?_))
    | (exact trivial)
    | (omega)
    | (refine And.intro ?_ ?_)
theorem z_isChanged {N : Nat} {M : Mm} : Ret 0 0 0 mM_isChanged [.inr 24] (S0 N) M (Vo (S0 N) (mset (mset M 24 18 0) 24 19 0)) := by
  refine eM_isChanged [] 20 (Nat.le_of_ble_eq_true rfl) (fun hM => ?_)
  exact ⟨⟨R32_0, Or.inl rfl, trivial⟩, ⟨R32_0, Or.inl rfl, trivial⟩, vo_eq rfl⟩
/-- a hand gets a key at a moment -/
def lay1 (M : Mm) (j key : Int) : Mm := if M 25 j = key then mset M 25 j key else mset (mset M 26 j (-9)) 25 j key
theorem z_lays {N : Nat} {h m key : Int} {M : Mm} (hh : h = 0 ∨ h = 1) (h0 : 0 ≤ m) (h1 : m < 30) (hk : R32 key) : Ret 0 0 0 mM_lays [.inr 24, .inl h, .inl m, .inl key] (S0 N) M (Vo (S0 N) (lay1 M (30 * h + m) key)) := by
  refine eM_lays [] 40 (Nat.le_of_ble_eq_true rfl) (fun hM => ?_)
  refine ⟨by omega, ⟨hM _ _, hk⟩, ite_i (fun q => ?_) (fun q => ?_)⟩
  · refine ⟨⟨by decide, by omega, by omega, by omega, hk⟩, vo_eq ?_⟩
    unfold lay1; rw [if_pos q]
  · refine ⟨⟨by decide, by omega, by omega, by omega, by decide⟩, ⟨by decide, by omega, by omega, by omega, hk⟩, vo_eq ?_⟩
    unfold lay1; rw [if_neg q]
theorem z_notesOf_loop {N : Nat} {h : Int} {M : Mm} (hh : h = 0 ∨ h = 1) : ∀ (n i : Nat), i + n = 30 → AJ 0 0 0 mM_notesOf (Pu (S0 N) M (cnt (fK M h) 30)) 0 0 4 [some (.inr 24), some (.inl h), some (.inl (cnt (fK M h) i)), some (.inl i)] [] (S0 N) M := by
  intro n
  induction n with
  | zero =>
    intro i hi
    have : i = 30 := by omega
    subst this
    refine aM_notesOf [4] 30 (fun hM => ?_)
    exact ⟨by decide, pu_eq rfl⟩
  | succ n ih =>
    intro i hi
    have hr := cnt_rng (fK M h) i
    refine aM_notesOf [4] 30 (fun hM => ?_)
    refine ⟨by omega, ite_i (fun q => ?_) (fun q => by omega)⟩
    refine ⟨by omega, ⟨hM _ _, by decide⟩, ite_i (fun q => ?_) (fun q => ?_)⟩
    · have e : cnt (fK M h) (i + 1) = cnt (fK M h) i + 0 := by
        show cnt (fK M h) i + (if fK M h i = -9 then 0 else 1) = _
        rw [if_pos q]
      have := ih (i + 1) (by omega)
      rw [e] at this
      exact this
    · have e : cnt (fK M h) (i + 1) = cnt (fK M h) i + 1 := by
        show cnt (fK M h) i + (if fK M h i = -9 then 0 else 1) = _
        rw [if_neg q]
      have := ih (i + 1) (by omega)
      rw [e] at this
      exact this
theorem z_notesOf {N : Nat} {h : Int} {M : Mm} (hh : h = 0 ∨ h = 1) : Ret 0 0 0 mM_notesOf [.inr 24, .inl h] (S0 N) M (Pu (S0 N) M (cnt (fK M h) 30)) := by
  refine eM_notesOf [4] 30 (Nat.le_of_ble_eq_true rfl) (fun hM => ?_)
  exact z_notesOf_loop hh 30 0 rfl
theorem z_isNote {N : Nat} {h k : Int} {M : Mm} (hh : h = 0 ∨ h = 1) (hk : R32 k) : Ret 1 0 0 mM_isNote [.inr 24, .inl h, .inl k] (S0 N) M (Pu (S0 N) M (bi (0 ≤ k ∧ k < cnt (fK M h) 30))) := by
  have hr := cnt_rng (fK M h) 30
  refine eM_isNote [] 30 (Nat.le_of_ble_eq_true rfl) (fun hM => ?_)
  refine CL.pu (z_notesOf hh) (Nat.le_of_ble_eq_true rfl) ?_
  refine CL.pu (z_within hk (by decide) (by omega)) (Nat.le_of_ble_eq_true rfl) ⟨bi01, pu_eq (pu_bi (S := []) (M := M) (by omega))⟩
