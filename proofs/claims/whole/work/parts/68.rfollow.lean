/-! ===== the class: follow ===== -/
/-- the first finger that costs the least -/
def chz (φ : Int → Int) : Nat → Int → Int → Int → Int
  | 0, _, _, c => c
  | n + 1, g, l, c => if φ g < l then chz φ n (g + 1) (φ g) g else chz φ n (g + 1) l c
def cho (φ : Int → Int) : Int := chz φ 5 1 100000 1
theorem chz_rng {φ : Int → Int} : ∀ (n : Nat) (g l c : Int), 1 ≤ g → g + n = 6 → 1 ≤ c → c ≤ 5 → 1 ≤ chz φ n g l c ∧ chz φ n g l c ≤ 5 := by
  intro n
  induction n with
  | zero => intro g l c _ _ h1 h2; exact ⟨h1, h2⟩
  | succ n ih =>
    intro g l c hg hn h1 h2
    unfold chz
    split
    · exact ih _ _ _ (by omega) (by omega) (by omega) (by omega)
    · exact ih _ _ _ (by omega) (by omega) h1 h2
def flV (M : Mm) (m g : Int) : Int := (if m = 0 then 0 else M 15 (25 * (m - 1) + 5 * (M 18 (m - 1) + 1) + g - 6)) + M 16 (5 * m + g - 1)
def fl1 (M : Mm) (m : Int) : Mm := mset M 18 m (cho (flV M m) - 1)
def flw : Nat → Int → Mm → Mm
  | 0, _, M => M
  | n + 1, m, M => flw n (m + 1) (fl1 M m)
section Rfo
variable {N : Nat} {M : Mm}
theorem t_follow_in {fr to m : Int} {Φ : Option Vl → Ly → Mm → Prop} (h0 : 0 ≤ m) (h1 : m < 30) (hr : m ≠ 0 → 0 ≤ M 18 (m - 1) ∧ M 18 (m - 1) ≤ 4) (hB : ∀ g, 1 ≤ g → g ≤ 5 → (m ≠ 0 → 0 ≤ M 15 (25 * (m - 1) + 5 * (M 18 (m - 1) + 1) + g - 6) ∧ M 15 (25 * (m - 1) + 5 * (M 18 (m - 1) + 1) + g - 6) ≤ 10000000) ∧ 0 ≤ M 16 (5 * m + g - 1) ∧ M 16 (5 * m + g - 1) ≤ 10000000)
    (kk : AJ 3 0 0 mR_follow Φ 0 0 2 [some (.inr 13), some (.inl fr), some (.inl to), some (.inl (m + 1))] [] (S0 N) (fl1 M m)) : ∀ (n : Nat) (g l c : Int) (L7 L8 : Option Vl), 0 ≤ g → g + n = 5 → 0 ≤ l → l ≤ 100000 → 0 ≤ c → c ≤ 4 → chz (flV M m) n (g + 1) l (c + 1) = cho (flV M m) → AJ 3 0 0 mR_follow Φ 0 0 17 [some (.inr 13), some (.inl fr), some (.inl to), some (.inl m), some (.inl l), some (.inl c), some (.inl g), L7, L8] [] (S0 N) M := by
  intro n
  induction n with
  | zero =>
    intro g l c L7 L8 g0 gn l0 l1 c0 c1 e
    have : g = 5 := by omega
    subst this
    have e' : c + 1 = cho (flV M m) := e
    refine aR_follow [2] 40 (fun hM => ?_)
    refine ⟨by decide, CL.vo (t_store (n := 30) rfl (by decide) (by omega) (by omega) (Nat.le_of_ble_eq_true rfl) (by omega)) (Nat.le_of_ble_eq_true rfl) (fun hM2 => ?_)⟩
    have em : mset M 18 m c = fl1 M m := by unfold fl1; rw [← e', show c + 1 - 1 = c by omega]
    rw [em]
    exact AJ.wk kk ⟨rfl, rfl, rfl, rfl, trivial⟩
  | succ n ih =>
    intro g l c L7 L8 g0 gn l0 l1 c0 c1 e
    have e' : (if flV M m (g + 1) < l then chz (flV M m) n (g + 1 + 1) (flV M m (g + 1)) (g + 1) else chz (flV M m) n (g + 1 + 1) l (c + 1)) = cho (flV M m) := e
    have b := hB (g + 1) (by omega) (by omega)
    have ef : flV M m (g + 1) = (if m = 0 then 0 else M 15 (25 * (m - 1) + 5 * (M 18 (m - 1) + 1) + (g + 1) - 6)) + M 16 (5 * m + (g + 1) - 1) := rfl
    have e16 : M 16 (m * 5 + g) = M 16 (5 * m + (g + 1) - 1) := by rw [show m * 5 + g = 5 * m + (g + 1) - 1 by omega]
    have tail : ∀ s : Int, s + M 16 (m * 5 + g) = flV M m (g + 1) → 0 ≤ s → s ≤ 10000000 → AJ 3 0 0 mR_follow Φ 0 0 59 [some (.inr 13), some (.inl fr), some (.inl to), some (.inl m), some (.inl l), some (.inl c), some (.inl g), L7, L8] [.inl s] (S0 N) M := by
      intro s hs s0 s1
      refine aR_follow [17] 40 (fun hM => ?_)
      refine CL.pu (t_at (n := 150) rfl (by omega) (by omega) (Nat.le_of_ble_eq_true rfl)) (Nat.le_of_ble_eq_true rfl) ?_
      refine ⟨by omega, ite_i (fun q => ?_) (fun q => ?_)⟩
      · rw [if_pos (by omega)] at e'
        exact ih (g + 1) _ g _ _ (by omega) (by omega) (by omega) (by omega) (by omega) (by omega) (by rw [hs]; exact e')
      · rw [if_neg (by omega)] at e'
        exact ih (g + 1) l c _ _ (by omega) (by omega) l0 l1 c0 c1 e'
    refine aR_follow [59] 40 (fun hM => ?_)
    refine ⟨by omega, ite_i (fun _ => ?_) (fun q => by omega)⟩
    refine ⟨by omega, ite_i (fun q => ?_) (fun q => ?_)⟩
    · exact tail 0 (by rw [ef, if_pos q, e16]) (by omega) (by omega)
    · have r := hr q
      have b1 := b.1 q
      have e15 : M 15 (((m - 1) * 5 + M 18 (m - 1)) * 5 + g) = M 15 (25 * (m - 1) + 5 * (M 18 (m - 1) + 1) + (g + 1) - 6) := by rw [show ((m - 1) * 5 + M 18 (m - 1)) * 5 + g = 25 * (m - 1) + 5 * (M 18 (m - 1) + 1) + (g + 1) - 6 by omega]
      refine CL.pu (t_at (n := 30) rfl (by omega) (by omega) (Nat.le_of_ble_eq_true rfl)) (Nat.le_of_ble_eq_true rfl) (CL.pu (t_at (n := 750) rfl (by omega) (by omega) (Nat.le_of_ble_eq_true rfl)) (Nat.le_of_ble_eq_true rfl) ?_)
      exact tail _ (by rw [ef, if_neg q, e15, e16]) (by omega) (by omega)
end Rfo
