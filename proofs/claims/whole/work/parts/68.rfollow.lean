/-! ===== the class: follow ===== -/
/-- the first finger that costs the least -/
def chz (φ : Int → Int) : Nat → Int → Int → Int → Int
  | 0, _, _, c => c
  | n + 1, g, l, c => if φ g < l then chz φ n (g + 1) (φ g) g else chz φ n (g + 1) l c
def cho (φ : Int → Int) : Int := chz φ 5 1 100000 1
theorem chz_rng {φ : Int → Int} : ∀ (n : Nat) (g l c : Int), 1 ≤ g → g + n = 6 → 1 ≤ c → c ≤ 5 → 1 ≤ chz φ n g l c ∧ chz φ n g l c ≤ 5 := by
  intro n
  induction n with
  | zero => intro g l c _ _ h1 h2; exact ⟨h1, h2⟩
  | succ n ih =>
    intro g l c hg hn h1 h2
    unfold chz
    split
    · exact ih _ _ _ (by omega) (by omega) (by omega) (by omega)
    · exact ih _ _ _ (by omega) (by omega) h1 h2
def flV (M : Mm) (m g : Int) : Int := (if m = 0 then 0 else M 15 (25 * (m - 1) + 5 * (M 18 (m - 1) + 1) + g - 6)) + M 16 (5 * m + g - 1)
def fl1 (M : Mm) (m : Int) : Mm := mset M 18 m (cho (flV M m) - 1)
def flw : Nat → Int → Mm → Mm
  | 0, _, M => M
  | n + 1, m, M => flw n (m + 1) (fl1 M m)
section Rfo
variable {N : Nat} {M : Mm}
theorem t_follow_in {fr to m : Int} {Φ : Option Vl → Ly → Mm → Prop} (h0 : 0 ≤ m) (h1 : m < 30) (hr : m ≠ 0 → 0 ≤ M 18 (m - 1) ∧ M 18 (m - 1) ≤ 4) (hB : ∀ g, 1 ≤ g → g ≤ 5 → (m ≠ 0 → 0 ≤ M 15 (25 * (m - 1) + 5 * (M 18 (m - 1) + 1) + g - 6) ∧ M 15 (25 * (m - 1) + 5 * (M 18 (m - 1) + 1) + g - 6) ≤ 10000000) ∧ 0 ≤ M 16 (5 * m + g - 1) ∧ M 16 (5 * m + g - 1) ≤ 10000000)
    (kk : AJ 3 0 0 mR_follow Φ 0 0 2 [some (.inr 13), some (.inl fr), some (.inl to), some (.inl (m + 1))] [] (S0 N) (fl1 M m)) : ∀ (n : Nat) (g l c : Int) (L7 L8 : Option Vl), 0 ≤ g → g + n = 5 → 0 ≤ l → l ≤ 100000 → 0 ≤ c → c ≤ 4 → chz (flV M m) n (g + 1) l (c + 1) = cho (flV M m) → AJ 3 0 0 mR_follow Φ 0 0 17 [some (.inr 13), some (.inl fr), some (.inl to), some (.inl m), some (.inl l), some (.inl c), some (.inl g), L7, L8] [] (S0 N) M := by
  intro n
  induction n with
  | zero =>
    intro g l c L7 L8 g0 gn l0 l1 c0 c1 e
    have : g = 5 := by omega
    subst this
    have e' : c + 1 = cho (flV M m) := e
    refine aR_follow [2] 40 (fun hM => ?_)
    refine ⟨by decide, CL.vo (t_store (n := 30) rfl (by decide) (by omega) (by omega) (Nat.le_of_ble_eq_true rfl) (by omega)) (Nat.le_of_ble_eq_true rfl) (fun hM2 => ?_)⟩
    have em : mset M 18 m c = fl1 M m := by unfold fl1; rw [← e', show c + 1 - 1 = c by omega]
    rw [em]
    exact AJ.wk kk ⟨rfl, rfl, rfl, rfl, trivial⟩
  | succ n ih =>
    intro g l c L7 L8 g0 gn l0 l1 c0 c1 e
    have e' : (if flV M m (g + 1) < l then chz (flV M m) n (g + 1 + 1) (flV M m (g + 1)) (g + 1) else chz (flV M m) n (g + 1 + 1) l (c + 1)) = cho (flV M m) := e
    have b := hB (g + 1) (by omega) (by omega)
    have ef : flV M m (g + 1) = (if m = 0 then 0 else M 15 (25 * (m - 1) + 5 * (M 18 (m - 1) + 1) + (g + 1) - 6)) + M 16 (5 * m + (g + 1) - 1) := rfl
    have e16 : M 16 (m * 5 + g) = M 16 (5 * m + (g + 1) - 1) := by rw [show m * 5 + g = 5 * m + (g + 1) - 1 by omega]
    have tail : ∀ s : Int, s + M 16 (m * 5 + g) = flV M m (g + 1) → 0 ≤ s → s ≤ 10000000 → AJ 3 0 0 mR_follow Φ 0 0 59 [some (.inr 13), some (.inl fr), some (.inl to), some (.inl m), some (.inl l), some (.inl c), some (.inl g), L7, L8] [.inl s] (S0 N) M := by
      intro s hs s0 s1
      refine aR_follow [17] 40 (fun hM => ?_)
      refine CL.pu (t_at (n := 150) rfl (by omega) (by omega) (Nat.le_of_ble_eq_true rfl)) (Nat.le_of_ble_eq_true rfl) ?_
      refine ⟨by omega, ite_i (fun q => ?_) (fun q => ?_)⟩
      · rw [if_pos (by omega)] at e'
        exact ih (g + 1) _ g _ _ (by omega) (by omega) (by omega) (by omega) (by omega) (by omega) (by rw [hs]; exact e')
      · rw [if_neg (by omega)] at e'
        exact ih (g + 1) l c _ _ (by omega) (by omega) l0 l1 c0 c1 e'
    refine aR_follow [59] 40 (fun hM => ?_)
    refine ⟨by omega, ite_i (fun _ => ?_) (fun q => by omega)⟩
    refine ⟨by omega, ite_i (fun q => ?_) (fun q => ?_)⟩
    · exact tail 0 (by rw [ef, if_pos q, e16]) (by omega) (by omega)
    · have r := hr q
      have b1 := b.1 q
      have e15 : M 15 (((m - 1) * 5 + M 18 (m - 1)) * 5 + g) = M 15 (25 * (m - 1) + 5 * (M 18 (m - 1) + 1) + (g + 1) - 6) := by rw [show ((m - 1) * 5 + M 18 (m - 1)) * 5 + g = 25 * (m - 1) + 5 * (M 18 (m - 1) + 1) + (g + 1) - 6 by omega]
      refine CL.pu (t_at (n := 30) rfl (by omega) (by omega) (Nat.le_of_ble_eq_true rfl)) (Nat.le_of_ble_eq_true rfl) (CL.pu (t_at (n := 750) rfl (by omega) (by omega) (Nat.le_of_ble_eq_true rfl)) (Nat.le_of_ble_eq_true rfl) ?_)
      exact tail _ (by rw [ef, if_neg q, e15, e16]) (by omega) (by omega)
/-- costs are small where follow looks -/
def FwB (M : Mm) (fr to : Int) : Prop := (∀ m g, fr ≤ m → m ≤ to → 1 ≤ g → g ≤ 5 → 0 ≤ M 16 (5 * m + g - 1) ∧ M 16 (5 * m + g - 1) ≤ 10000000) ∧ (∀ m f g, fr ≤ m → m ≤ to → m ≠ 0 → 1 ≤ f → f ≤ 5 → 1 ≤ g → g ≤ 5 → 0 ≤ M 15 (25 * (m - 1) + 5 * f + g - 6) ∧ M 15 (25 * (m - 1) + 5 * f + g - 6) ≤ 10000000) ∧ (fr ≠ 0 → 0 ≤ M 18 (fr - 1) ∧ M 18 (fr - 1) ≤ 4)
theorem FwB.step {fr to : Int} (h : FwB M fr to) : FwB (fl1 M fr) (fr + 1) to := by
  obtain ⟨a, b, c⟩ := h
  refine ⟨fun m g q1 q2 q3 q4 => ?_, fun m f g q1 q2 q3 q4 q5 q6 q7 => ?_, fun _ => ?_⟩
  · unfold fl1; rw [mset_ne (by omega)]; exact a m g (by omega) q2 q3 q4
  · unfold fl1; rw [mset_ne (by omega)]; exact b m f g (by omega) q2 q3 q4 q5 q6 q7
  · have r := chz_rng (φ := flV M fr) 5 1 100000 1 (by omega) (by omega) (by omega) (by omega)
    have e : fl1 M fr 18 (fr + 1 - 1) = cho (flV M fr) - 1 := by rw [show fr + 1 - 1 = fr by omega]; exact mset_eq ..
    rw [e]
    unfold cho
    omega
theorem t_follow_loop {x to : Int} {Φ : Option Vl → Ly → Mm → Prop} (h1 : to < 30) : ∀ (n : Nat) (fr : Int) (M : Mm), 0 ≤ fr → fr + n = to + 1 → FwB M fr to → Φ none (S0 N) (flw n fr M) → AJ 3 0 0 mR_follow Φ 0 0 2 [some (.inr 13), some (.inl x), some (.inl to), some (.inl fr)] [] (S0 N) M := by
  intro n
  induction n with
  | zero =>
    intro fr M h0 hn hB kk
    refine aR_follow [] 30 (fun hM => ?_)
    exact ⟨by omega, ite_i (fun _ => kk) (fun q => by omega)⟩
  | succ n ih =>
    intro fr M h0 hn hB kk
    have h2 := ih (fr + 1) (fl1 M fr) (by omega) (by omega) hB.step kk
    have k17 := t_follow_in (N := N) (fr := x) (to := to) (m := fr) (Φ := Φ) h0 (by omega) hB.2.2 (fun g g1 g2 => ⟨fun q => by
      have r := hB.2.2 q
      exact hB.2.1 fr (M 18 (fr - 1) + 1) g (Int.le_refl _) (by omega) q (by omega) (by omega) g1 g2, hB.1 fr g (Int.le_refl _) (by omega) g1 g2⟩) h2 5 0 100000 0 none none (by omega) (by omega) (by omega) (by omega) (by omega) (by omega) rfl
    refine aR_follow [17] 30 (fun hM => ?_)
    refine ⟨by omega, ite_i (fun q => by omega) (fun _ => ?_)⟩
    exact AJ.wk k17 ⟨rfl, rfl, rfl, rfl, rfl, rfl, rfl, trivial⟩
theorem t_follow {fr to : Int} (h0 : 0 ≤ fr) (h1 : to < 30) (ht : fr ≤ to + 1) (hB : FwB M fr to) : Ret 3 0 0 mR_follow [.inr 13, .inl fr, .inl to] (S0 N) M (Vo (S0 N) (flw (to + 1 - fr).toNat fr M)) := by
  refine eR_follow [2] 30 (Nat.le_of_ble_eq_true rfl) (fun hM => ?_)
  exact t_follow_loop h1 (to + 1 - fr).toNat fr M h0 (by omega) hB (vo_eq rfl)
end Rfo
