/-! ===== the fingers that follow chooses are the reference's ===== -/
theorem chz_fst {K : Int} (hK : K < 100000) {φ ψ : Int → Int} (h : ∀ g, 1 ≤ g → g ≤ 5 → FQ K (φ g) (ψ g)) : ∀ (n : Nat) (g l c r : Int), 1 ≤ g → g + n = 6 → (∀ i, 1 ≤ i → i < g → r ≤ ψ i) → ((l = r ∧ 0 ≤ r ∧ r ≤ K ∧ 1 ≤ c ∧ c < g ∧ ψ c = r ∧ ∀ i, 1 ≤ i → i < c → r < ψ i) ∨ (l = 100000 ∧ r = 1000000)) → mfr ψ n g r < 1000000 → Fst ψ (mfr ψ n g r) (chz φ n g l c) := by
  intro n
  induction n with
  | zero =>
    intro g l c r g1 gn ha hs hm
    have hm' : r < 1000000 := hm
    rcases hs with ⟨rfl, r0, rK, c1, cg, e, hl⟩ | ⟨_, e⟩
    · exact ⟨c1, by show c ≤ 5; omega, e, fun i i1 i2 => by have := hl i i1 i2; show ψ i ≠ l; omega⟩
    · omega
  | succ n ih =>
    intro g l c r g1 gn ha hs hm
    have q := h g g1 (by omega)
    unfold chz
    unfold mfr at hm ⊢
    by_cases x : φ g < l
    · rw [if_pos x]
      have e : φ g = ψ g ∧ ψ g < r ∧ 0 ≤ ψ g ∧ ψ g ≤ K := by unfold FQ at q; omega
      have em : mn (ψ g) r = ψ g := by unfold mn; rw [if_pos e.2.1]
      rw [em] at hm ⊢
      refine ih (g + 1) (φ g) g (ψ g) (by omega) (by omega) (fun i i1 i2 => ?_) (Or.inl ⟨e.1, e.2.2.1, e.2.2.2, g1, by omega, rfl, fun i i1 i2 => ?_⟩) hm
      · by_cases hi : i = g
        · subst hi; omega
        · have := ha i i1 (by omega); omega
      · have := ha i i1 (by omega); omega
    · rw [if_neg x]
      have e : ¬ ψ g < r := by unfold FQ at q; omega
      have em : mn (ψ g) r = r := by unfold mn; rw [if_neg e]
      rw [em] at hm ⊢
      refine ih (g + 1) l c r (by omega) (by omega) (fun i i1 i2 => ?_) ?_ hm
      · by_cases hi : i = g
        · subst hi; omega
        · exact ha i i1 (by omega)
      · rcases hs with ⟨a, b, d, e1, f, g', h'⟩ | hs
        · exact Or.inl ⟨a, b, d, e1, by omega, g', h'⟩
        · exact Or.inr hs
theorem cho_fst {K : Int} (hK : K < 100000) {φ ψ : Int → Int} (h : ∀ g, 1 ≤ g → g ≤ 5 → FQ K (φ g) (ψ g)) (hm : m5 ψ < 1000000) : Fst ψ (m5 ψ) (cho φ) := chz_fst hK h 5 1 100000 1 1000000 (by omega) (by omega) (fun i i1 i2 => by omega) (Or.inr ⟨rfl, rfl⟩) hm
theorem flw_spec : ∀ (n : Nat) (fr : Int) (M : Mm), (∀ m, fr ≤ m → m < fr + n → (flw n fr M) 18 m = cho (flV (flw n fr M) m) - 1) ∧ ∀ c j, ¬ (c = 18 ∧ fr ≤ j ∧ j < fr + n) → (flw n fr M) c j = M c j := by
  intro n
  induction n with
  | zero => intro fr M; exact ⟨fun m q1 q2 => by omega, fun _ _ _ => rfl⟩
  | succ n ih =>
    intro fr M
    obtain ⟨a, b⟩ := ih (fr + 1) (fl1 M fr)
    have e : flw (n + 1) fr M = flw n (fr + 1) (fl1 M fr) := rfl
    rw [e]
    refine ⟨fun m q1 q2 => ?_, fun c j q => ?_⟩
    · by_cases hm : m = fr
      · subst hm
        rw [b 18 m (by omega)]
        have e1 : fl1 M m 18 m = cho (flV M m) - 1 := mset_eq ..
        rw [e1]
        have ef : flV (flw n (m + 1) (fl1 M m)) m = flV M m := by
          funext g
          unfold flV
          have o : ∀ c j, ¬ (c = 18 ∧ m ≤ j) → (flw n (m + 1) (fl1 M m)) c j = M c j := fun c j q => by
            rw [b c j (by omega)]; exact mset_ne (by omega)
          rw [o 18 (m - 1) (by omega), o 15 _ (by omega), o 16 _ (by omega)]
        rw [ef]
      · exact a m (by omega) (by omega)
    · rw [b c j (by omega)]; exact mset_ne (by omega)
/-- a stretch of the row -/
theorem chain_gen {A : Mm} {o lo hi K : Int} {w : Int → Int → Int → Int} {R : Int → Int → Int} {p : Int → Int} (hK : K < 100000) (ho : 0 ≤ o + lo)
    (hA : ∀ m, lo ≤ m → m < hi → A 18 (o + m + 1) = cho (flV A (o + m + 1)) - 1) (hp : ∀ m, lo ≤ m → m ≤ hi → p m = A 18 (o + m) + 1)
    (hw : ∀ m f g, lo ≤ m → m < hi → 1 ≤ f → f ≤ 5 → 1 ≤ g → g ≤ 5 → FQ K (A 15 (25 * (o + m) + 5 * f + g - 6) + A 16 (5 * (o + m + 1) + g - 1)) (w m f g + R (m + 1) g) ∧ 0 ≤ w m f g)
    (hR : ∀ m f, lo ≤ m → m < hi → 1 ≤ f → f ≤ 5 → R m f = m5 (fun g => w m f g + R (m + 1) g))
    (h0 : 1 ≤ p lo ∧ p lo ≤ 5) (h1 : R lo (p lo) < 1000000) :
    ∀ (d : Nat), lo + d ≤ hi → (1 ≤ p (lo + d) ∧ p (lo + d) ≤ 5 ∧ R (lo + d) (p (lo + d)) < 1000000) ∧ ∀ m, lo ≤ m → m < lo + d → Fst (fun g => w m (p m) g + R (m + 1) g) (R m (p m)) (p (m + 1)) := by
  intro d
  induction d with
  | zero => intro _; exact ⟨by rw [show lo + ((0 : Nat) : Int) = lo by omega]; exact ⟨h0.1, h0.2, h1⟩, fun m q1 q2 => by omega⟩
  | succ d ih =>
    intro hd
    obtain ⟨⟨p1, p2, p3⟩, q⟩ := ih (by omega)
    have em := hR (lo + d) (p (lo + d)) (by omega) (by omega) p1 p2
    rw [em] at p3
    have F := cho_fst hK (φ := flV A (o + (lo + d) + 1)) (ψ := fun g => w (lo + d) (p (lo + d)) g + R (lo + d + 1) g) (fun g g1 g2 => by
      have e := hp (lo + d) (by omega) (by omega)
      have hh := (hw (lo + d) (p (lo + d)) g (by omega) (by omega) p1 p2 g1 g2).1
      unfold flV
      rw [if_neg (by omega), show o + (lo + ↑d) + 1 - 1 = o + (lo + d) by omega, ← e]
      exact hh) p3
    have ep : p (lo + d + 1) = cho (flV A (o + (lo + d) + 1)) := by
      rw [hp (lo + d + 1) (by omega) (by omega), show o + (lo + (d : Int) + 1) = o + (lo + d) + 1 by omega, hA (lo + d) (by omega) (by omega)]
      omega
    rw [← ep, ← em] at F
    have F1 := F.2.2.1
    have w0 := (hw (lo + d) (p (lo + d)) (p (lo + d + 1)) (by omega) (by omega) p1 p2 F.1 F.2.1).2
    rw [← em] at p3
    rw [show lo + ((d + 1 : Nat) : Int) = lo + d + 1 by omega]
    refine ⟨⟨F.1, F.2.1, ?_⟩, fun m q1 q2 => ?_⟩
    · have F1' : w (lo + d) (p (lo + d)) (p (lo + d + 1)) + R (lo + d + 1) (p (lo + d + 1)) = R (lo + d) (p (lo + d)) := F1
      omega
    · by_cases hm : m = lo + d
      · subst hm; exact F
      · exact q m q1 (by omega)
