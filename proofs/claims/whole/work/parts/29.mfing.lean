/-! ===== the least finger that reaches a value ===== -/
def Fst (φ : Int → Int) (v g : Int) : Prop := 1 ≤ g ∧ g ≤ 5 ∧ φ g = v ∧ ∀ i, 1 ≤ i → i < g → φ i ≠ v
theorem Fst.uniq {φ : Int → Int} {v g g' : Int} (h : Fst φ v g) (h' : Fst φ v g') : g = g' := by
  rcases Int.lt_trichotomy g g' with q | q | q
  · exact absurd h.2.2.1 (h'.2.2.2 g h.1 q)
  · exact q
  · exact absurd h'.2.2.1 (h.2.2.2 g' h'.1 q)
theorem Fst.congr {φ ψ : Int → Int} {v g : Int} (h : Fst φ v g) (he : ∀ g, 1 ≤ g → g ≤ 5 → φ g = ψ g) : Fst ψ v g := ⟨h.1, h.2.1, by rw [← he g h.1 h.2.1]; exact h.2.2.1, fun i h1 h2 => by rw [← he i h1 (by have := h.2.1; omega)]; exact h.2.2.2 i h1 h2⟩
theorem Fst.of {φ : Int → Int} {v g : Int} (h0 : 1 ≤ g) (h1 : g ≤ 5) (h : φ g = v) : ∃ g', Fst φ v g' := by
  by_cases c1 : φ 1 = v
  · exact ⟨1, by omega, by omega, c1, fun i h1 h2 => by omega⟩
  by_cases c2 : φ 2 = v
  · exact ⟨2, by omega, by omega, c2, fun i h1 h2 => by rw [show i = 1 by omega]; exact c1⟩
  by_cases c3 : φ 3 = v
  · refine ⟨3, by omega, by omega, c3, fun i h1 h2 => ?_⟩
    rcases (show i = 1 ∨ i = 2 by omega) with rfl | rfl <;> assumption
  by_cases c4 : φ 4 = v
  · refine ⟨4, by omega, by omega, c4, fun i h1 h2 => ?_⟩
    rcases (show i = 1 ∨ i = 2 ∨ i = 3 by omega) with rfl | rfl | rfl <;> assumption
  · have : g = 5 := by
      rcases (show g = 1 ∨ g = 2 ∨ g = 3 ∨ g = 4 ∨ g = 5 by omega) with rfl | rfl | rfl | rfl | rfl
      · exact absurd h c1
      · exact absurd h c2
      · exact absurd h c3
      · exact absurd h c4
      · rfl
    subst this
    refine ⟨5, by omega, by omega, h, fun i h1 h2 => ?_⟩
    rcases (show i = 1 ∨ i = 2 ∨ i = 3 ∨ i = 4 by omega) with rfl | rfl | rfl | rfl <;> assumption
theorem mfr_at {φ : Int → Int} : ∀ (n : Nat) (g l : Int), mfr φ n g l = l ∨ ∃ i, g ≤ i ∧ i < g + n ∧ φ i = mfr φ n g l := by
  intro n
  induction n with
  | zero => intro g l; exact Or.inl rfl
  | succ n ih =>
    intro g l
    unfold mfr
    rcases ih (g + 1) (mn (φ g) l) with h | ⟨i, h1, h2, h3⟩
    · rw [h]
      unfold mn
      split
      · right; exact ⟨g, by omega, by omega, rfl⟩
      · left; rfl
    · right; exact ⟨i, by omega, by omega, h3⟩
theorem m5_at {φ : Int → Int} (h : m5 φ < 1000000) : ∃ g, Fst φ (m5 φ) g := by
  rcases mfr_at (φ := φ) 5 1 1000000 with q | ⟨i, h1, h2, h3⟩
  · unfold m5 at h; omega
  · exact Fst.of h1 (by omega) h3
theorem mfr_le {φ : Int → Int} : ∀ (n : Nat) (g l : Int), mfr φ n g l ≤ l ∧ ∀ i, g ≤ i → i < g + n → mfr φ n g l ≤ φ i := by
  intro n
  induction n with
  | zero => intro g l; exact ⟨Int.le_refl _, fun i h1 h2 => by omega⟩
  | succ n ih =>
    intro g l
    unfold mfr
    obtain ⟨h1, h2⟩ := ih (g + 1) (mn (φ g) l)
    have h3 : mn (φ g) l ≤ l ∧ mn (φ g) l ≤ φ g := by unfold mn; split <;> omega
    refine ⟨by omega, fun i q1 q2 => ?_⟩
    by_cases hi : i = g
    · subst hi; omega
    · exact h2 i (by omega) (by omega)
theorem m5_le {φ : Int → Int} {g : Int} (h1 : 1 ≤ g) (h2 : g ≤ 5) : m5 φ ≤ φ g := (mfr_le 5 1 1000000).2 g h1 (by omega)
/-! ===== the best row, said of any fingers p ===== -/
def rowT (M : Mm) (p : Int → Int) (lo : Int) : Prop := ∀ k, lo ≤ k → k < M 24 7 - 1 → Fst (fun g => goM M k (p k) g + rsT M (k + 1) g) (rsT M k (p k)) (p (k + 1))
def BR (M : Mm) (p : Int → Int) : Prop := Fst (stC M) (tot M) (p 0) ∧ (M 24 12 = 0 → rowT M p 0) ∧
  (0 < M 24 12 → (∀ k, 0 ≤ k → k < M 24 10 → Fst (fun g => goM M k (p k) g + rsH M (k + 1) g) (rsH M k (p k)) (p (k + 1))) ∧
    (∀ k, 0 ≤ k → k < M 24 12 - 1 → Fst (fun g => jsM M k (p (M 24 10 + k)) g + jtX M (p (M 24 10)) (k + 1) g) (jtX M (p (M 24 10)) k (p (M 24 10 + k))) (p (M 24 10 + k + 1))) ∧
    (∀ k, M 24 10 + M 24 12 - 1 ≤ k → k < M 24 11 - 1 → Fst (fun g => goM M k (p k) g + rsX M (p (M 24 10)) (k + 1) g) (rsX M (p (M 24 10)) k (p k)) (p (k + 1))) ∧
    (∀ k, 0 ≤ k → k < M 24 12 → p (M 24 11 + k) = p (M 24 10 + k)) ∧ rowT M p (M 24 11 + M 24 12 - 1))
theorem chain_uniq {p p' : Int → Int} {lo hi : Int} {φ : Int → Int → Int → Int} {v : Int → Int → Int} (h0 : p lo = p' lo) (h : ∀ k, lo ≤ k → k < hi → Fst (φ k (p k)) (v k (p k)) (p (k + 1))) (h' : ∀ k, lo ≤ k → k < hi → Fst (φ k (p' k)) (v k (p' k)) (p' (k + 1))) : ∀ k, lo ≤ k → k ≤ hi → p k = p' k := by
  have key : ∀ n : Nat, lo + n ≤ hi → p (lo + n) = p' (lo + n) := by
    intro n
    induction n with
    | zero => intro _; simpa using h0
    | succ n ih =>
      intro hn
      have e := ih (by omega)
      have h1 := h (lo + n) (by omega) (by omega)
      have h2 := h' (lo + n) (by omega) (by omega)
      rw [← e] at h2
      have := h1.uniq h2
      rw [show lo + n + 1 = lo + ((n + 1 : Nat) : Int) by omega] at this
      exact this
  intro k h1 h2
  have := key (k - lo).toNat (by omega)
  rw [show lo + ((k - lo).toNat : Int) = k by omega] at this
  exact this
theorem BR.uniq {M : Mm} {p p' : Int → Int} (ht : M 24 12 = 0 ∨ TOk M) (h : BR M p) (h' : BR M p') : ∀ k, 0 ≤ k → k < M 24 7 → p k = p' k := by
  obtain ⟨a1, a2, a3⟩ := h
  obtain ⟨b1, b2, b3⟩ := h'
  have e0 := a1.uniq b1
  rcases ht with ht | ht
  · intro k h1 h2
    exact chain_uniq (lo := 0) (hi := M 24 7 - 1) (φ := fun k f g => goM M k f g + rsT M (k + 1) g) (v := fun k f => rsT M k f) e0 (a2 ht) (b2 ht) k h1 (by omega)
  · obtain ⟨t1, t2, t3, t4⟩ := id ht
    obtain ⟨c1, c2, c3, c4, c5⟩ := a3 t1
    obtain ⟨d1, d2, d3, d4, d5⟩ := b3 t1
    have s1 := chain_uniq (lo := 0) (hi := M 24 10) (φ := fun k f g => goM M k f g + rsH M (k + 1) g) (v := fun k f => rsH M k f) e0 c1 d1
    have ei := s1 (M 24 10) t2 (Int.le_refl _)
    have s2 := chain_uniq (p := fun k => p (M 24 10 + k)) (p' := fun k => p' (M 24 10 + k)) (lo := 0) (hi := M 24 12 - 1) (φ := fun k f g => jsM M k f g + jtX M (p (M 24 10)) (k + 1) g) (v := fun k f => jtX M (p (M 24 10)) k f) (by simpa using ei) (fun k q1 q2 => by have := c2 k q1 q2; rw [show M 24 10 + k + 1 = M 24 10 + (k + 1) by omega] at this; exact this) (fun k q1 q2 => by have := d2 k q1 q2; rw [← ei, show M 24 10 + k + 1 = M 24 10 + (k + 1) by omega] at this; exact this)
    have e2 := s2 (M 24 12 - 1) (by omega) (by omega)
    rw [show M 24 10 + (M 24 12 - 1) = M 24 10 + M 24 12 - 1 by omega] at e2
    have s3 := chain_uniq (lo := M 24 10 + M 24 12 - 1) (hi := M 24 11 - 1) (φ := fun k f g => goM M k f g + rsX M (p (M 24 10)) (k + 1) g) (v := fun k f => rsX M (p (M 24 10)) k f) e2 c3 (fun k q1 q2 => by have := d3 k q1 q2; rw [← ei] at this; exact this)
    have s4 : ∀ k, 0 ≤ k → k < M 24 12 → p (M 24 11 + k) = p' (M 24 11 + k) := fun k q1 q2 => by rw [c4 k q1 q2, d4 k q1 q2]; exact s2 k q1 (by omega)
    have e4 := s4 (M 24 12 - 1) (by omega) (by omega)
    rw [show M 24 11 + (M 24 12 - 1) = M 24 11 + M 24 12 - 1 by omega] at e4
    have s5 := chain_uniq (lo := M 24 11 + M 24 12 - 1) (hi := M 24 7 - 1) (φ := fun k f g => goM M k f g + rsT M (k + 1) g) (v := fun k f => rsT M k f) e4 c5 d5
    intro k h1 h2
    by_cases k1 : k ≤ M 24 10
    · exact s1 k h1 k1
    by_cases k2 : k ≤ M 24 10 + M 24 12 - 1
    · have := s2 (k - M 24 10) (by omega) (by omega)
      rw [show M 24 10 + (k - M 24 10) = k by omega] at this
      exact this
    by_cases k3 : k ≤ M 24 11 - 1
    · exact s3 k (by omega) k3
    by_cases k4 : k ≤ M 24 11 + M 24 12 - 1
    · have := s4 (k - M 24 11) (by omega) (by omega)
      rw [show M 24 11 + (k - M 24 11) = k by omega] at this
      exact this
    · exact s5 k (by omega) (by omega)
section Fing
variable {N : Nat} {M0 M : Mm}
theorem z_fb_loop {k f gs : Int} (hA : Agr M0 M) (hL : LOk M0) (h0 : 0 ≤ k) (h1 : k + 1 < M0 24 7) (hf0 : 1 ≤ f) (hf1 : f ≤ 5) (hB : ∀ g, 1 ≤ g → g ≤ 5 → 0 ≤ aft M (k + 1) g ∧ aft M (k + 1) g ≤ 2000000) (hv : R32 (aft M k f)) (hF : Fst (fun g => goM M0 k f g + aft M (k + 1) g) (aft M k f) gs) :
    ∀ (n : Nat) (g : Int), g + n = gs → 1 ≤ g → AJ 4 0 0 mM_fingerBehind (Pu (S0 N) M gs) 0 0 2 [some (.inr 24), some (.inl k), some (.inl f), some (.inl g)] [] (S0 N) M := by
  intro n
  have l4 := hL.2.2.2.1
  obtain ⟨g0, g1, g2, g3⟩ := hF
  induction n with
  | zero =>
    intro g hg hg0
    have : g = gs := by omega
    subst this
    have hgo := goM_rng hL.1 (k := k) hf0 hf1 g0 g1
    have hb := hB g g0 g1
    refine aM_fingerBehind [] 30 (fun hM => ?_)
    refine CL.pu (z_goingOn hA hL h0 h1 hf0 hf1 g0 g1) (Nat.le_of_ble_eq_true rfl) ?_
    refine CL.pu (z_after (by omega) (by omega) g0 g1) (Nat.le_of_ble_eq_true rfl) ?_
    refine CL.pu (z_after (by omega) (by omega) hf0 hf1) (Nat.le_of_ble_eq_true rfl) ?_
    exact ⟨⟨by omega, hv⟩, ite_i (fun q => pu_eq rfl) (fun q => absurd g2 q)⟩
  | succ n ih =>
    intro g hg hg0
    have hgo := goM_rng hL.1 (k := k) hf0 hf1 hg0 (show g ≤ 5 by omega)
    have hb := hB g hg0 (by omega)
    refine aM_fingerBehind [2] 30 (fun hM => ?_)
    refine CL.pu (z_goingOn hA hL h0 h1 hf0 hf1 hg0 (by omega)) (Nat.le_of_ble_eq_true rfl) ?_
    refine CL.pu (z_after (by omega) (by omega) hg0 (by omega)) (Nat.le_of_ble_eq_true rfl) ?_
    refine CL.pu (z_after (by omega) (by omega) hf0 hf1) (Nat.le_of_ble_eq_true rfl) ?_
    exact ⟨⟨by omega, hv⟩, ite_i (fun q => absurd q (g3 g hg0 (by omega))) (fun q => ih (g + 1) (by omega) (by omega))⟩
theorem z_fingerBehind {k f gs : Int} (hA : Agr M0 M) (hL : LOk M0) (h0 : 0 ≤ k) (h1 : k + 1 < M0 24 7) (hf0 : 1 ≤ f) (hf1 : f ≤ 5) (hB : ∀ g, 1 ≤ g → g ≤ 5 → 0 ≤ aft M (k + 1) g ∧ aft M (k + 1) g ≤ 2000000) (hv : R32 (aft M k f)) (hF : Fst (fun g => goM M0 k f g + aft M (k + 1) g) (aft M k f) gs) : Ret 4 0 0 mM_fingerBehind [.inr 24, .inl k, .inl f] (S0 N) M (Pu (S0 N) M gs) := by
  have := hF.1
  refine eM_fingerBehind [2] 30 (Nat.le_of_ble_eq_true rfl) (fun hM => ?_)
  exact z_fb_loop hA hL h0 h1 hf0 hf1 hB hv hF (gs - 1).toNat 1 (by omega) (by omega)
theorem z_jb_loop {k f gs : Int} (hA : Agr M0 M) (hT : TOk M0) (hL : LOk M0) (h0 : 0 ≤ k) (h1 : k + 1 < M0 24 12) (hf0 : 1 ≤ f) (hf1 : f ≤ 5) (hB : ∀ g, 1 ≤ g → g ≤ 5 → 0 ≤ M 36 (6 * (k + 1) + g) ∧ M 36 (6 * (k + 1) + g) ≤ 1000000) (hF : Fst (fun g => jsM M0 k f g + M 36 (6 * (k + 1) + g)) (M 36 (6 * k + f)) gs) :
    ∀ (n : Nat) (g : Int), g + n = gs → 1 ≤ g → AJ 5 0 0 mM_jointBehind (Pu (S0 N) M gs) 0 0 2 [some (.inr 24), some (.inl k), some (.inl f), some (.inl g)] [] (S0 N) M := by
  intro n
  have l4 := hL.2.2.2.1
  obtain ⟨t1, t2, t3, t4⟩ := id hT
  obtain ⟨g0, g1, g2, g3⟩ := hF
  induction n with
  | zero =>
    intro g hg hg0
    have : g = gs := by omega
    subst this
    have hgo := jsM_rng hL.1 (k := k) hf0 hf1 g0 g1
    have hb := hB g g0 g1
    refine aM_jointBehind [] 30 (fun hM => ?_)
    refine CL.pu (z_jointStep hA hT hL h0 h1 hf0 hf1 g0 g1) (Nat.le_of_ble_eq_true rfl) ?_
    exact ⟨by omega, by omega, ⟨by omega, hM _ _⟩, ite_i (fun q => pu_eq rfl) (fun q => absurd g2 q)⟩
  | succ n ih =>
    intro g hg hg0
    have hgo := jsM_rng hL.1 (k := k) hf0 hf1 hg0 (show g ≤ 5 by omega)
    have hb := hB g hg0 (by omega)
    refine aM_jointBehind [2] 30 (fun hM => ?_)
    refine CL.pu (z_jointStep hA hT hL h0 h1 hf0 hf1 hg0 (by omega)) (Nat.le_of_ble_eq_true rfl) ?_
    exact ⟨by omega, by omega, ⟨by omega, hM _ _⟩, ite_i (fun q => absurd q (g3 g hg0 (by omega))) (fun q => ih (g + 1) (by omega) (by omega))⟩
theorem z_jointBehind {k f gs : Int} (hA : Agr M0 M) (hT : TOk M0) (hL : LOk M0) (h0 : 0 ≤ k) (h1 : k + 1 < M0 24 12) (hf0 : 1 ≤ f) (hf1 : f ≤ 5) (hB : ∀ g, 1 ≤ g → g ≤ 5 → 0 ≤ M 36 (6 * (k + 1) + g) ∧ M 36 (6 * (k + 1) + g) ≤ 1000000) (hF : Fst (fun g => jsM M0 k f g + M 36 (6 * (k + 1) + g)) (M 36 (6 * k + f)) gs) : Ret 5 0 0 mM_jointBehind [.inr 24, .inl k, .inl f] (S0 N) M (Pu (S0 N) M gs) := by
  have := hF.1
  refine eM_jointBehind [2] 30 (Nat.le_of_ble_eq_true rfl) (fun hM => ?_)
  exact z_jb_loop hA hT hL h0 h1 hf0 hf1 hB hF (gs - 1).toNat 1 (by omega) (by omega)
end Fing
