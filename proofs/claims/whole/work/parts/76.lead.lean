/-! ===== leadTo, against the reference's tables ===== -/
section Ldf
variable {L A : Mm} {s : Int}
theorem c5_one {φ : Int → Int} {x : Int} (hs0 : 1 ≤ s) (hs1 : s ≤ 5) (h : ∀ g, 1 ≤ g → g ≤ 5 → φ g = if g = s then x else φ g) (hb : ∀ g, 1 ≤ g → g ≤ 5 → g ≠ s → 100000 ≤ φ g) : c5 φ = if x < 100000 then x else 100000 := by
  have e := h s hs0 hs1
  rw [if_pos rfl] at e
  have b1 := hb 1 (by omega) (by omega)
  have b2 := hb 2 (by omega) (by omega)
  have b3 := hb 3 (by omega) (by omega)
  have b4 := hb 4 (by omega) (by omega)
  have b5 := hb 5 (by omega) (by omega)
  rcases (show s = 1 ∨ s = 2 ∨ s = 3 ∨ s = 4 ∨ s = 5 by omega) with rfl | rfl | rfl | rfl | rfl
  all_goals
    unfold c5 cmf cmf cmf cmf cmf cmf
    simp only [Int.reduceAdd]
    omega
theorem ld_sw (hT : TOk L) (h30 : L 24 7 ≤ 30) (hF : FN L A) : SwB (ldM A s) (A 13 8 - 1) (A 13 7) := by
  obtain ⟨t1, t2, t3, t4⟩ := id hT
  obtain ⟨⟨e6, e789⟩, n1, n2, s1, s2, b1, b2⟩ := hF
  obtain ⟨e7, e8, e9⟩ := e789 t1
  refine ⟨fun m f q1 q2 f1 f2 => ?_, fun m f g q1 q2 q3 f1 f2 g1 g2 => ?_, fun q g g1 g2 => ?_⟩
  · unfold ldM; rw [wr_ne (by omega)]
    have := b1 m f (by omega) (by omega) f1 f2
    omega
  · unfold ldM; rw [wr_ne (by omega)]
    have := b2 m f g (by omega) (by omega) f1 f2 g1 g2
    omega
  · have e : ldM A s 16 (5 * (A 13 8 - 1 + 1) + g - 1) = if g = s then 0 else 100000 := by
      rw [show 5 * (A 13 8 - 1 + 1) + g - 1 = (5 * A 13 8 - 1) + g by omega]
      exact wr_eq g1 g2
    rw [e]
    split <;> omega
/-- the table that leadTo leaves -/
def lT (A : Mm) (s : Int) : Mm := swp (A 13 8 - A 13 7).toNat (A 13 8 - 1) (ldM A s)
theorem lT_o {c : Nat} {j : Int} (h : ¬ (c = 16 ∧ 5 * A 13 7 ≤ j ∧ j < 5 * (A 13 8 + 1))) (h78 : A 13 7 ≤ A 13 8) : lT A s c j = A c j := by
  unfold lT
  rw [(swp_spec _ _ _).2 c j (by omega)]
  unfold ldM
  exact wr_ne (by omega)
theorem lead_fq (hT : TOk L) (hI : RuI L) (h30 : L 24 7 ≤ 30) (hF : FN L A) (hs0 : 1 ≤ s) (hs1 : s ≤ 5) :
    (∀ m f, L 24 10 + L 24 12 - 1 ≤ m → m ≤ L 24 11 - 1 → 1 ≤ f → f ≤ 5 → FQ 2000 (cbV (lT A s) m f) (rsX L s m f)) ∧
    (∀ m f, L 24 10 + L 24 12 ≤ m → m ≤ L 24 11 - 1 → 1 ≤ f → f ≤ 5 → FQ 2000 (lT A s 16 (5 * m + f - 1)) (nk L m f + rsX L s m f)) ∧
    (∀ u f, 0 ≤ u → u < L 24 12 → 1 ≤ f → f ≤ 5 → FQ 5000 (lT A s 16 (5 * (L 24 10 + u) + f - 1)) (nk L (L 24 10 + u) f + nk L (L 24 11 + u) f + jtX L s u f)) := by
  obtain ⟨t1, t2, t3, t4⟩ := id hT
  obtain ⟨⟨e6, e789⟩, n1, n2, s1, s2, b1, b2⟩ := id hF
  obtain ⟨e7, e8, e9⟩ := e789 t1
  have sp := swp_spec (A 13 8 - A 13 7).toNat (A 13 8 - 1) (ldM A s)
  have o6 : lT A s 13 6 = L 24 7 := by rw [lT_o (by omega) (by omega)]; exact e6
  have o15 : ∀ j, lT A s 15 j = A 15 j := fun j => lT_o (by omega) (by omega)
  have tb : ∀ m f, L 24 10 ≤ m → m ≤ L 24 11 - 1 → 1 ≤ f → f ≤ 5 → lT A s 16 (5 * m + f - 1) = A 14 (5 * m + f - 1) + cbV (lT A s) m f := fun m f q1 q2 f1 f2 => by
    have := sp.1 m f (by omega) (by omega) f1 f2
    unfold ldM at this
    rw [wr_ne (by omega)] at this
    exact this
  have tj : ∀ g, 1 ≤ g → g ≤ 5 → lT A s 16 (5 * L 24 11 + g - 1) = if g = s then 0 else 100000 := fun g g1 g2 => by
    unfold lT
    rw [sp.2 16 _ (by omega)]
    unfold ldM
    rw [show 5 * L 24 11 + g - 1 = (5 * A 13 8 - 1) + g by omega]
    exact wr_eq g1 g2
  have X : ∀ (d : Nat) (m : Int), L 24 10 + L 24 12 - 1 ≤ m → m + d = L 24 11 - 1 → ∀ f, 1 ≤ f → f ≤ 5 → FQ (25 + 45 * d) (cbV (lT A s) m f) (rsX L s m f) := by
    intro d
    induction d with
    | zero =>
      intro m q1 q2 f f1 f2
      have : m = L 24 11 - 1 := by omega
      subst this
      have st := s1 (L 24 11 - 1) f s (by omega) (by omega) f1 f2 hs0 hs1 (by omega)
      have ex : rsX L s (L 24 11 - 1) f = stM L (L 24 11 - 1) f s := by unfold rsX; rw [bz_e]
      rw [ex]
      have ec : cbV (lT A s) (L 24 11 - 1) f = c5 (fun g => A 15 (25 * (L 24 11 - 1) + 5 * f + g - 6) + (if g = s then 0 else 100000)) := by
        unfold cbV
        rw [o6, if_pos (by omega)]
        exact c5_congr (fun g g1 g2 => by rw [o15, show 5 * (L 24 11 - 1 + 1) + g - 1 = 5 * L 24 11 + g - 1 by omega, tj g g1 g2])
      rw [ec, c5_one hs0 hs1 (x := A 15 (25 * (L 24 11 - 1) + 5 * f + s - 6)) (fun g g1 g2 => by
        by_cases q : g = s
        · subst q; rw [if_pos rfl, if_pos rfl, Int.add_zero]
        · rw [if_neg q, if_neg q]) (fun g g1 g2 q => by
        have := b2 (L 24 11 - 1) f g (by omega) (by omega) f1 f2 g1 g2
        show 100000 ≤ _ + (if g = s then 0 else 100000)
        rw [if_neg q]; omega)]
      clear ec tj tb n1 n2 s1 s2 b1 b2 sp
      unfold FQ at st ⊢
      split <;> omega
    | succ d ih =>
      intro m q1 q2 f f1 f2
      have ex : rsX L s m f = m5 (fun g => goM L m f g + rsX L s (m + 1) g) := by unfold rsX; rw [bz_s (by omega)]
      rw [ex]
      have := cb_fq (L := L) (A := lT A s) (R := rsX L s) (m := m) (f := f) (K := 20 + (25 + 45 * d)) (by omega) (by omega) (by omega) (fun g g1 g2 => by rw [o15]; exact s1 m f g (by omega) (by omega) f1 f2 g1 g2 (by omega)) (fun g g1 g2 => ⟨by
        rw [tb (m + 1) g (by omega) (by omega) g1 g2]
        exact FQ.add (by omega) (by omega) (n1 (m + 1) g (by omega) (by omega) g1 g2 (by omega)) (ih (m + 1) (by omega) (by omega) g g1 g2), (rsX_rng hI hs0 hs1 (by omega) g1 g2).1⟩)
      exact this.mono (by omega)
  have X' : ∀ m f, L 24 10 + L 24 12 - 1 ≤ m → m ≤ L 24 11 - 1 → 1 ≤ f → f ≤ 5 → FQ 1500 (cbV (lT A s) m f) (rsX L s m f) := fun m f q1 q2 f1 f2 => (X (L 24 11 - 1 - m).toNat m q1 (by omega) f f1 f2).mono (by omega)
  have J : ∀ (d : Nat) (u : Int), 0 ≤ u → u + d = L 24 12 - 1 → ∀ f, 1 ≤ f → f ≤ 5 → FQ (3200 + 90 * d) (lT A s 16 (5 * (L 24 10 + u) + f - 1)) (nk L (L 24 10 + u) f + nk L (L 24 11 + u) f + jtX L s u f) := by
    intro d
    induction d with
    | zero =>
      intro u q1 q2 f f1 f2
      have : u = L 24 12 - 1 := by omega
      subst this
      rw [tb _ f (by omega) (by omega) f1 f2]
      have a := n2 (L 24 12 - 1) f (by omega) (by omega) f1 f2
      rw [if_pos rfl, if_pos rfl] at a
      have b := X' (L 24 10 + L 24 12 - 1) f (by omega) (by omega) f1 f2
      rw [show L 24 10 + L 24 12 - 1 = L 24 10 + (L 24 12 - 1) by omega] at b
      have ab := FQ.add (by omega) (by omega) a b
      have ej : jtX L s (L 24 12 - 1) f = clp (rsX L s (L 24 10 + L 24 12 - 1) f + rsT L (L 24 11 + L 24 12 - 1) f) := by unfold jtX; rw [bz_e]
      rw [ej]
      have k1 := nk_rng hI (L 24 10 + (L 24 12 - 1)) f
      have k2 := nk_rng hI (L 24 11 + (L 24 12 - 1)) f
      have r1 := rsX_rng hI (k := L 24 10 + L 24 12 - 1) hs0 hs1 (by omega) f1 f2
      have r2 := rsT_rng hI (k := L 24 11 + L 24 12 - 1) (by omega) f1 f2
      refine fq_clp (by omega) ?_ (by omega) (by omega)
      rw [show nk L (L 24 10 + (L 24 12 - 1)) f + nk L (L 24 11 + (L 24 12 - 1)) f + (rsX L s (L 24 10 + L 24 12 - 1) f + rsT L (L 24 11 + L 24 12 - 1) f) = nk L (L 24 10 + (L 24 12 - 1)) f + nk L (L 24 11 + (L 24 12 - 1)) f + rsT L (L 24 11 + L 24 12 - 1) f + rsX L s (L 24 10 + (L 24 12 - 1)) f by rw [show L 24 10 + L 24 12 - 1 = L 24 10 + (L 24 12 - 1) by omega]; omega]
      exact ab.mono (by omega)
    | succ d ih =>
      intro u q1 q2 f f1 f2
      rw [tb _ f (by omega) (by omega) f1 f2]
      have a := n2 u f (by omega) (by omega) f1 f2
      rw [if_neg (by omega), if_neg (by omega), Int.add_zero] at a
      have ej : jtX L s u f = m5 (fun g => jsM L u f g + jtX L s (u + 1) g) := by unfold jtX; rw [bz_s (by omega)]
      rw [ej]
      have c : FQ (3200 + 90 * d + 50) (cbV (lT A s) (L 24 10 + u) f) (m5 (fun g => jsM L u f g + jtX L s (u + 1) g)) := by
        unfold cbV
        rw [if_pos (by omega)]
        refine fq_min (by omega) (fun g g1 g2 => ?_)
        have i1 := ih (u + 1) (by omega) (by omega) g g1 g2
        rw [o15, show L 24 10 + u + 1 = L 24 10 + (u + 1) by omega]
        exact fq_js (by omega) (by omega) (s2 u f g q1 (by omega) f1 f2 g1 g2) i1 (nk_rng hI _ _).1 (nk_rng hI _ _).1 (jtX_rng hI hT hs0 hs1 (by omega) g1 g2).1
      exact (FQ.add (by omega) (by omega) a c).mono (by omega)
  refine ⟨fun m f q1 q2 f1 f2 => (X' m f q1 q2 f1 f2).mono (by omega), fun m f q1 q2 f1 f2 => ?_, fun u f q1 q2 f1 f2 => (J (L 24 12 - 1 - u).toNat u q1 (by omega) f f1 f2).mono (by omega)⟩
  rw [tb m f (by omega) q2 f1 f2]
  exact (FQ.add (by omega) (by omega) (n1 m f (by omega) (by omega) f1 f2 (by omega)) (X' m f (by omega) q2 f1 f2)).mono (by omega)
end Ldf
