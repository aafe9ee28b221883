/-! ===== tables with a tie, against the reference's ===== -/
/-- what note m costs with finger f, or that it can't have it -/
def nk (L : Mm) (m f : Int) : Int := if okM L m f then ncM L m f else 1000000
theorem nk_rng {L : Mm} (hI : RuI L) (m f : Int) : 0 ≤ nk L m f ∧ nk L m f ≤ 1000000 := by
  have := ncv_rng hI (L 31 m) f
  unfold nk
  split
  · unfold ncM; omega
  · omega
theorem FQ.nn {k a r : Int} (h : FQ k a r) : 0 ≤ a ∧ 0 ≤ r := by unfold FQ at h; omega
theorem FQ.inf {k a r : Int} (hk : k < 1000000) (h : FQ k a r) (hr : 1000000 ≤ r) : 100000 ≤ a := by unfold FQ at h; omega
theorem fq_clp {k a r s : Int} (hk : k < 1000000) (h : FQ k a (s + r)) (hs : 0 ≤ s) (hr : 0 ≤ r) : FQ k a (s + clp r) := by
  unfold clp
  split
  · exact h
  · right
    exact ⟨h.inf hk (by omega), by omega⟩
theorem fq_go {L : Mm} {m f g k s t r : Int} (hk : 0 ≤ k) (hk1 : k < 1000000) (hs : FQ 25 s (stM L m f g)) (ht : FQ k t (nk L (m + 1) g + r)) (hr : 0 ≤ r) : FQ (k + 25) (s + t) (goM L m f g + r) := by
  have s0 := hs.nn
  unfold nk at ht
  unfold goM
  by_cases q : okM L (m + 1) g
  · rw [if_pos q] at ht ⊢
    have := FQ.add (by omega) hk hs ht
    rw [show stM L m f g + ncM L (m + 1) g + r = stM L m f g + (ncM L (m + 1) g + r) by omega]
    exact this.mono (by omega)
  · rw [if_neg q] at ht ⊢
    have := ht.inf hk1 (by omega)
    right
    exact ⟨by omega, by omega⟩
theorem fq_js {L : Mm} {u f g k s t r : Int} (hk : 0 ≤ k) (hk1 : k < 1000000) (hs : FQ 50 s (stM L (L 24 10 + u) f g + stM L (L 24 11 + u) f g)) (ht : FQ k t (nk L (L 24 10 + (u + 1)) g + nk L (L 24 11 + (u + 1)) g + r)) (n1 : 0 ≤ nk L (L 24 10 + (u + 1)) g) (n2 : 0 ≤ nk L (L 24 11 + (u + 1)) g) (hr : 0 ≤ r) : FQ (k + 50) (s + t) (jsM L u f g + r) := by
  have s0 := hs.nn
  unfold jsM
  by_cases q : okM L (L 24 10 + (u + 1)) g ∧ okM L (L 24 11 + (u + 1)) g
  · rw [if_pos q]
    unfold nk at ht
    rw [if_pos q.1, if_pos q.2] at ht
    unfold goM
    rw [show L 24 10 + u + 1 = L 24 10 + (u + 1) by omega, show L 24 11 + u + 1 = L 24 11 + (u + 1) by omega, if_pos q.1, if_pos q.2]
    have := FQ.add (by omega) hk hs ht
    rw [show stM L (L 24 10 + u) f g + ncM L (L 24 10 + (u + 1)) g + (stM L (L 24 11 + u) f g + ncM L (L 24 11 + (u + 1)) g) + r = stM L (L 24 10 + u) f g + stM L (L 24 11 + u) f g + (ncM L (L 24 10 + (u + 1)) g + ncM L (L 24 11 + (u + 1)) g + r) by omega]
    exact this.mono (by omega)
  · rw [if_neg q]
    have big : 1000000 ≤ nk L (L 24 10 + (u + 1)) g + nk L (L 24 11 + (u + 1)) g + r := by
      by_cases q1 : okM L (L 24 10 + (u + 1)) g
      · have : nk L (L 24 11 + (u + 1)) g = 1000000 := if_neg (fun z => q ⟨q1, z⟩)
        omega
      · have : nk L (L 24 10 + (u + 1)) g = 1000000 := if_neg q1
        omega
    have := ht.inf hk1 big
    right
    exact ⟨by omega, by omega⟩
/-- what stands in the class's rows of costs, the second part folded into the first -/
def FN (L A : Mm) : Prop := (A 13 6 = L 24 7 ∧ (0 < L 24 12 → A 13 7 = L 24 10 ∧ A 13 8 = L 24 11 ∧ A 13 9 = L 24 12)) ∧
  (∀ m f, 0 ≤ m → m < L 24 7 → 1 ≤ f → f ≤ 5 → ¬ (L 24 10 ≤ m ∧ m < L 24 10 + L 24 12) → FQ 20 (A 14 (5 * m + f - 1)) (nk L m f)) ∧
  (∀ u f, 0 ≤ u → u < L 24 12 → 1 ≤ f → f ≤ 5 → FQ (if u = L 24 12 - 1 then 1600 else 40) (A 14 (5 * (L 24 10 + u) + f - 1)) (nk L (L 24 10 + u) f + nk L (L 24 11 + u) f + (if u = L 24 12 - 1 then rsT L (L 24 11 + L 24 12 - 1) f else 0))) ∧
  (∀ m f g, 0 ≤ m → m + 1 < L 24 7 → 1 ≤ f → f ≤ 5 → 1 ≤ g → g ≤ 5 → ¬ (L 24 10 ≤ m ∧ m + 1 < L 24 10 + L 24 12) → FQ 25 (A 15 (25 * m + 5 * f + g - 6)) (stM L m f g)) ∧
  (∀ u f g, 0 ≤ u → u + 1 < L 24 12 → 1 ≤ f → f ≤ 5 → 1 ≤ g → g ≤ 5 → FQ 50 (A 15 (25 * (L 24 10 + u) + 5 * f + g - 6)) (stM L (L 24 10 + u) f g + stM L (L 24 11 + u) f g)) ∧
  (∀ m f, 0 ≤ m → m < L 24 7 → 1 ≤ f → f ≤ 5 → 0 ≤ A 14 (5 * m + f - 1) ∧ A 14 (5 * m + f - 1) ≤ 300000) ∧
  (∀ m f g, 0 ≤ m → m + 1 < L 24 7 → 1 ≤ f → f ≤ 5 → 1 ≤ g → g ≤ 5 → 0 ≤ A 15 (25 * m + 5 * f + g - 6) ∧ A 15 (25 * m + 5 * f + g - 6) ≤ 200000)
theorem FN.fr {L A B : Mm} (h : FN L A) (hf : ∀ c j, c = 13 ∨ c = 14 ∨ c = 15 → B c j = A c j) : FN L B := by
  have e13 : B 13 = A 13 := funext fun j => hf 13 j (by omega)
  have e14 : B 14 = A 14 := funext fun j => hf 14 j (by omega)
  have e15 : B 15 = A 15 := funext fun j => hf 15 j (by omega)
  unfold FN at *
  rw [e13, e14, e15]
  exact h
section Tfq
variable {L A : Mm}
theorem cb_fq {R : Int → Int → Int} {m f K : Int} (h6 : m + 1 < A 13 6) (hK : 0 ≤ K) (hK1 : K + 25 < 100000) (hS : ∀ g, 1 ≤ g → g ≤ 5 → FQ 25 (A 15 (25 * m + 5 * f + g - 6)) (stM L m f g)) (hT : ∀ g, 1 ≤ g → g ≤ 5 → FQ K (A 16 (5 * (m + 1) + g - 1)) (nk L (m + 1) g + R (m + 1) g) ∧ 0 ≤ R (m + 1) g) : FQ (K + 25) (cbV A m f) (m5 (fun g => goM L m f g + R (m + 1) g)) := by
  unfold cbV
  rw [if_pos h6]
  exact fq_min hK1 (fun g g1 g2 => fq_go hK (by omega) (hS g g1 g2) (hT g g1 g2).1 (hT g g1 g2).2)
/-- a swept stretch, from place fr back to place lo -/
theorem sw_fq {R : Int → Int → Int} {lo fr K : Int} {n : Nat} (hn : lo + n = fr + 1) (hlo : 0 ≤ lo) (h6 : A 13 6 = L 24 7) (hfr : fr < 30) (hK : 0 ≤ K) (hK1 : K ≤ 60000)
    (hN : ∀ m f, lo ≤ m → m ≤ fr → 1 ≤ f → f ≤ 5 → FQ 20 (A 14 (5 * m + f - 1)) (nk L m f))
    (hS : ∀ m f g, lo ≤ m → m ≤ fr → m + 1 < L 24 7 → 1 ≤ f → f ≤ 5 → 1 ≤ g → g ≤ 5 → FQ 25 (A 15 (25 * m + 5 * f + g - 6)) (stM L m f g))
    (hR0 : ∀ m g, 1 ≤ g → g ≤ 5 → m ≤ fr + 1 → m < L 24 7 → 0 ≤ R m g)
    (hRs : ∀ m f, lo ≤ m → m ≤ fr → 1 ≤ f → f ≤ 5 → R m f = if m + 1 < L 24 7 then m5 (fun g => goM L m f g + R (m + 1) g) else 0)
    (hT : fr + 1 < L 24 7 → ∀ g, 1 ≤ g → g ≤ 5 → FQ K (A 16 (5 * (fr + 1) + g - 1)) (nk L (fr + 1) g + R (fr + 1) g)) (hfc : fr < L 24 7) :
    ∀ (d : Nat) (m : Int), lo ≤ m → m + d = fr → ∀ f, 1 ≤ f → f ≤ 5 → FQ (K + 45 * (d + 1)) ((swp n fr A) 16 (5 * m + f - 1)) (nk L m f + R m f) ∧ FQ (K + 45 * (d + 1)) (cbV (swp n fr A) m f) (R m f) := by
  have sp := swp_spec n fr A
  have f6 : (swp n fr A) 13 6 = L 24 7 := by rw [sp.2 13 6 (by omega)]; exact h6
  have fS : ∀ m f g, (swp n fr A) 15 (25 * m + 5 * f + g - 6) = A 15 (25 * m + 5 * f + g - 6) := fun m f g => sp.2 15 _ (by omega)
  have go : ∀ m f K', lo ≤ m → m ≤ fr → 1 ≤ f → f ≤ 5 → 0 ≤ K' → K' ≤ 90000 → (m + 1 < L 24 7 → ∀ g, 1 ≤ g → g ≤ 5 → FQ K' ((swp n fr A) 16 (5 * (m + 1) + g - 1)) (nk L (m + 1) g + R (m + 1) g)) → FQ (K' + 45) ((swp n fr A) 16 (5 * m + f - 1)) (nk L m f + R m f) ∧ FQ (K' + 45) (cbV (swp n fr A) m f) (R m f) := by
    intro m f K' q1 q2 f1 f2 k0 k1 hh
    have c : FQ (K' + 25) (cbV (swp n fr A) m f) (R m f) := by
      rw [hRs m f q1 q2 f1 f2]
      by_cases q : m + 1 < L 24 7
      · rw [if_pos q]
        exact cb_fq (by omega) k0 (by omega) (fun g g1 g2 => by rw [fS]; exact hS m f g q1 q2 q f1 f2 g1 g2) (fun g g1 g2 => ⟨hh q g g1 g2, hR0 (m + 1) g g1 g2 (by omega) q⟩)
      · rw [if_neg q]
        unfold cbV
        rw [if_neg (by omega)]
        left; omega
    refine ⟨?_, c.mono (by omega)⟩
    rw [sp.1 m f (by omega) q2 f1 f2]
    exact (FQ.add (by omega) (by omega) (hN m f q1 q2 f1 f2) c).mono (by omega)
  intro d
  induction d with
  | zero =>
    intro m hm hd f f1 f2
    have : m = fr := by omega
    subst this
    have := go m f K hm (Int.le_refl _) f1 f2 hK (by omega) (fun q g g1 g2 => by
      rw [sp.2 16 _ (by omega)]; exact hT q g g1 g2)
    exact ⟨this.1.mono (by omega), this.2.mono (by omega)⟩
  | succ d ih =>
    intro m hm hd f f1 f2
    have := go m f (K + 45 * (d + 1)) hm (by omega) f1 f2 (by omega) (by omega) (fun q g g1 g2 => (ih (m + 1) (by omega) (by omega) g g1 g2).1)
    exact ⟨this.1.mono (by omega), this.2.mono (by omega)⟩
theorem rsT_s {m f : Int} (h : m < L 24 7) : rsT L m f = if m + 1 < L 24 7 then m5 (fun g => goM L m f g + rsT L (m + 1) g) else 0 := by
  unfold rsT
  by_cases q : m + 1 < L 24 7
  · rw [if_pos q, bz_s (by omega)]
  · rw [if_neg q, show m = L 24 7 - 1 by omega, bz_e]
end Tfq
