/-! ===== the row that follow writes is the best row ===== -/
section Rb
variable {L A : Mm}
theorem A0_nn (hI : RuI L) (ht : L 24 12 = 0 ∨ TOk L) (h0 : 0 < L 24 7) {e : Int} (e1 : 1 ≤ e) (e2 : e ≤ 5) : 0 ≤ A0 L e := by
  unfold A0
  rcases ht with ht | ht
  · rw [if_neg (by omega)]; exact (rsT_rng hI (by omega) e1 e2).1
  · rw [if_pos ht.1]; exact (rsH_rng hI ht ht.2.1 e1 e2).1
theorem lc_st (h : LcP L A) (hI : RuI L) (ht : L 24 12 = 0 ∨ TOk L) (h0 : 0 < L 24 7) {e : Int} (e1 : 1 ≤ e) (e2 : e ≤ 5) : FQ 10000 (A 16 (5 * 0 + e - 1)) (stC L e) := by
  have hi : 0 < L 24 12 → 0 ≤ L 24 10 := fun q => by
    rcases ht with ht | ht
    · omega
    · exact ht.2.1
  have a := (h.2 0 e (by omega) (by omega) (fun q => Or.inl (hi q)) e1 e2).1
  have ea : (if 0 < L 24 12 ∧ 0 ≤ L 24 10 then rsH L 0 e else rsT L 0 e) = A0 L e := by
    unfold A0
    by_cases q : 0 < L 24 12
    · rw [if_pos ⟨q, hi q⟩, if_pos q]
    · rw [if_neg (fun z => q z.1), if_neg q]
  rw [ea] at a
  unfold nk at a
  unfold stC
  have a0 := A0_nn hI ht h0 e1 e2
  by_cases q : okM L 0 e
  · rw [if_pos q] at a ⊢; exact a
  · rw [if_neg q] at a ⊢
    clear ea
    exact Or.inr ⟨a.inf (by omega) (by omega), by omega⟩
/-- the first finger of the row -/
theorem fst_0 {B : Mm} (h : LcP L A) (hI : RuI L) (ht : L 24 12 = 0 ∨ TOk L) (h0 : 0 < L 24 7) (hm : tot L < 1000000) (hB : ∀ j, B 16 j = A 16 j) : Fst (stC L) (tot L) (cho (flV B 0)) ∧ A0 L (cho (flV B 0)) < 1000000 := by
  have F := cho_fst (K := 10000) (by omega) (φ := flV B 0) (ψ := stC L) (fun g g1 g2 => by
    unfold flV
    rw [if_pos rfl, hB, show (0 : Int) + A 16 (5 * 0 + g - 1) = A 16 (5 * 0 + g - 1) by omega]
    exact lc_st h hI ht h0 g1 g2) hm
  refine ⟨F, ?_⟩
  have e : stC L (cho (flV B 0)) = tot L := F.2.2.1
  have nc := ncv_rng hI (L 31 0) (cho (flV B 0))
  unfold stC at e
  split at e
  · have e' : ncv (L 30) (L 31 0) (cho (flV B 0)) + A0 L (cho (flV B 0)) = tot L := e
    omega
  · omega
theorem br_plain (h : LcP L A) (hI : RuI L) (ht : L 24 12 = 0) (h0 : 0 < L 24 7) (hm : tot L < 1000000) {F : Mm} (hF : F = flw (L 24 7).toNat 0 A) : (∀ i, 0 ≤ i → i < L 24 7 → 1 ≤ F 18 i + 1 ∧ F 18 i + 1 ≤ 5) ∧ BR L (fun i => F 18 i + 1) := by
  obtain ⟨a, b⟩ := flw_spec (L 24 7).toNat 0 A
  rw [← hF] at a b
  obtain ⟨⟨⟨e6, e789⟩, n1, n2, s1, s2, b1, b2⟩, tb⟩ := id h
  obtain ⟨F0, F1⟩ := fst_0 (B := F) h hI (Or.inl ht) h0 hm (fun j => b 16 j (by omega))
  have p0 : F 18 0 + 1 = cho (flV F 0) := by rw [a 0 (by omega) (by omega)]; omega
  have eA : ∀ e, A0 L e = rsT L 0 e := fun e => by unfold A0; rw [if_neg (by omega)]
  have C := chain_gen (A := F) (o := 0) (lo := 0) (hi := L 24 7 - 1) (K := 10025) (w := goM L) (R := rsT L) (p := fun i => F 18 i + 1) (by omega) (by omega) (fun m q1 q2 => a (0 + m + 1) (by omega) (by omega)) (fun m q1 q2 => by rw [show (0 : Int) + m = m by omega]) (fun m f g q1 q2 f1 f2 g1 g2 => by
      refine ⟨?_, by have := goM_rng hI (k := m) f1 f2 g1 g2; omega⟩
      rw [show (0 : Int) + m = m by omega, b 15 _ (by omega), b 16 _ (by omega)]
      have t := (tb (m + 1) g (by omega) (by omega) (fun q => by omega) g1 g2).1
      rw [if_neg (by omega)] at t
      exact fq_go (by omega) (by omega) (s1 m f g q1 (by omega) f1 f2 g1 g2 (by omega)) t (rsT_rng hI (by omega) g1 g2).1)
    (fun m f q1 q2 f1 f2 => by rw [rsT_s (by omega), if_pos (by omega)]) (by show 1 ≤ F 18 0 + 1 ∧ F 18 0 + 1 ≤ 5; rw [p0]; exact ⟨F0.1, F0.2.1⟩) (by show rsT L 0 (F 18 0 + 1) < 1000000; rw [p0, ← eA]; exact F1)
  refine ⟨fun i q1 q2 => ?_, ?_, fun _ k q1 q2 => ?_, fun q => by omega⟩
  · have := (C i.toNat (by omega)).1
    rw [show (0 : Int) + (i.toNat : Int) = i by omega] at this
    exact ⟨this.1, this.2.1⟩
  · show Fst (stC L) (tot L) (F 18 0 + 1)
    rw [p0]; exact F0
  · exact (C (L 24 7 - 1).toNat (by omega)).2 k q1 (by omega)
/-- with a tie: rows written in four stretches -/
theorem br_tied (h : LcP L A) (hI : RuI L) (hT : TOk L) (h30 : L 24 7 ≤ 30) (hm : tot L < 1000000) {B1 B2 B3 B4 F : Mm} (h1 : B1 = flw (L 24 10 + 1).toNat 0 A) (h2 : B2 = lT B1 (B1 18 (L 24 10) + 1)) (h3 : B3 = flw (L 24 11 - 1 - L 24 10).toNat (L 24 10 + 1) B2) (h4 : (∀ t, 0 ≤ t → t < L 24 12 → B4 18 (L 24 11 + t) = B3 18 (L 24 10 + t)) ∧ ∀ c j, ¬ (c = 18 ∧ L 24 11 ≤ j ∧ j < L 24 11 + L 24 12) → B4 c j = B3 c j) (h5 : F = flw (L 24 7 - (L 24 11 + L 24 12)).toNat (L 24 11 + L 24 12) B4) :
    (∀ i, 0 ≤ i → i < L 24 7 → 1 ≤ F 18 i + 1 ∧ F 18 i + 1 ≤ 5) ∧ BR L (fun i => F 18 i + 1) := by
  obtain ⟨t1, t2, t3, t4⟩ := id hT
  obtain ⟨⟨⟨e6, e789⟩, n1, n2, s1, s2, b1, b2⟩, tb⟩ := id h
  obtain ⟨e7, e8, e9⟩ := e789 t1
  obtain ⟨r1, o1⟩ := flw_spec (L 24 10 + 1).toNat 0 A
  rw [← h1] at r1 o1
  obtain ⟨r3, o3⟩ := flw_spec (L 24 11 - 1 - L 24 10).toNat (L 24 10 + 1) B2
  rw [← h3] at r3 o3
  obtain ⟨r4, o4⟩ := h4
  obtain ⟨r5, o5⟩ := flw_spec (L 24 7 - (L 24 11 + L 24 12)).toNat (L 24 11 + L 24 12) B4
  rw [← h5] at r5 o5
  have fn1 : FN L B1 := h.1.fr (fun c j q => o1 c j (by omega))
  have o2 : ∀ c j, ¬ (c = 16 ∧ 5 * L 24 10 ≤ j ∧ j < 5 * (L 24 11 + 1)) → B2 c j = B1 c j := fun c j q => by
    obtain ⟨u7, u8, u9⟩ := fn1.1.2 t1
    rw [h2]; exact lT_o (by omega) (by omega)
  -- the beginning
  obtain ⟨F0, F1⟩ := fst_0 (B := B1) h hI (Or.inr hT) (by omega) hm (fun j => o1 16 j (by omega))
  have p0 : B1 18 0 + 1 = cho (flV B1 0) := by rw [r1 0 (by omega) (by omega)]; omega
  have eA : ∀ e, A0 L e = rsH L 0 e := fun e => by unfold A0; rw [if_pos t1]
  have C1 := chain_gen (A := B1) (o := 0) (lo := 0) (hi := L 24 10) (K := 10025) (w := goM L) (R := rsH L) (p := fun i => B1 18 i + 1) (by omega) (by omega) (fun m q1 q2 => r1 (0 + m + 1) (by omega) (by omega)) (fun m q1 q2 => by rw [show (0 : Int) + m = m by omega]) (fun m f g q1 q2 f1 f2 g1 g2 => by
      refine ⟨?_, by have := goM_rng hI (k := m) f1 f2 g1 g2; omega⟩
      rw [show (0 : Int) + m = m by omega, o1 15 _ (by omega), o1 16 _ (by omega)]
      have t := (tb (m + 1) g (by omega) (by omega) (fun q => by omega) g1 g2).1
      rw [if_pos (by omega)] at t
      exact fq_go (by omega) (by omega) (s1 m f g q1 (by omega) f1 f2 g1 g2 (by omega)) t (rsH_rng hI hT (by omega) g1 g2).1)
    (fun m f q1 q2 f1 f2 => rsH_s (by omega)) (by show 1 ≤ B1 18 0 + 1 ∧ B1 18 0 + 1 ≤ 5; rw [p0]; exact ⟨F0.1, F0.2.1⟩) (by show rsH L 0 (B1 18 0 + 1) < 1000000; rw [p0, ← eA]; exact F1)
  have c1 := C1 (L 24 10).toNat (by omega)
  rw [show (0 : Int) + ((L 24 10).toNat : Int) = L 24 10 by omega] at c1
  obtain ⟨⟨x1, x2, x3⟩, c1f⟩ := c1
  have x3' : wtX L (B1 18 (L 24 10) + 1) < 1000000 := by
    have e : rsH L (L 24 10) (B1 18 (L 24 10) + 1) = wtX L (B1 18 (L 24 10) + 1) := by unfold rsH; rw [bz_e]
    rw [← e]; exact x3
  have x1' : 1 ≤ B1 18 (L 24 10) + 1 := x1
  have x2' : B1 18 (L 24 10) + 1 ≤ 5 := x2
  generalize hx : B1 18 (L 24 10) + 1 = x at *
  have j0 : jtX L x 0 x < 1000000 := by
    have nc := ncv_rng hI (L 31 (L 24 11)) x
    have jr := jtX_rng hI hT (k := 0) x1' x2' (by omega) x1' x2'
    unfold wtX at x3'
    split at x3'
    · unfold clp at x3'
      split at x3'
      · have e' : jtX L x 0 x + ncv (L 30) (L 31 (L 24 11)) x < 1000000 := x3'
        omega
      · omega
    · omega
  obtain ⟨l1, l2, l3⟩ := lead_fq (s := x) hT hI h30 fn1 x1' x2'
  rw [← h2] at l1 l2 l3
  have d13 : ∀ m, 0 ≤ m → m ≤ L 24 10 → B3 18 m = B1 18 m := fun m q1 q2 => by rw [o3 18 m (by omega), o2 18 m (by omega)]
  -- both parts at once
  have C2 := chain_gen (A := B3) (o := L 24 10) (lo := 0) (hi := L 24 12 - 1) (K := 5050) (w := jsM L) (R := jtX L x) (p := fun u => B3 18 (L 24 10 + u) + 1) (by omega) (by omega) (fun m q1 q2 => r3 (L 24 10 + m + 1) (by omega) (by omega)) (fun m q1 q2 => rfl) (fun u f g q1 q2 f1 f2 g1 g2 => by
      refine ⟨?_, (jsM_rng hI f1 f2 g1 g2).1⟩
      rw [o3 15 _ (by omega), o3 16 _ (by omega), o2 15 _ (by omega), o1 15 _ (by omega), show L 24 10 + u + 1 = L 24 10 + (u + 1) by omega]
      exact fq_js (by omega) (by omega) (s2 u f g q1 (by omega) f1 f2 g1 g2) (l3 (u + 1) g (by omega) (by omega) g1 g2) (nk_rng hI _ _).1 (nk_rng hI _ _).1 (jtX_rng hI hT x1' x2' (by omega) g1 g2).1)
    (fun m f q1 q2 f1 f2 => by unfold jtX; rw [bz_s (by omega)]) (by show 1 ≤ B3 18 (L 24 10 + 0) + 1 ∧ B3 18 (L 24 10 + 0) + 1 ≤ 5; rw [show L 24 10 + 0 = L 24 10 by omega, d13 _ t2 (Int.le_refl _), hx]; exact ⟨x1', x2'⟩) (by show jtX L x 0 (B3 18 (L 24 10 + 0) + 1) < 1000000; rw [show L 24 10 + 0 = L 24 10 by omega, d13 _ t2 (Int.le_refl _), hx]; exact j0)
  have c2 := C2 (L 24 12 - 1).toNat (by omega)
  rw [show (0 : Int) + ((L 24 12 - 1).toNat : Int) = L 24 12 - 1 by omega] at c2
  obtain ⟨⟨y1, y2, y3⟩, c2f⟩ := c2
  have y1' : 1 ≤ B3 18 (L 24 10 + L 24 12 - 1) + 1 := by rw [show L 24 10 + L 24 12 - 1 = L 24 10 + (L 24 12 - 1) by omega]; exact y1
  have y2' : B3 18 (L 24 10 + L 24 12 - 1) + 1 ≤ 5 := by rw [show L 24 10 + L 24 12 - 1 = L 24 10 + (L 24 12 - 1) by omega]; exact y2
  have y3' : clp (rsX L x (L 24 10 + L 24 12 - 1) (B3 18 (L 24 10 + L 24 12 - 1) + 1) + rsT L (L 24 11 + L 24 12 - 1) (B3 18 (L 24 10 + L 24 12 - 1) + 1)) < 1000000 := by
    have e : jtX L x (L 24 12 - 1) (B3 18 (L 24 10 + (L 24 12 - 1)) + 1) = clp (rsX L x (L 24 10 + L 24 12 - 1) (B3 18 (L 24 10 + (L 24 12 - 1)) + 1) + rsT L (L 24 11 + L 24 12 - 1) (B3 18 (L 24 10 + (L 24 12 - 1)) + 1)) := by unfold jtX; rw [bz_e]
    rw [show L 24 10 + (L 24 12 - 1) = L 24 10 + L 24 12 - 1 by omega] at e
    rw [← e]
    have := y3
    rw [show L 24 10 + (L 24 12 - 1) = L 24 10 + L 24 12 - 1 by omega] at this
    exact this
  have rx := rsX_rng hI (k := L 24 10 + L 24 12 - 1) x1' x2' (by omega) y1' y2'
  have rt := rsT_rng hI (k := L 24 11 + L 24 12 - 1) (by omega) y1' y2'
  have y4 : rsX L x (L 24 10 + L 24 12 - 1) (B3 18 (L 24 10 + L 24 12 - 1) + 1) < 1000000 ∧ rsT L (L 24 11 + L 24 12 - 1) (B3 18 (L 24 10 + L 24 12 - 1) + 1) < 1000000 := by
    unfold clp at y3'
    split at y3' <;> omega
  -- between the parts
  have C3 := chain_gen (A := B3) (o := 0) (lo := L 24 10 + L 24 12 - 1) (hi := L 24 11 - 1) (K := 2025) (w := goM L) (R := rsX L x) (p := fun i => B3 18 i + 1) (by omega) (by omega) (fun m q1 q2 => r3 (0 + m + 1) (by omega) (by omega)) (fun m q1 q2 => by rw [show (0 : Int) + m = m by omega]) (fun m f g q1 q2 f1 f2 g1 g2 => by
      refine ⟨?_, by have := goM_rng hI (k := m) f1 f2 g1 g2; omega⟩
      rw [show (0 : Int) + m = m by omega, o3 15 _ (by omega), o3 16 _ (by omega), o2 15 _ (by omega), o1 15 _ (by omega)]
      exact fq_go (by omega) (by omega) (s1 m f g (by omega) (by omega) f1 f2 g1 g2 (by omega)) (l2 (m + 1) g (by omega) (by omega) g1 g2) (rsX_rng hI x1' x2' (by omega) g1 g2).1)
    (fun m f q1 q2 f1 f2 => by unfold rsX; rw [bz_s (by omega)]) ⟨y1', y2'⟩ y4.1
  have c3 := C3 (L 24 11 - 1 - (L 24 10 + L 24 12 - 1)).toNat (by omega)
  have d35 : ∀ m, 0 ≤ m → m < L 24 11 → F 18 m = B3 18 m := fun m q1 q2 => by rw [o5 18 m (by omega), o4 18 m (by omega)]
  have dd : ∀ t, 0 ≤ t → t < L 24 12 → F 18 (L 24 11 + t) = F 18 (L 24 10 + t) := fun t q1 q2 => by rw [o5 18 _ (by omega), r4 t q1 q2, d35 _ (by omega) (by omega)]
  have el : F 18 (L 24 11 + L 24 12 - 1) = B3 18 (L 24 10 + L 24 12 - 1) := by
    have := dd (L 24 12 - 1) (by omega) (by omega)
    rw [show L 24 11 + (L 24 12 - 1) = L 24 11 + L 24 12 - 1 by omega, show L 24 10 + (L 24 12 - 1) = L 24 10 + L 24 12 - 1 by omega] at this
    rw [this]; exact d35 _ (by omega) (by omega)
  -- the end
  have C4 := chain_gen (A := F) (o := 0) (lo := L 24 11 + L 24 12 - 1) (hi := L 24 7 - 1) (K := 10025) (w := goM L) (R := rsT L) (p := fun i => F 18 i + 1) (by omega) (by omega) (fun m q1 q2 => r5 (0 + m + 1) (by omega) (by omega)) (fun m q1 q2 => by rw [show (0 : Int) + m = m by omega]) (fun m f g q1 q2 f1 f2 g1 g2 => by
      refine ⟨?_, by have := goM_rng hI (k := m) f1 f2 g1 g2; omega⟩
      rw [show (0 : Int) + m = m by omega, o5 15 _ (by omega), o5 16 _ (by omega), o4 15 _ (by omega), o4 16 _ (by omega), o3 15 _ (by omega), o3 16 _ (by omega), o2 15 _ (by omega), o2 16 _ (by omega), o1 15 _ (by omega), o1 16 _ (by omega)]
      have t := (tb (m + 1) g (by omega) (by omega) (fun q => by omega) g1 g2).1
      rw [if_neg (by omega)] at t
      exact fq_go (by omega) (by omega) (s1 m f g (by omega) (by omega) f1 f2 g1 g2 (by omega)) t (rsT_rng hI (by omega) g1 g2).1)
    (fun m f q1 q2 f1 f2 => by rw [rsT_s (by omega), if_pos (by omega)]) (by show 1 ≤ F 18 _ + 1 ∧ F 18 _ + 1 ≤ 5; rw [el]; exact ⟨y1', y2'⟩) (by show rsT L _ (F 18 _ + 1) < 1000000; rw [el]; exact y4.2)
  have c4 := C4 (L 24 7 - 1 - (L 24 11 + L 24 12 - 1)).toNat (by omega)
  have px : F 18 (L 24 10) + 1 = x := by rw [d35 _ t2 (by omega), d13 _ t2 (Int.le_refl _)]; exact hx
  have rng : ∀ i, 0 ≤ i → i < L 24 7 → 1 ≤ F 18 i + 1 ∧ F 18 i + 1 ≤ 5 := by
    intro i q1 q2
    by_cases k1 : i ≤ L 24 10
    · have := (C1 i.toNat (by omega)).1
      rw [show (0 : Int) + (i.toNat : Int) = i by omega] at this
      rw [d35 i q1 (by omega), d13 i q1 k1]
      exact ⟨this.1, this.2.1⟩
    by_cases k2 : i ≤ L 24 10 + L 24 12 - 1
    · have := (C2 (i - L 24 10).toNat (by omega)).1
      rw [show (0 : Int) + ((i - L 24 10).toNat : Int) = i - L 24 10 by omega] at this
      have a := this.1
      have b := this.2.1
      rw [show L 24 10 + (i - L 24 10) = i by omega] at a b
      rw [d35 i q1 (by omega)]
      exact ⟨a, b⟩
    by_cases k3 : i ≤ L 24 11 - 1
    · have := (C3 (i - (L 24 10 + L 24 12 - 1)).toNat (by omega)).1
      rw [show L 24 10 + L 24 12 - 1 + ((i - (L 24 10 + L 24 12 - 1)).toNat : Int) = i by omega] at this
      rw [d35 i q1 (by omega)]
      exact ⟨this.1, this.2.1⟩
    by_cases k4 : i ≤ L 24 11 + L 24 12 - 1
    · have e := dd (i - L 24 11) (by omega) (by omega)
      rw [show L 24 11 + (i - L 24 11) = i by omega] at e
      have := (C2 (i - L 24 11).toNat (by omega)).1
      rw [show (0 : Int) + ((i - L 24 11).toNat : Int) = i - L 24 11 by omega] at this
      rw [e, d35 _ (by omega) (by omega)]
      exact ⟨this.1, this.2.1⟩
    · have := (C4 (i - (L 24 11 + L 24 12 - 1)).toNat (by omega)).1
      rw [show L 24 11 + L 24 12 - 1 + ((i - (L 24 11 + L 24 12 - 1)).toNat : Int) = i by omega] at this
      exact ⟨this.1, this.2.1⟩
  refine ⟨rng, ?_, fun q => by omega, fun _ => ⟨fun k q1 q2 => ?_, fun k q1 q2 => ?_, fun k q1 q2 => ?_, fun k q1 q2 => ?_, fun k q1 q2 => ?_⟩⟩
  · show Fst (stC L) (tot L) (F 18 0 + 1)
    rw [d35 0 (by omega) (by omega), d13 0 (by omega) t2, p0]; exact F0
  · show Fst (fun g => goM L k (F 18 k + 1) g + rsH L (k + 1) g) (rsH L k (F 18 k + 1)) (F 18 (k + 1) + 1)
    rw [d35 k q1 (by omega), d13 k q1 (by omega), d35 (k + 1) (by omega) (by omega), d13 (k + 1) (by omega) (by omega)]
    exact c1f k q1 q2
  · show Fst (fun g => jsM L k (F 18 (L 24 10 + k) + 1) g + jtX L (F 18 (L 24 10) + 1) (k + 1) g) (jtX L (F 18 (L 24 10) + 1) k (F 18 (L 24 10 + k) + 1)) (F 18 (L 24 10 + k + 1) + 1)
    rw [px, d35 (L 24 10 + k) (by omega) (by omega), d35 (L 24 10 + k + 1) (by omega) (by omega)]
    have := c2f k q1 q2
    rw [show L 24 10 + k + 1 = L 24 10 + (k + 1) by omega]
    exact this
  · show Fst (fun g => goM L k (F 18 k + 1) g + rsX L (F 18 (L 24 10) + 1) (k + 1) g) (rsX L (F 18 (L 24 10) + 1) k (F 18 k + 1)) (F 18 (k + 1) + 1)
    rw [px, d35 k (by omega) (by omega), d35 (k + 1) (by omega) (by omega)]
    exact c3.2 k q1 (by omega)
  · show F 18 (L 24 11 + k) + 1 = F 18 (L 24 10 + k) + 1
    rw [dd k q1 q2]
  · exact c4.2 k q1 (by omega)
end Rb
