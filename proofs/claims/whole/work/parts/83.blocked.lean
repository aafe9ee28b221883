/-! ===== a prefix can be played, forwards and backwards ===== -/
section Pf
variable {L : Mm}
theorem stM_fin (hI : RuI L) {k f g : Int} (f1 : 1 ≤ f) (f2 : f ≤ 5) (g1 : 1 ≤ g) (g2 : g ≤ 5) : 0 ≤ stM L k f g ∧ (stM L k f g < 1000000 → stM L k f g ≤ 25) := by
  have := stv_rng hI (hand := L 24 6) (a := L 31 k) (b := L 31 (k + 1)) f1 f2 g1 g2
  unfold stM
  omega
theorem up_bd (hI : RuI L) : ∀ (k : Nat), (k : Int) ≤ 30 → ∀ f, 1 ≤ f → f ≤ 5 → up L k f < 1000000 → up L k f ≤ 20 + 45 * k ∧ okM L k f ∧ (0 < k → ∃ e, 1 ≤ e ∧ e ≤ 5 ∧ up L (k - 1) e < 1000000 ∧ stM L ((k : Int) - 1) e f < 1000000) := by
  intro k
  induction k with
  | zero =>
    intro _ f f1 f2 h
    have nc := ncv_rng hI (L 31 0) f
    unfold up at h ⊢
    split at h
    · rename_i q
      rw [if_pos q]
      refine ⟨?_, q, fun z => by omega⟩
      show ncv (L 30) (L 31 0) f ≤ _
      omega
    · omega
  | succ k ih =>
    intro hk f f1 f2 h
    have e : up L (k + 1) f = clp (nxV L (up L k) (k : Int) f) := rfl
    have hx : nxV L (up L k) (k : Int) f < 1000000 ∧ up L (k + 1) f = nxV L (up L k) (k : Int) f := by
      rw [e] at h ⊢
      unfold clp at h ⊢
      split at h
      · rename_i q; rw [if_pos q]; exact ⟨q, rfl⟩
      · omega
    rw [hx.2]
    have nc := ncv_rng hI (L 31 ((k : Int) + 1)) f
    have h' := hx.1
    unfold nxV at h' ⊢
    split at h'
    · rename_i q
      rw [if_pos q]
      have nc' : 0 ≤ ncM L ((k : Int) + 1) f ∧ ncM L ((k : Int) + 1) f ≤ 20 := nc
      obtain ⟨g, G⟩ := m5_at (φ := fun e => up L k e + stM L k e f) (by omega)
      have eg : up L k g + stM L k g f = m5 (fun e => up L k e + stM L k e f) := G.2.2.1
      have sf := stM_fin hI (k := k) G.1 G.2.1 f1 f2
      have ur := up_rng hI k g G.1 G.2.1
      have i1 := ih (by omega) g G.1 G.2.1 (by omega)
      refine ⟨by have := sf.2 (by omega); have := i1.1; omega, by rw [show ((k + 1 : Nat) : Int) = (k : Int) + 1 by omega]; exact q, fun _ => ⟨g, G.1, G.2.1, ?_, ?_⟩⟩
      · show up L (k + 1 - 1) g < 1000000
        rw [show k + 1 - 1 = k by omega]; omega
      · rw [show ((k + 1 : Nat) : Int) - 1 = (k : Int) by omega]; omega
    · omega
theorem up_mk (hI : RuI L) {k : Nat} (hk : (k : Int) + 1 ≤ 30) {e f : Int} (e1 : 1 ≤ e) (e2 : e ≤ 5) (f1 : 1 ≤ f) (f2 : f ≤ 5) (h : up L k e < 1000000) (hs : stM L k e f < 1000000) (ho : okM L ((k : Int) + 1) f) : up L (k + 1) f < 1000000 := by
  have nc := ncv_rng hI (L 31 ((k : Int) + 1)) f
  have nc' : 0 ≤ ncM L ((k : Int) + 1) f ∧ ncM L ((k : Int) + 1) f ≤ 20 := nc
  have sf := stM_fin hI (k := k) e1 e2 f1 f2
  have ub := (up_bd hI k (by omega) e e1 e2 h).1
  have le := m5_le (φ := fun e => up L k e + stM L k e f) e1 e2
  have le' : m5 (fun e => up L k e + stM L k e f) ≤ up L k e + stM L k e f := le
  have e : up L (k + 1) f = clp (nxV L (up L k) (k : Int) f) := rfl
  rw [e]
  unfold clp nxV
  rw [if_pos ho]
  have := sf.2 hs
  split <;> omega
theorem rsT_fin (hI : RuI L) : ∀ (d : Nat) (m : Int), m + d = L 24 7 - 1 → (d : Int) ≤ 30 → ∀ f, 1 ≤ f → f ≤ 5 → (rsT L m f < 1000000 → rsT L m f ≤ 45 * d ∧ (0 < d → ∃ g, 1 ≤ g ∧ g ≤ 5 ∧ stM L m f g < 1000000 ∧ okM L (m + 1) g ∧ rsT L (m + 1) g < 1000000)) ∧ (0 < d → ∀ g, 1 ≤ g → g ≤ 5 → stM L m f g < 1000000 → okM L (m + 1) g → rsT L (m + 1) g < 1000000 → rsT L m f < 1000000) := by
  intro d
  induction d with
  | zero =>
    intro m hm _ f f1 f2
    rw [rsT_s (by omega), if_neg (by omega)]
    exact ⟨fun _ => ⟨by omega, fun q => by omega⟩, fun q => by omega⟩
  | succ d ih =>
    intro m hm hd f f1 f2
    have i1 := fun g => ih (m + 1) (by omega) (by omega) g
    have er : rsT L m f = m5 (fun g => goM L m f g + rsT L (m + 1) g) := by rw [rsT_s (by omega), if_pos (by omega)]
    refine ⟨fun h => ?_, fun _ g g1 g2 s o r => ?_⟩
    · rw [er] at h ⊢
      obtain ⟨g, G⟩ := m5_at h
      have eg : goM L m f g + rsT L (m + 1) g = m5 (fun g => goM L m f g + rsT L (m + 1) g) := G.2.2.1
      have gr := goM_rng hI (k := m) f1 f2 G.1 G.2.1
      have rr := rsT_rng hI (k := m + 1) (by omega) G.1 G.2.1
      have j := ((i1 g G.1 G.2.1).1 (by omega)).1
      have gf : goM L m f g < 1000000 := by omega
      refine ⟨by omega, fun _ => ⟨g, G.1, G.2.1, ?_⟩⟩
      have nc : 0 ≤ ncM L (m + 1) g := (ncv_rng hI (L 31 (m + 1)) g).1
      unfold goM at gf
      split at gf
      · rename_i q; exact ⟨by omega, q, by omega⟩
      · omega
    · rw [er]
      have le := m5_le (φ := fun g => goM L m f g + rsT L (m + 1) g) g1 g2
      have le' : m5 (fun g => goM L m f g + rsT L (m + 1) g) ≤ goM L m f g + rsT L (m + 1) g := le
      have j := ((i1 g g1 g2).1 r).1
      have sf := (stM_fin hI (k := m) f1 f2 g1 g2).2 s
      have nc := (ncv_rng hI (L 31 (m + 1)) g).2
      have nc' : ncM L (m + 1) g ≤ 20 := nc
      have eg : goM L m f g = stM L m f g + ncM L (m + 1) g := if_pos o
      omega
/-- somewhere both can go on -/
theorem fin_all (hI : RuI L) {c : Nat} (hc : L 24 7 = c) (hc1 : (c : Int) ≤ 30) (hc0 : 0 < c) : ∀ (m : Nat), m < c → ((∃ f, 1 ≤ f ∧ f ≤ 5 ∧ up L m f < 1000000 ∧ rsT L m f < 1000000) ↔ ∃ f, 1 ≤ f ∧ f ≤ 5 ∧ up L 0 f < 1000000 ∧ rsT L 0 f < 1000000) := by
  intro m
  induction m with
  | zero => intro _; exact Iff.rfl
  | succ m ih =>
    intro hm
    refine Iff.trans ?_ (ih (by omega))
    rw [show ((m + 1 : Nat) : Int) = (m : Int) + 1 by omega]
    constructor
    · rintro ⟨g, g1, g2, u, r⟩
      obtain ⟨_, ok, q⟩ := up_bd hI (m + 1) (by omega) g g1 g2 u
      obtain ⟨e, e1, e2, ue, se⟩ := q (by omega)
      rw [show ((m + 1 : Nat) : Int) = (m : Int) + 1 by omega] at ok se
      rw [show (m : Int) + 1 - 1 = m by omega] at se
      rw [show m + 1 - 1 = m by omega] at ue
      exact ⟨e, e1, e2, ue, (rsT_fin hI (c - 1 - m) m (by omega) (by omega) e e1 e2).2 (by omega) g g1 g2 se ok r⟩
    · rintro ⟨f, f1, f2, u, r⟩
      obtain ⟨_, q⟩ := (rsT_fin hI (c - 1 - m) m (by omega) (by omega) f f1 f2).1 r
      obtain ⟨g, g1, g2, s, o, r2⟩ := q (by omega)
      exact ⟨g, g1, g2, up_mk hI (by omega) f1 f2 g1 g2 u s o, r2⟩
theorem m5_lt {φ : Int → Int} : m5 φ < 1000000 ↔ ∃ f, 1 ≤ f ∧ f ≤ 5 ∧ φ f < 1000000 := by
  constructor
  · intro h
    obtain ⟨g, G⟩ := m5_at h
    exact ⟨g, G.1, G.2.1, by rw [G.2.2.1]; exact h⟩
  · rintro ⟨f, f1, f2, h⟩
    have := m5_le (φ := φ) f1 f2
    omega
theorem up_tot (hI : RuI L) {k : Nat} (hc : L 24 7 = (k : Int) + 1) (hc1 : (k : Int) + 1 ≤ 30) (ht : L 24 12 = 0) : tot L < 1000000 ↔ m5 (up L k) < 1000000 := by
  have fa := fin_all hI (c := k + 1) (by omega) (by omega) (by omega) k (by omega)
  unfold tot
  rw [m5_lt, m5_lt]
  have eA : ∀ e, A0 L e = rsT L 0 e := fun e => by unfold A0; rw [if_neg (by omega)]
  have rk : ∀ f, rsT L k f = 0 := fun f => by rw [rsT_s (by omega), if_neg (by omega)]
  constructor
  · rintro ⟨f, f1, f2, h⟩
    unfold stC at h
    split at h
    · rename_i q
      rw [eA] at h
      have nc := ncv_rng hI (L 31 0) f
      have nc' : 0 ≤ ncM L 0 f ∧ ncM L 0 f ≤ 20 := nc
      have rr := rsT_rng hI (k := 0) (by omega) f1 f2
      have u0 : up L 0 f = ncM L 0 f := if_pos q
      obtain ⟨g, g1, g2, u, _⟩ := fa.mpr ⟨f, f1, f2, by omega, by show rsT L 0 f < _; omega⟩
      exact ⟨g, g1, g2, u⟩
    · omega
  · rintro ⟨f, f1, f2, h⟩
    obtain ⟨g, g1, g2, u, r⟩ := fa.mp ⟨f, f1, f2, h, by rw [rk]; omega⟩
    obtain ⟨_, ok, _⟩ := up_bd hI 0 (by omega) g g1 g2 u
    refine ⟨g, g1, g2, ?_⟩
    have ok' : okM L 0 g := ok
    unfold stC
    rw [if_pos ok', eA]
    have nc := ncv_rng hI (L 31 0) g
    have nc' : 0 ≤ ncM L 0 g ∧ ncM L 0 g ≤ 20 := nc
    have b := ((rsT_fin hI k 0 (by omega) (by omega) g g1 g2).1 r).1
    omega
theorem up_congr {L' : Mm} (h : ∀ c : Nat, c ≠ 24 → L' c = L c) (h6 : L' 24 6 = L 24 6) : ∀ k, up L' k = up L k := by
  intro k
  induction k with
  | zero => funext f; unfold up okM ncM; rw [h 32 (by omega), h 30 (by omega), h 31 (by omega)]
  | succ k ih =>
    funext f
    unfold up nxV okM ncM stM
    rw [ih, h 32 (by omega), h 30 (by omega), h 31 (by omega), h 27 (by omega), h 28 (by omega), h 29 (by omega), h6]
end Pf
