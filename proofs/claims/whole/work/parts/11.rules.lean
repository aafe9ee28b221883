/-! ===== prices and reaches: pure words (as the reference has its rows) ===== -/
def ncv (pr : Int → Int) (key f : Int) : Int := if f = 4 then pr 6 else if f = 1 ∧ blk key then pr 0 else if f = 5 ∧ blk key then pr 1 else 0
def rcv (le ea mo : Int → Int) (p far : Int) : Int := if far < le p ∨ mo p < far then 1000000 else if ea p < far then far - ea p else 0
def stv (pr le ea mo : Int → Int) (hand a f b g : Int) : Int :=
  let dd := if hand = 0 then b - a else a - b
  if dd = 0 then (if f = g then pr 5 else 0)
  else if f = g then (if blk a ∧ ¬ blk b ∧ (dd = 1 ∨ dd = -1) then pr 4 else pr 3)
  else if (0 < dd ↔ f < g) then rcv le ea mo (10 * min f g + max f g) dd.natAbs
  else if min f g = 1 ∧ max f g ≠ 5 ∧ dd ≤ 5 ∧ -5 ≤ dd then pr 2 + dd.natAbs else 1000000
def rp (f g : Int) : Int := 3 * ((f - 1) * (10 - f) / 2 + (g - f - 1))
/-- the rules: the class's rows are the reference's -/
def RuI (M : Mm) : Prop := (∀ k, 0 ≤ k → k < 7 → M 3 k = M 30 k ∧ 0 ≤ M 30 k ∧ M 30 k ≤ 20) ∧
  ∀ f g, 1 ≤ f → f < g → g ≤ 5 → M 4 (rp f g) = M 27 (10 * f + g) ∧ M 4 (rp f g + 1) = M 28 (10 * f + g) ∧ M 4 (rp f g + 2) = M 29 (10 * f + g) ∧ 0 ≤ M 27 (10 * f + g) ∧ M 27 (10 * f + g) ≤ M 28 (10 * f + g) ∧ M 28 (10 * f + g) ≤ M 29 (10 * f + g) ∧ M 29 (10 * f + g) ≤ 24
theorem divI_2 {x : Int} (h0 : 0 ≤ x) (h1 : x ≤ 1000) : divI x 2 = x / 2 := by
  have hx : R32 x := by constructor <;> omega
  unfold divI
  rw [Int32.toInt_div_of_ne_right _ _ (by decide +kernel), i32_toInt hx, i32_toInt (by decide)]
  exact Int.tdiv_eq_ediv_of_nonneg h0
theorem rp_rng {f g : Int} (h1 : 1 ≤ f) (h2 : f < g) (h3 : g ≤ 5) : 0 ≤ (f - 1) * (10 - f) ∧ (f - 1) * (10 - f) ≤ 18 ∧ 0 ≤ rp f g ∧ rp f g + 2 < 30 := by
  unfold rp
  have : f = 1 ∨ f = 2 ∨ f = 3 ∨ f = 4 := by omega
  rcases this with rfl | rfl | rfl | rfl <;> omega
theorem rp_inj {f g f' g' : Int} (h1 : 1 ≤ f) (h2 : f < g) (h3 : g ≤ 5) (h1' : 1 ≤ f') (h2' : f' < g') (h3' : g' ≤ 5) : (rp f g = rp f' g' ∧ f = f' ∧ g = g') ∨ rp f g + 3 ≤ rp f' g' ∨ rp f' g' + 3 ≤ rp f g := by
  unfold rp
  have q1 : f = 1 ∨ f = 2 ∨ f = 3 ∨ f = 4 := by omega
  have q2 : f' = 1 ∨ f' = 2 ∨ f' = 3 ∨ f' = 4 := by omega
  rcases q1 with rfl | rfl | rfl | rfl <;> rcases q2 with rfl | rfl | rfl | rfl <;> omega
theorem t_priceOf {N : Nat} {k : Int} {M : Mm} (h0 : 0 ≤ k) (h1 : k < 7) : Ret 1 0 0 mU_priceOf [.inr 2, .inl k] (S0 N) M (Pu (S0 N) M (M 3 k)) := by
  refine eU_priceOf [] 20 (Nat.le_of_ble_eq_true rfl) (fun hM => ?_)
  refine CL.pu (t_at rfl h0 h1 (Nat.le_of_ble_eq_true rfl)) (Nat.le_of_ble_eq_true rfl) ?_
  exact pu_eq rfl
theorem t_setPrice {N : Nat} {k v : Int} {M : Mm} (h0 : 0 ≤ k) (h1 : k < 7) (hv : R32 v) : Ret 1 0 0 mU_setPrice [.inr 2, .inl k, .inl v] (S0 N) M (Vo (S0 N) (mset M 3 k v)) := by
  refine eU_setPrice [] 20 (Nat.le_of_ble_eq_true rfl) (fun hM => ?_)
  refine CL.vo (t_store rfl (by decide) h0 h1 (Nat.le_of_ble_eq_true rfl) hv) (Nat.le_of_ble_eq_true rfl) (fun hM => ?_)
  exact vo_eq rfl
theorem t_reachPlace {N : Nat} {f g : Int} {M : Mm} (h1 : 1 ≤ f) (h2 : f < g) (h3 : g ≤ 5) : Ret 0 0 0 mU_reachPlace [.inl f, .inl g] (S0 N) M (Pu (S0 N) M (rp f g)) := by
  have h4 := rp_rng h1 h2 h3
  refine eU_reachPlace [] 30 (Nat.le_of_ble_eq_true rfl) (fun hM => ?_)
  refine ⟨⟨by decide, by decide⟩, ?_⟩
  rw [divI_2 (by omega) (by omega)]
  refine pu_eq ?_
  unfold rp
  omega
theorem t_reachPart {N : Nat} {f g w : Int} {M : Mm} (h1 : 1 ≤ f) (h2 : f < g) (h3 : g ≤ 5) (h4 : 0 ≤ w) (h5 : w < 3) : Ret 1 0 0 mU_reachPart [.inr 2, .inl f, .inl g, .inl w] (S0 N) M (Pu (S0 N) M (M 4 (rp f g + w))) := by
  have h6 := rp_rng h1 h2 h3
  refine eU_reachPart [] 30 (Nat.le_of_ble_eq_true rfl) (fun hM => ?_)
  refine CL.pu (t_reachPlace h1 h2 h3) (Nat.le_of_ble_eq_true rfl) ?_
  refine CL.pu (t_at (n := 30) rfl (by omega) (by omega) (Nat.le_of_ble_eq_true rfl)) (Nat.le_of_ble_eq_true rfl) ?_
  exact pu_eq rfl
theorem t_setReach {N : Nat} {f g l e m : Int} {M : Mm} (h1 : 1 ≤ f) (h2 : f < g) (h3 : g ≤ 5) (hl : R32 l) (he : R32 e) (hm : R32 m) : Ret 1 0 0 mU_setReach [.inr 2, .inl f, .inl g, .inl l, .inl e, .inl m] (S0 N) M (Vo (S0 N) (mset (mset (mset M 4 (rp f g) l) 4 (rp f g + 1) e) 4 (rp f g + 2) m)) := by
  have h6 := rp_rng h1 h2 h3
  refine eU_setReach [] 40 (Nat.le_of_ble_eq_true rfl) (fun hM => ?_)
  refine CL.pu (t_reachPlace h1 h2 h3) (Nat.le_of_ble_eq_true rfl) ?_
  refine CL.vo (t_store (n := 30) rfl (by decide) (by omega) (by omega) (Nat.le_of_ble_eq_true rfl) hl) (Nat.le_of_ble_eq_true rfl) (fun hM => ?_)
  refine CL.vo (t_store (n := 30) rfl (by decide) (by omega) (by omega) (Nat.le_of_ble_eq_true rfl) he) (Nat.le_of_ble_eq_true rfl) (fun hM => ?_)
  refine CL.vo (t_store (n := 30) rfl (by decide) (by omega) (by omega) (Nat.le_of_ble_eq_true rfl) hm) (Nat.le_of_ble_eq_true rfl) (fun hM => ?_)
  exact vo_eq rfl
theorem t_noteCost {N : Nat} {k f : Int} {M : Mm} (hI : RuI M) (h0 : 0 ≤ k) (h1 : k ≤ 1000) (hf : R32 f) : Ret 1 0 0 mU_noteCost [.inr 2, .inl k, .inl f] (S0 N) M (Pu (S0 N) M (ncv (M 30) k f)) := by
  have e6 := (hI.1 6 (by omega) (by omega)).1
  have e0 := (hI.1 0 (by omega) (by omega)).1
  have e1 := (hI.1 1 (by omega) (by omega)).1
  refine eU_noteCost [] 60 (Nat.le_of_ble_eq_true rfl) (fun hM => ?_)
  repeat' first
    | (exact pu_eq (by grind [ncv]))
    | (exact hM _ _)
    | (refine ite_i (fun _ => ?_) (fun _ => ?_))
    | (refine CL.bl (t_isBlack h0 h1) (Nat.le_of_ble_eq_true rfl) (fun _ => ?_) (fun _ => ?_))
    | (refine CL.pu (t_at (n := 7) rfl (by omega) (by omega) (Nat.le_of_ble_eq_true rfl)) (Nat.le_of_ble_eq_true rfl) ?_)
    | (exact trivial)
    | (omega)
    | (refine And.intro ?_ ?_)
theorem t_reachCost {N : Nat} {f g a : Int} {M : Mm} (hI : RuI M) (h1 : 1 ≤ f) (h2 : f < g) (h3 : g ≤ 5) (h4 : 0 ≤ a) (h5 : a ≤ 1000) : Ret 1 0 0 mU_reachCost [.inr 2, .inl (rp f g), .inl a] (S0 N) M (Pu (S0 N) M (if rcv (M 27) (M 28) (M 29) (10 * f + g) a = 1000000 then -9 else rcv (M 27) (M 28) (M 29) (10 * f + g) a)) := by
  have h6 := rp_rng h1 h2 h3
  obtain ⟨e1, e2, e3, e4, e5, e6, e7⟩ := hI.2 f g h1 h2 h3
  have hv : ∀ x, x = rcv (M 27) (M 28) (M 29) (10 * f + g) a → x ≤ 1000 → x = (if rcv (M 27) (M 28) (M 29) (10 * f + g) a = 1000000 then -9 else rcv (M 27) (M 28) (M 29) (10 * f + g) a) := by
    intro x hx hl
    rw [← hx, if_neg (by omega)]
  have hw : rcv (M 27) (M 28) (M 29) (10 * f + g) a = 1000000 → -9 = (if rcv (M 27) (M 28) (M 29) (10 * f + g) a = 1000000 then -9 else rcv (M 27) (M 28) (M 29) (10 * f + g) a) := fun h => by rw [if_pos h]
  refine eU_reachCost [] 60 (Nat.le_of_ble_eq_true rfl) (fun hM => ?_)
  refine ⟨by omega, ite_i (fun q => by omega) (fun q => ?_)⟩
  refine ⟨by omega, ite_i (fun q => ?_) (fun q => by omega)⟩
  refine ⟨by omega, ⟨by omega, hM _ _⟩, ite_i (fun q => ?_) (fun q => ?_)⟩
  · exact pu_eq (hw (by unfold rcv; rw [if_pos (by omega)]))
  · refine ⟨by omega, ⟨by omega, hM _ _⟩, ite_i (fun q => ?_) (fun q => ?_)⟩
    · exact pu_eq (hw (by unfold rcv; rw [if_pos (by omega)]))
    · refine ⟨by omega, ⟨by omega, hM _ _⟩, ite_i (fun q => ?_) (fun q => ?_)⟩
      · exact pu_eq (hv _ (by unfold rcv; rw [if_neg (by omega), if_pos (by omega)]; omega) (by omega))
      · exact pu_eq (hv _ (by unfold rcv; rw [if_neg (by omega), if_neg (by omega)]) (by omega))
theorem t_stepCost {N : Nat} {sd hand a f b g : Int} {M : Mm} (hI : RuI M) (hsd : (hand = 0 ∧ sd = 1) ∨ (hand = 1 ∧ sd = -1)) (ha0 : 0 ≤ a) (ha1 : a < 60) (hb0 : 0 ≤ b) (hb1 : b < 60) (hf0 : 1 ≤ f) (hf1 : f ≤ 5) (hg0 : 1 ≤ g) (hg1 : g ≤ 5) : Ret 2 0 0 mU_stepCost [.inr 2, .inl sd, .inl a, .inl f, .inl b, .inl g] (S0 N) M (Pu (S0 N) M (if stv (M 30) (M 27) (M 28) (M 29) hand a f b g = 1000000 then -9 else stv (M 30) (M 27) (M 28) (M 29) hand a f b g)) := by
  have e5 := hI.1 5 (by omega) (by omega)
  have e4 := hI.1 4 (by omega) (by omega)
  have e3 := hI.1 3 (by omega) (by omega)
  have e2 := hI.1 2 (by omega) (by omega)
  have hdd : (b - a) * sd = (if hand = 0 then b - a else a - b) := by
    rcases hsd with ⟨rfl, rfl⟩ | ⟨rfl, rfl⟩ <;> simp <;> omega
  have hdr : -59 ≤ (if hand = 0 then b - a else a - b) ∧ (if hand = 0 then b - a else a - b) ≤ 59 := by split <;> omega
  generalize hE : (if stv (M 30) (M 27) (M 28) (M 29) hand a f b g = 1000000 then -9 else stv (M 30) (M 27) (M 28) (M 29) hand a f b g) = E
  unfold stv at hE
  dsimp only at hE
  generalize (if hand = 0 then b - a else a - b) = dd at hE hdd hdr
  refine eU_stepCost [] 120 (Nat.le_of_ble_eq_true rfl) (fun hM => ?_)
  conv => whnf
  rw [hdd]
  refine ⟨by omega, ?_⟩
  refine ⟨by omega, ite_i (fun q => ?_) (fun q => ?_)⟩
  · rw [if_pos q] at hE
    refine ⟨by omega, ite_i (fun q => ?_) (fun q => ?_)⟩
    · refine CL.pu (t_at (n := 7) rfl (by omega) (by omega) (Nat.le_of_ble_eq_true rfl)) (Nat.le_of_ble_eq_true rfl) ?_
      refine pu_eq ?_
      rw [← hE, if_pos q, if_neg (by omega)]; exact e5.1
    · refine pu_eq ?_
      rw [← hE, if_neg q, if_neg (by omega)]
  · rw [if_neg q] at hE
    refine ⟨by omega, ite_i (fun q2 => ?_) (fun q2 => ?_)⟩
    · rw [if_pos q2] at hE
      have l4 : blk a ∧ ¬ blk b ∧ (dd = 1 ∨ dd = -1) → M 3 4 = E := fun h => by rw [← hE, if_pos h, if_neg (by omega)]; exact e4.1
      have l3 : ¬ (blk a ∧ ¬ blk b ∧ (dd = 1 ∨ dd = -1)) → M 3 3 = E := fun h => by rw [← hE, if_neg h, if_neg (by omega)]; exact e3.1
      refine ⟨by omega, ite_i (fun q3 => ?_) (fun q3 => ?_)⟩
      · refine CL.bl (t_isBlack ha0 (by omega)) (Nat.le_of_ble_eq_true rfl) (fun q4 => ?_) (fun q4 => ?_)
        · refine ⟨R32_1, ?_⟩
          refine CL.bl (t_isBlack hb0 (by omega)) (Nat.le_of_ble_eq_true rfl) (fun q5 => ?_) (fun q5 => ?_)
          · exact ⟨R32_1, R32_0, CL.pu (t_at (n := 7) rfl (by omega) (by omega) (Nat.le_of_ble_eq_true rfl)) (Nat.le_of_ble_eq_true rfl) (pu_eq (l3 (by intro h; exact h.2.1 q5)))⟩
          · exact ⟨R32_0, R32_1, CL.pu (t_at (n := 7) rfl (by omega) (by omega) (Nat.le_of_ble_eq_true rfl)) (Nat.le_of_ble_eq_true rfl) (pu_eq (l4 ⟨q4, q5, by omega⟩))⟩
        · exact ⟨R32_0, R32_0, CL.pu (t_at (n := 7) rfl (by omega) (by omega) (Nat.le_of_ble_eq_true rfl)) (Nat.le_of_ble_eq_true rfl) (pu_eq (l3 (by intro h; exact q4 h.1)))⟩
      · exact ⟨R32_0, CL.pu (t_at (n := 7) rfl (by omega) (by omega) (Nat.le_of_ble_eq_true rfl)) (Nat.le_of_ble_eq_true rfl) (pu_eq (l3 (by intro h; omega)))⟩
    · rw [if_neg q2] at hE
      refine ⟨by omega, by omega, by omega, ite_i (fun q3 => ?_) (fun q3 => ?_)⟩
      · refine ⟨by omega, ite_i (fun q4 => ?_) (fun q4 => ?_)⟩
        · refine ⟨⟨R32_1, R32_1⟩, ?_⟩
          refine CL.pu (t_reachPlace (by omega) (by omega) (by omega)) (Nat.le_of_ble_eq_true rfl) ?_
          refine CL.pu (t_reachCost hI (by omega) (by omega) (by omega) (by omega) (by omega)) (Nat.le_of_ble_eq_true rfl) (pu_eq ?_)
          rw [if_pos (by omega : (0 < dd ↔ f < g))] at hE
          exact hE
        · refine ⟨⟨R32_1, R32_0⟩, ?_⟩
          rw [if_neg (by omega : ¬ (0 < dd ↔ f < g))] at hE
          refine ⟨by omega, ite_i (fun q5 => ?_) (fun q5 => ?_)⟩
          · refine ⟨by omega, ite_i (fun q6 => ?_) (fun q6 => ?_)⟩
            · refine ⟨R32_0, pu_eq ?_⟩
              rw [if_neg (show ¬ (min f g = 1 ∧ max f g ≠ 5 ∧ dd ≤ 5 ∧ -5 ≤ dd) by omega), if_pos rfl] at hE
              exact hE
            · refine ⟨by omega, ite_i (fun q7 => ?_) (fun q7 => ?_)⟩
              · refine ⟨R32_0, pu_eq ?_⟩
                rw [if_neg (show ¬ (min f g = 1 ∧ max f g ≠ 5 ∧ dd ≤ 5 ∧ -5 ≤ dd) by omega), if_pos rfl] at hE
                exact hE
              · refine ⟨R32_1, ?_⟩
                refine CL.pu (t_at (n := 7) rfl (by omega) (by omega) (Nat.le_of_ble_eq_true rfl)) (Nat.le_of_ble_eq_true rfl) (pu_eq ?_)
                rw [if_pos (show min f g = 1 ∧ max f g ≠ 5 ∧ dd ≤ 5 ∧ -5 ≤ dd by omega), if_neg (by omega)] at hE
                rw [← hE, e2.1]
          · refine ⟨R32_0, pu_eq ?_⟩
            rw [if_neg (show ¬ (min f g = 1 ∧ max f g ≠ 5 ∧ dd ≤ 5 ∧ -5 ≤ dd) by omega), if_pos rfl] at hE
            exact hE
      · refine ⟨by omega, ite_i (fun q4 => ?_) (fun q4 => ?_)⟩
        · refine ⟨⟨R32_0, R32_1⟩, ?_⟩
          rw [if_neg (by omega : ¬ (0 < dd ↔ f < g))] at hE
          refine ⟨by omega, ite_i (fun q5 => ?_) (fun q5 => ?_)⟩
          · refine ⟨by omega, ite_i (fun q6 => ?_) (fun q6 => ?_)⟩
            · refine ⟨R32_0, pu_eq ?_⟩
              rw [if_neg (show ¬ (min f g = 1 ∧ max f g ≠ 5 ∧ dd ≤ 5 ∧ -5 ≤ dd) by omega), if_pos rfl] at hE
              exact hE
            · refine ⟨by omega, ite_i (fun q7 => ?_) (fun q7 => ?_)⟩
              · refine ⟨R32_0, pu_eq ?_⟩
                rw [if_neg (show ¬ (min f g = 1 ∧ max f g ≠ 5 ∧ dd ≤ 5 ∧ -5 ≤ dd) by omega), if_pos rfl] at hE
                exact hE
              · refine ⟨R32_1, ?_⟩
                refine CL.pu (t_at (n := 7) rfl (by omega) (by omega) (Nat.le_of_ble_eq_true rfl)) (Nat.le_of_ble_eq_true rfl) (pu_eq ?_)
                rw [if_pos (show min f g = 1 ∧ max f g ≠ 5 ∧ dd ≤ 5 ∧ -5 ≤ dd by omega), if_neg (by omega)] at hE
                rw [← hE, e2.1]
          · refine ⟨R32_0, pu_eq ?_⟩
            rw [if_neg (show ¬ (min f g = 1 ∧ max f g ≠ 5 ∧ dd ≤ 5 ∧ -5 ≤ dd) by omega), if_pos rfl] at hE
            exact hE
        · refine ⟨⟨R32_0, R32_0⟩, ?_⟩
          refine CL.pu (t_reachPlace (by omega) (by omega) (by omega)) (Nat.le_of_ble_eq_true rfl) ?_
          refine CL.pu (t_reachCost hI (by omega) (by omega) (by omega) (by omega) (by omega)) (Nat.le_of_ble_eq_true rfl) (pu_eq ?_)
          rw [if_pos (by omega : (0 < dd ↔ f < g))] at hE
          exact hE
