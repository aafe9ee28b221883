/-! ===== the reference: calls that change its rows ===== -/
/-- an int and a memory -/
def Pv (S : Ly) (M1 : Mm) (x : Int) : Option Vl → Ly → Mm → Prop := fun r S' M' => r = some (.inl x) ∧ S' = S ∧ M' = M1
theorem pv_eq {S : Ly} {M1 M2 : Mm} {x y : Int} (h : x = y) (h2 : M2 = M1) : Pv S M1 y (some (.inl x)) S M2 := by
  subst h; subst h2; exact ⟨rfl, rfl, rfl⟩
abbrev isH (h : Int) : Prop := h = 0 ∨ h = 1
abbrev isM (m : Int) : Prop := 0 ≤ m ∧ m < 30
abbrev isF (f : Int) : Prop := 1 ≤ f ∧ f ≤ 5
abbrev isK (k : Int) : Prop := 0 ≤ k ∧ k < 60
/-- nothing is found any more -/
def chg (M : Mm) : Mm := mset (mset M 24 18 0) 24 19 0
section Set
variable {N : Nat} {M : Mm} {h m key : Int}
abbrev putK (h m key : Int) : Prop := (isH h ∧ isM m) ∧ (key = -9 ∨ isK key)
def putV (M : Mm) (h m key : Int) : Int := if isH h ∧ isM m then (if key = -9 ∨ isK key then M 25 (30 * h + m) else -2) else -1
theorem z_put (hr : R32 h) (hm : R32 m) (hk : R32 key) : Ret 2 0 0 mM_put [.inr 24, .inl h, .inl m, .inl key] (S0 N) M (Pv (S0 N) (if putK h m key then chg (lay1 M (30 * h + m) key) else M) (putV M h m key)) := by
  have go : isH h → isM m → (key = -9 ∨ isK key) → AJ 2 0 0 mM_put (Pv (S0 N) (if putK h m key then chg (lay1 M (30 * h + m) key) else M) (putV M h m key)) 0 0 32 [some (.inr 24), some (.inl h), some (.inl m), some (.inl key)] [] (S0 N) M := by
    intro q1 q2 q3
    refine aM_put [] 40 (fun hM => ?_)
    refine ⟨by omega, ?_⟩
    refine CL.vo (z_lays q1 q2.1 q2.2 hk) (Nat.le_of_ble_eq_true rfl) (fun hM2 => ?_)
    refine CL.vo z_isChanged (Nat.le_of_ble_eq_true rfl) (fun hM3 => ?_)
    exact pv_eq (by unfold putV; rw [if_pos ⟨q1, q2⟩, if_pos q3]) (by rw [if_pos ⟨⟨q1, q2⟩, q3⟩]; rfl)
  refine eM_put [32] 40 (Nat.le_of_ble_eq_true rfl) (fun hM => ?_)
  refine CL.bl (z_isHand hr) (Nat.le_of_ble_eq_true rfl) (fun q1 => ?_) (fun q1 => ?_)
  · refine ⟨R32_1, CL.bl (z_isMoment hm) (Nat.le_of_ble_eq_true rfl) (fun q2 => ?_) (fun q2 => ?_)⟩
    · refine ⟨R32_1, by omega, ite_i (fun q3 => ?_) (fun q3 => ?_)⟩
      · exact go q1 q2 (Or.inl q3)
      · refine CL.bl (z_isKey hk) (Nat.le_of_ble_eq_true rfl) (fun q4 => ?_) (fun q4 => ?_)
        · exact ⟨R32_1, go q1 q2 (Or.inr q4)⟩
        · refine ⟨R32_0, pv_eq (by unfold putV; rw [if_pos ⟨q1, q2⟩, if_neg (by omega)]) (by rw [if_neg (fun z => by have := z.2; omega)])⟩
    · exact ⟨R32_0, pv_eq (by unfold putV; rw [if_neg (fun z => q2 z.2)]) (by rw [if_neg (fun z => q2 z.1.2)])⟩
  · exact ⟨R32_0, pv_eq (by unfold putV; rw [if_neg (fun z => q1 z.1)]) (by rw [if_neg (fun z => q1 z.1.1)])⟩
abbrev markK (M : Mm) (h m f : Int) : Prop := (isH h ∧ isM m) ∧ (f = -9 ∨ isF f) ∧ M 25 (30 * h + m) ≠ -9
def markV (M : Mm) (h m f : Int) : Int := if isH h ∧ isM m then (if f = -9 ∨ isF f then (if M 25 (30 * h + m) = -9 then -3 else M 26 (30 * h + m)) else -2) else -1
theorem z_mark {f : Int} (hr : R32 h) (hm : R32 m) (hk : R32 f) : Ret 2 0 0 mM_mark [.inr 24, .inl h, .inl m, .inl f] (S0 N) M (Pv (S0 N) (if markK M h m f then chg (mset M 26 (30 * h + m) f) else M) (markV M h m f)) := by
  have go : isH h → isM m → (f = -9 ∨ isF f) → AJ 2 0 0 mM_mark (Pv (S0 N) (if markK M h m f then chg (mset M 26 (30 * h + m) f) else M) (markV M h m f)) 0 0 32 [some (.inr 24), some (.inl h), some (.inl m), some (.inl f)] [] (S0 N) M := by
    intro q1 q2 q3
    refine aM_mark [] 40 (fun hM => ?_)
    refine ⟨by omega, ⟨hM _ _, by decide⟩, ite_i (fun q4 => ?_) (fun q4 => ?_)⟩
    · exact pv_eq (by unfold markV; rw [if_pos ⟨q1, q2⟩, if_pos q3, if_pos q4]) (by rw [if_neg (fun z => z.2.2 q4)])
    · refine ⟨by omega, ⟨by decide, by omega, by omega, by omega, hk⟩, ?_⟩
      refine CL.vo z_isChanged (Nat.le_of_ble_eq_true rfl) (fun hM3 => ?_)
      exact pv_eq (by unfold markV; rw [if_pos ⟨q1, q2⟩, if_pos q3, if_neg q4]) (by rw [if_pos ⟨⟨q1, q2⟩, q3, q4⟩]; rfl)
  refine eM_mark [32] 40 (Nat.le_of_ble_eq_true rfl) (fun hM => ?_)
  refine CL.bl (z_isHand hr) (Nat.le_of_ble_eq_true rfl) (fun q1 => ?_) (fun q1 => ?_)
  · refine ⟨R32_1, CL.bl (z_isMoment hm) (Nat.le_of_ble_eq_true rfl) (fun q2 => ?_) (fun q2 => ?_)⟩
    · refine ⟨R32_1, by omega, ite_i (fun q3 => ?_) (fun q3 => ?_)⟩
      · exact go q1 q2 (Or.inl q3)
      · refine CL.bl (z_isFinger hk) (Nat.le_of_ble_eq_true rfl) (fun q4 => ?_) (fun q4 => ?_)
        · exact ⟨R32_1, go q1 q2 (Or.inr q4)⟩
        · refine ⟨R32_0, pv_eq (by unfold markV; rw [if_pos ⟨q1, q2⟩, if_neg (by omega)]) (by rw [if_neg (fun z => by have := z.2.1; omega)])⟩
    · exact ⟨R32_0, pv_eq (by unfold markV; rw [if_neg (fun z => q2 z.2)]) (by rw [if_neg (fun z => q2 z.1.2)])⟩
  · exact ⟨R32_0, pv_eq (by unfold markV; rw [if_neg (fun z => q1 z.1)]) (by rw [if_neg (fun z => q1 z.1.1)])⟩
abbrev priceK (k v : Int) : Prop := (0 ≤ k ∧ k ≤ 6) ∧ 0 ≤ v ∧ v ≤ 20
def priceV (M : Mm) (k v : Int) : Int := if priceK k v then M 30 k else -2
theorem z_price {k v : Int} (hr : R32 k) (hm : R32 v) : Ret 2 0 0 mM_price [.inr 24, .inl k, .inl v] (S0 N) M (Pv (S0 N) (if priceK k v then chg (mset M 30 k v) else M) (priceV M k v)) := by
  refine eM_price [] 40 (Nat.le_of_ble_eq_true rfl) (fun hM => ?_)
  refine CL.bl (z_within hr R32_0 (by decide)) (Nat.le_of_ble_eq_true rfl) (fun q1 => ?_) (fun q1 => ?_)
  · refine ⟨R32_1, CL.bl (z_within hm R32_0 (by decide)) (Nat.le_of_ble_eq_true rfl) (fun q2 => ?_) (fun q2 => ?_)⟩
    · refine ⟨R32_1, by omega, ⟨by decide, by omega, by omega, by omega, hm⟩, ?_⟩
      refine CL.vo z_isChanged (Nat.le_of_ble_eq_true rfl) (fun hM3 => ?_)
      exact pv_eq (by unfold priceV; rw [if_pos ⟨q1, q2⟩]) (by rw [if_pos ⟨q1, q2⟩]; rfl)
    · exact ⟨R32_0, pv_eq (by unfold priceV; rw [if_neg (fun z => q2 z.2)]) (by rw [if_neg (fun z => q2 z.2)])⟩
  · exact ⟨R32_0, pv_eq (by unfold priceV; rw [if_neg (fun z => q1 z.1)]) (by rw [if_neg (fun z => q1 z.1)])⟩
abbrev tieK (h i j n : Int) : Prop := isH h ∧ (0 ≤ i ∧ i ≤ 28) ∧ (1 ≤ j ∧ j ≤ 29) ∧ (1 ≤ n ∧ n ≤ 15) ∧ i + n ≤ j
def tieE (M : Mm) (h i j n : Int) : Mm := mset (mset (mset M 40 h i) 41 h j) 42 h n
def tieV (M : Mm) (h i j n : Int) : Int := if isH h then (if tieK h i j n then bi (j + n ≤ cnt (fK M h) 30) else -2) else -1
theorem z_ties {i j n : Int} (q : isH h) (hT : TieI M) (hi : 0 ≤ i ∧ i ≤ 28) (hj : 1 ≤ j ∧ j ≤ 29) (hn : 1 ≤ n ∧ n ≤ 15) (hij : i + n ≤ j) : Ret 2 0 0 mM_ties [.inr 24, .inl h, .inl i, .inl j, .inl n] (S0 N) M (Pv (S0 N) (chg (tieE M h i j n)) (bi (j + n ≤ cnt (fK M h) 30))) := by
  refine eM_ties [] 40 (Nat.le_of_ble_eq_true rfl) (fun hM => ?_)
  refine ⟨⟨by decide, by omega, by omega, by omega, by omega⟩, ⟨by decide, by omega, by omega, by omega, by omega⟩, ⟨by decide, by omega, by omega, by omega, by omega⟩, ?_⟩
  refine CL.vo z_isChanged (Nat.le_of_ble_eq_true rfl) (fun hM3 => ?_)
  have f : ∀ c jj, c ≠ 24 → (chg (tieE M h i j n)) c jj = (tieE M h i j n) c jj := fun c jj hc => by unfold chg; rw [mset_ne (by omega), mset_ne (by omega)]
  have e40 : ∀ x, (chg (tieE M h i j n)) 40 x = if x = h then i else M 40 x := fun x => by
    rw [f _ _ (by omega)]; unfold tieE; rw [mset_ne (by omega), mset_ne (by omega)]; unfold mset; simp
  have e41 : ∀ x, (chg (tieE M h i j n)) 41 x = if x = h then j else M 41 x := fun x => by
    rw [f _ _ (by omega)]; unfold tieE; rw [mset_ne (by omega)]; unfold mset; simp
  have e42 : ∀ x, (chg (tieE M h i j n)) 42 x = if x = h then n else M 42 x := fun x => by
    rw [f _ _ (by omega)]; unfold tieE mset; simp
  have e25 : ∀ x, (chg (tieE M h i j n)) 25 x = M 25 x := fun x => by
    rw [f _ _ (by omega)]; unfold tieE; rw [mset_ne (by omega), mset_ne (by omega), mset_ne (by omega)]
  have hT2 : TieI (chg (tieE M h i j n)) := by
    intro x hx
    have := hT x hx
    rw [e40, e41, e42]
    by_cases hxh : x = h
    · rw [if_pos hxh, if_pos hxh, if_pos hxh]; right; omega
    · rw [if_neg hxh, if_neg hxh, if_neg hxh]; exact this
  have ht : thd (chg (tieE M h i j n)) h ↔ j + n ≤ cnt (fK M h) 30 := by
    unfold thd
    rw [e40, e41, e42, if_pos rfl, if_pos rfl, if_pos rfl, cnt_fr e25]
    omega
  refine CL.bl (z_doesTieHold q hT2) (Nat.le_of_ble_eq_true rfl) (fun q2 => ?_) (fun q2 => ?_)
  · exact ⟨R32_1, pv_eq (bi_t (ht.mp q2)).symm rfl⟩
  · exact ⟨R32_0, pv_eq (bi_f (fun z => q2 (ht.mpr z))).symm rfl⟩
theorem z_tie {i j n : Int} (hr : R32 h) (hi : R32 i) (hj : R32 j) (hn : R32 n) (hT : TieI M) : Ret 3 0 0 mM_tie [.inr 24, .inl h, .inl i, .inl j, .inl n] (S0 N) M (Pv (S0 N) (if tieK h i j n then chg (tieE M h i j n) else M) (tieV M h i j n)) := by
  refine eM_tie [] 40 (Nat.le_of_ble_eq_true rfl) (fun hM => ?_)
  refine CL.bl (z_isHand hr) (Nat.le_of_ble_eq_true rfl) (fun q1 => ?_) (fun q1 => ?_)
  · have bad : ¬ tieK h i j n → Pv (S0 N) (if tieK h i j n then chg (tieE M h i j n) else M) (tieV M h i j n) (some (.inl (-2))) (S0 N) M := fun q => pv_eq (by unfold tieV; rw [if_pos q1, if_neg q]) (by rw [if_neg q])
    refine ⟨R32_1, CL.bl (z_within hi R32_0 (by decide)) (Nat.le_of_ble_eq_true rfl) (fun q2 => ?_) (fun q2 => ?_)⟩
    · refine ⟨R32_1, CL.bl (z_within hj R32_1 (by decide)) (Nat.le_of_ble_eq_true rfl) (fun q3 => ?_) (fun q3 => ?_)⟩
      · refine ⟨R32_1, CL.bl (z_within hn R32_1 (by decide)) (Nat.le_of_ble_eq_true rfl) (fun q4 => ?_) (fun q4 => ?_)⟩
        · refine ⟨R32_1, by omega, ite_i (fun q5 => ?_) (fun q5 => ?_)⟩
          · exact bad (fun z => absurd z.2.2.2.2 (by omega))
          · refine ⟨2, _, (Nat.le_of_ble_eq_true rfl), z_ties q1 hT q2 q3 q4 (by omega), ?_⟩
            rintro r S' M' ⟨rfl, rfl, rfl⟩ hM'
            have ok : tieK h i j n := ⟨q1, q2, q3, q4, by omega⟩
            exact pv_eq (by unfold tieV; rw [if_pos q1, if_pos ok]) (by rw [if_pos ok])
        · exact ⟨R32_0, bad (fun z => q4 z.2.2.2.1)⟩
      · exact ⟨R32_0, bad (fun z => q3 z.2.2.1)⟩
    · exact ⟨R32_0, bad (fun z => q2 z.2.1)⟩
  · exact ⟨R32_0, pv_eq (by unfold tieV; rw [if_neg q1]) (by rw [if_neg (fun z => q1 z.1)])⟩
def untieV (M : Mm) (h : Int) : Int := if isH h then bi (M 40 h ≠ -9) else -1
theorem z_untie (hr : R32 h) : Ret 2 0 0 mM_untie [.inr 24, .inl h] (S0 N) M (Pv (S0 N) (if isH h then chg (mset M 40 h (-9)) else M) (untieV M h)) := by
  refine eM_untie [] 40 (Nat.le_of_ble_eq_true rfl) (fun hM => ?_)
  refine CL.bl (z_isHand hr) (Nat.le_of_ble_eq_true rfl) (fun q1 => ?_) (fun q1 => ?_)
  · refine ⟨R32_1, by omega, ⟨hM _ _, by decide⟩, ite_i (fun q2 => ?_) (fun q2 => ?_)⟩
    · refine ⟨⟨by decide, by omega, by omega, by omega, by decide⟩, ?_⟩
      refine CL.vo z_isChanged (Nat.le_of_ble_eq_true rfl) (fun hM3 => ?_)
      exact pv_eq (by unfold untieV; rw [if_pos q1]; exact (bi_f (fun z => z q2)).symm) (by rw [if_pos q1]; rfl)
    · refine ⟨⟨by decide, by omega, by omega, by omega, by decide⟩, ?_⟩
      refine CL.vo z_isChanged (Nat.le_of_ble_eq_true rfl) (fun hM3 => ?_)
      exact pv_eq (by unfold untieV; rw [if_pos q1]; exact (bi_t q2).symm) (by rw [if_pos q1]; rfl)
  · exact ⟨R32_0, pv_eq (by unfold untieV; rw [if_neg q1]) (by rw [if_neg q1])⟩
abbrev reachK (f g l e o : Int) : Prop := (isF f ∧ isF g) ∧ ((0 ≤ l ∧ l ≤ 24) ∧ (l ≤ e ∧ e ≤ 24) ∧ e ≤ o ∧ o ≤ 24) ∧ f < g
def reachV (f g l e o : Int) : Int := if isF f ∧ isF g then (if (0 ≤ l ∧ l ≤ 24) ∧ (l ≤ e ∧ e ≤ 24) ∧ e ≤ o ∧ o ≤ 24 then (if f < g then 1 else -3) else -2) else -1
def reachE (M : Mm) (f g l e o : Int) : Mm := mset (mset (mset M 27 (10 * f + g) l) 28 (10 * f + g) e) 29 (10 * f + g) o
theorem z_reach {f g l e o : Int} (hf : R32 f) (hg : R32 g) (hl : R32 l) (he : R32 e) (ho : R32 o) : Ret 2 0 0 mM_reach [.inr 24, .inl f, .inl g, .inl l, .inl e, .inl o] (S0 N) M (Pv (S0 N) (if reachK f g l e o then chg (reachE M f g l e o) else M) (reachV f g l e o)) := by
  refine eM_reach [] 60 (Nat.le_of_ble_eq_true rfl) (fun hM => ?_)
  refine CL.bl (z_isFinger hf) (Nat.le_of_ble_eq_true rfl) (fun q1 => ?_) (fun q1 => ?_)
  · refine ⟨R32_1, CL.bl (z_isFinger hg) (Nat.le_of_ble_eq_true rfl) (fun q2 => ?_) (fun q2 => ?_)⟩
    · have bad : ¬ ((0 ≤ l ∧ l ≤ 24) ∧ (l ≤ e ∧ e ≤ 24) ∧ e ≤ o ∧ o ≤ 24) → Pv (S0 N) (if reachK f g l e o then chg (reachE M f g l e o) else M) (reachV f g l e o) (some (.inl (-2))) (S0 N) M := fun q => pv_eq (by unfold reachV; rw [if_pos ⟨q1, q2⟩, if_neg q]) (by rw [if_neg (fun z => q z.2.1)])
      refine ⟨R32_1, CL.bl (z_within hl R32_0 (by decide)) (Nat.le_of_ble_eq_true rfl) (fun q3 => ?_) (fun q3 => ?_)⟩
      · refine ⟨R32_1, CL.bl (z_within he hl (by decide)) (Nat.le_of_ble_eq_true rfl) (fun q4 => ?_) (fun q4 => ?_)⟩
        · refine ⟨R32_1, CL.bl (z_within ho he (by decide)) (Nat.le_of_ble_eq_true rfl) (fun q5 => ?_) (fun q5 => ?_)⟩
          · have q6 : (0 ≤ l ∧ l ≤ 24) ∧ (l ≤ e ∧ e ≤ 24) ∧ e ≤ o ∧ o ≤ 24 := ⟨q3, q4, q5⟩
            refine ⟨R32_1, by omega, ite_i (fun q7 => ?_) (fun q7 => ?_)⟩
            · refine ⟨⟨by decide, by omega, by omega, by omega, by omega⟩, ⟨by decide, by omega, by omega, by omega, by omega⟩, ⟨by decide, by omega, by omega, by omega, by omega⟩, ?_⟩
              refine CL.vo z_isChanged (Nat.le_of_ble_eq_true rfl) (fun hM3 => ?_)
              exact pv_eq (by unfold reachV; rw [if_pos ⟨q1, q2⟩, if_pos q6, if_pos q7]) (by rw [if_pos ⟨⟨q1, q2⟩, q6, q7⟩]; rfl)
            · exact pv_eq (by unfold reachV; rw [if_pos ⟨q1, q2⟩, if_pos q6, if_neg q7]) (by rw [if_neg (fun z => q7 z.2.2)])
          · exact ⟨R32_0, bad (fun z => q5 z.2.2)⟩
        · exact ⟨R32_0, bad (fun z => q4 z.2.1)⟩
      · exact ⟨R32_0, bad (fun z => q3 z.1)⟩
    · exact ⟨R32_0, pv_eq (by unfold reachV; rw [if_neg (fun z => q2 z.2)]) (by rw [if_neg (fun z => q2 z.1.2)])⟩
  · exact ⟨R32_0, pv_eq (by unfold reachV; rw [if_neg (fun z => q1 z.1)]) (by rw [if_neg (fun z => q1 z.1.1)])⟩
def reachOfV (M : Mm) (f g w : Int) : Int := if isF f ∧ isF g then (if 0 ≤ w ∧ w ≤ 2 then (if f < g then (if w = 0 then M 27 (10 * f + g) else if w = 1 then M 28 (10 * f + g) else M 29 (10 * f + g)) else -3) else -2) else -1
theorem z_reachOf {f g w : Int} (hf : R32 f) (hg : R32 g) (hw : R32 w) : Ret 2 0 0 mM_reachOf [.inr 24, .inl f, .inl g, .inl w] (S0 N) M (Pu (S0 N) M (reachOfV M f g w)) := by
  refine eM_reachOf [] 60 (Nat.le_of_ble_eq_true rfl) (fun hM => ?_)
  refine CL.bl (z_isFinger hf) (Nat.le_of_ble_eq_true rfl) (fun q1 => ?_) (fun q1 => ?_)
  · refine ⟨R32_1, CL.bl (z_isFinger hg) (Nat.le_of_ble_eq_true rfl) (fun q2 => ?_) (fun q2 => ?_)⟩
    · refine ⟨R32_1, CL.bl (z_within hw R32_0 (by decide)) (Nat.le_of_ble_eq_true rfl) (fun q3 => ?_) (fun q3 => ?_)⟩
      · refine ⟨R32_1, by omega, ite_i (fun q4 => ?_) (fun q4 => ?_)⟩
        · refine ⟨by omega, ite_i (fun q5 => ?_) (fun q5 => ?_)⟩
          · exact ⟨by omega, pu_eq (by unfold reachOfV; rw [if_pos ⟨q1, q2⟩, if_pos q3, if_pos q4, if_pos q5])⟩
          · refine ⟨by omega, ite_i (fun q6 => ?_) (fun q6 => ?_)⟩
            · exact ⟨by omega, pu_eq (by unfold reachOfV; rw [if_pos ⟨q1, q2⟩, if_pos q3, if_pos q4, if_neg q5, if_pos q6])⟩
            · exact ⟨by omega, pu_eq (by unfold reachOfV; rw [if_pos ⟨q1, q2⟩, if_pos q3, if_pos q4, if_neg q5, if_neg q6])⟩
        · exact pu_eq (by unfold reachOfV; rw [if_pos ⟨q1, q2⟩, if_pos q3, if_neg q4])
      · exact ⟨R32_0, pu_eq (by unfold reachOfV; rw [if_pos ⟨q1, q2⟩, if_neg q3])⟩
    · exact ⟨R32_0, pu_eq (by unfold reachOfV; rw [if_neg (fun z => q2 z.2)])⟩
  · exact ⟨R32_0, pu_eq (by unfold reachOfV; rw [if_neg (fun z => q1 z.1)])⟩
def costsV (M : Mm) (k f : Int) : Int := if isF f then (if isK k then ncv (M 30) k f else -2) else -1
theorem z_costs {k f : Int} (hf : R32 f) (hk : R32 k) (hI : RuI M) : Ret 2 0 0 mM_costs [.inr 24, .inl k, .inl f] (S0 N) M (Pu (S0 N) M (costsV M k f)) := by
  refine eM_costs [] 60 (Nat.le_of_ble_eq_true rfl) (fun hM => ?_)
  refine CL.bl (z_isFinger hf) (Nat.le_of_ble_eq_true rfl) (fun q1 => ?_) (fun q1 => ?_)
  · refine ⟨R32_1, CL.bl (z_isKey hk) (Nat.le_of_ble_eq_true rfl) (fun q2 => ?_) (fun q2 => ?_)⟩
    · refine ⟨R32_1, CL.pu (z_noteCost hI q2.1 (by omega) hf) (Nat.le_of_ble_eq_true rfl) ?_⟩
      exact pu_eq (by unfold costsV; rw [if_pos q1, if_pos q2])
    · exact ⟨R32_0, pu_eq (by unfold costsV; rw [if_pos q1, if_neg q2])⟩
  · exact ⟨R32_0, pu_eq (by unfold costsV; rw [if_neg q1])⟩
def stepV (M : Mm) (h a f b g : Int) : Int := if isH h ∧ isF f ∧ isF g then (if isK a ∧ isK b then (if stv (M 30) (M 27) (M 28) (M 29) h a f b g < 1000000 then stv (M 30) (M 27) (M 28) (M 29) h a f b g else -9) else -2) else -1
theorem z_step {a f b g : Int} (hr : R32 h) (ha : R32 a) (hf : R32 f) (hb : R32 b) (hg : R32 g) (hI : RuI M) : Ret 2 0 0 mM_step [.inr 24, .inl h, .inl a, .inl f, .inl b, .inl g] (S0 N) M (Pu (S0 N) M (stepV M h a f b g)) := by
  refine eM_step [] 60 (Nat.le_of_ble_eq_true rfl) (fun hM => ?_)
  refine CL.bl (z_isHand hr) (Nat.le_of_ble_eq_true rfl) (fun q0 => ?_) (fun q0 => ?_)
  · refine ⟨R32_1, CL.bl (z_isFinger hf) (Nat.le_of_ble_eq_true rfl) (fun q1 => ?_) (fun q1 => ?_)⟩
    · refine ⟨R32_1, CL.bl (z_isFinger hg) (Nat.le_of_ble_eq_true rfl) (fun q2 => ?_) (fun q2 => ?_)⟩
      · refine ⟨R32_1, CL.bl (z_isKey ha) (Nat.le_of_ble_eq_true rfl) (fun q3 => ?_) (fun q3 => ?_)⟩
        · refine ⟨R32_1, CL.bl (z_isKey hb) (Nat.le_of_ble_eq_true rfl) (fun q4 => ?_) (fun q4 => ?_)⟩
          · have sr := stv_rng hI (hand := h) (a := a) (b := b) q1.1 q1.2 q2.1 q2.2
            refine ⟨R32_1, CL.pu (z_stepCost q0 q3.1 q3.2 q4.1 q4.2 q1.1 q1.2 q2.1 q2.2) (Nat.le_of_ble_eq_true rfl) ?_⟩
            refine ⟨by omega, ite_i (fun q5 => ?_) (fun q5 => ?_)⟩
            · exact pu_eq (by unfold stepV; rw [if_pos ⟨q0, q1, q2⟩, if_pos ⟨q3, q4⟩, if_pos q5])
            · exact pu_eq (by unfold stepV; rw [if_pos ⟨q0, q1, q2⟩, if_pos ⟨q3, q4⟩, if_neg q5])
          · exact ⟨R32_0, pu_eq (by unfold stepV; rw [if_pos ⟨q0, q1, q2⟩, if_neg (fun z => q4 z.2)])⟩
        · exact ⟨R32_0, pu_eq (by unfold stepV; rw [if_pos ⟨q0, q1, q2⟩, if_neg (fun z => q3 z.1)])⟩
      · exact ⟨R32_0, pu_eq (by unfold stepV; rw [if_neg (fun z => q2 z.2.2)])⟩
    · exact ⟨R32_0, pu_eq (by unfold stepV; rw [if_neg (fun z => q1 z.2.1)])⟩
  · exact ⟨R32_0, pu_eq (by unfold stepV; rw [if_neg (fun z => q0 z.1)])⟩
end Set
