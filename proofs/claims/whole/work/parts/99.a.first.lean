/-! ===== the first memory ===== -/
theorem mA27_0_ne {M : Mm} {c : Nat} {j : Int} (h : c ≠ 27) : mA27_0 M c j = M c j := by unfold mA27_0; rw [mset_ne (by omega), mset_ne (by omega), mset_ne (by omega), mset_ne (by omega), mset_ne (by omega), mset_ne (by omega), mset_ne (by omega), mset_ne (by omega)]
theorem mA27_1_ne {M : Mm} {c : Nat} {j : Int} (h : c ≠ 27) : mA27_1 M c j = M c j := by unfold mA27_1; rw [mset_ne (by omega), mset_ne (by omega), mset_ne (by omega), mset_ne (by omega), mset_ne (by omega), mset_ne (by omega), mset_ne (by omega), mset_ne (by omega)]
theorem mA27_2_ne {M : Mm} {c : Nat} {j : Int} (h : c ≠ 27) : mA27_2 M c j = M c j := by unfold mA27_2; rw [mset_ne (by omega), mset_ne (by omega), mset_ne (by omega), mset_ne (by omega), mset_ne (by omega), mset_ne (by omega), mset_ne (by omega), mset_ne (by omega)]
theorem mA27_3_ne {M : Mm} {c : Nat} {j : Int} (h : c ≠ 27) : mA27_3 M c j = M c j := by unfold mA27_3; rw [mset_ne (by omega), mset_ne (by omega), mset_ne (by omega), mset_ne (by omega), mset_ne (by omega), mset_ne (by omega), mset_ne (by omega), mset_ne (by omega)]
theorem mA27_4_ne {M : Mm} {c : Nat} {j : Int} (h : c ≠ 27) : mA27_4 M c j = M c j := by unfold mA27_4; rw [mset_ne (by omega), mset_ne (by omega), mset_ne (by omega), mset_ne (by omega), mset_ne (by omega), mset_ne (by omega), mset_ne (by omega), mset_ne (by omega)]
theorem mA27_5_ne {M : Mm} {c : Nat} {j : Int} (h : c ≠ 27) : mA27_5 M c j = M c j := by unfold mA27_5; rw [mset_ne (by omega), mset_ne (by omega), mset_ne (by omega), mset_ne (by omega), mset_ne (by omega), mset_ne (by omega)]
theorem mA28_0_ne {M : Mm} {c : Nat} {j : Int} (h : c ≠ 28) : mA28_0 M c j = M c j := by unfold mA28_0; rw [mset_ne (by omega), mset_ne (by omega), mset_ne (by omega), mset_ne (by omega), mset_ne (by omega), mset_ne (by omega), mset_ne (by omega), mset_ne (by omega)]
theorem mA28_1_ne {M : Mm} {c : Nat} {j : Int} (h : c ≠ 28) : mA28_1 M c j = M c j := by unfold mA28_1; rw [mset_ne (by omega), mset_ne (by omega), mset_ne (by omega), mset_ne (by omega), mset_ne (by omega), mset_ne (by omega), mset_ne (by omega), mset_ne (by omega)]
theorem mA28_2_ne {M : Mm} {c : Nat} {j : Int} (h : c ≠ 28) : mA28_2 M c j = M c j := by unfold mA28_2; rw [mset_ne (by omega), mset_ne (by omega), mset_ne (by omega), mset_ne (by omega), mset_ne (by omega), mset_ne (by omega), mset_ne (by omega), mset_ne (by omega)]
theorem mA28_3_ne {M : Mm} {c : Nat} {j : Int} (h : c ≠ 28) : mA28_3 M c j = M c j := by unfold mA28_3; rw [mset_ne (by omega), mset_ne (by omega), mset_ne (by omega), mset_ne (by omega), mset_ne (by omega), mset_ne (by omega), mset_ne (by omega), mset_ne (by omega)]
theorem mA28_4_ne {M : Mm} {c : Nat} {j : Int} (h : c ≠ 28) : mA28_4 M c j = M c j := by unfold mA28_4; rw [mset_ne (by omega), mset_ne (by omega), mset_ne (by omega), mset_ne (by omega), mset_ne (by omega), mset_ne (by omega), mset_ne (by omega), mset_ne (by omega)]
theorem mA28_5_ne {M : Mm} {c : Nat} {j : Int} (h : c ≠ 28) : mA28_5 M c j = M c j := by unfold mA28_5; rw [mset_ne (by omega), mset_ne (by omega), mset_ne (by omega), mset_ne (by omega), mset_ne (by omega), mset_ne (by omega)]
theorem mA29_0_ne {M : Mm} {c : Nat} {j : Int} (h : c ≠ 29) : mA29_0 M c j = M c j := by unfold mA29_0; rw [mset_ne (by omega), mset_ne (by omega), mset_ne (by omega), mset_ne (by omega), mset_ne (by omega), mset_ne (by omega), mset_ne (by omega), mset_ne (by omega)]
theorem mA29_1_ne {M : Mm} {c : Nat} {j : Int} (h : c ≠ 29) : mA29_1 M c j = M c j := by unfold mA29_1; rw [mset_ne (by omega), mset_ne (by omega), mset_ne (by omega), mset_ne (by omega), mset_ne (by omega), mset_ne (by omega), mset_ne (by omega), mset_ne (by omega)]
theorem mA29_2_ne {M : Mm} {c : Nat} {j : Int} (h : c ≠ 29) : mA29_2 M c j = M c j := by unfold mA29_2; rw [mset_ne (by omega), mset_ne (by omega), mset_ne (by omega), mset_ne (by omega), mset_ne (by omega), mset_ne (by omega), mset_ne (by omega), mset_ne (by omega)]
theorem mA29_3_ne {M : Mm} {c : Nat} {j : Int} (h : c ≠ 29) : mA29_3 M c j = M c j := by unfold mA29_3; rw [mset_ne (by omega), mset_ne (by omega), mset_ne (by omega), mset_ne (by omega), mset_ne (by omega), mset_ne (by omega), mset_ne (by omega), mset_ne (by omega)]
theorem mA29_4_ne {M : Mm} {c : Nat} {j : Int} (h : c ≠ 29) : mA29_4 M c j = M c j := by unfold mA29_4; rw [mset_ne (by omega), mset_ne (by omega), mset_ne (by omega), mset_ne (by omega), mset_ne (by omega), mset_ne (by omega), mset_ne (by omega), mset_ne (by omega)]
theorem mA29_5_ne {M : Mm} {c : Nat} {j : Int} (h : c ≠ 29) : mA29_5 M c j = M c j := by unfold mA29_5; rw [mset_ne (by omega), mset_ne (by omega), mset_ne (by omega), mset_ne (by omega), mset_ne (by omega), mset_ne (by omega)]
theorem mA30_0_ne {M : Mm} {c : Nat} {j : Int} (h : c ≠ 30) : mA30_0 M c j = M c j := by unfold mA30_0; rw [mset_ne (by omega), mset_ne (by omega), mset_ne (by omega), mset_ne (by omega), mset_ne (by omega), mset_ne (by omega), mset_ne (by omega)]
theorem mzero_ne {M : Mm} {a c : Nat} {j : Int} (h : c ≠ a) : mzero M a c j = M c j := by unfold mzero; rw [if_neg h]
theorem MM_lt {M : Mm} {c : Nat} {j : Int} (h : c < 25) : MM M c j = M c j := by
  unfold MM
  rw [mzero_ne (by omega), mzero_ne (by omega), mzero_ne (by omega), mzero_ne (by omega), mzero_ne (by omega), mzero_ne (by omega), mzero_ne (by omega), mzero_ne (by omega), mzero_ne (by omega), mzero_ne (by omega), mzero_ne (by omega), mzero_ne (by omega), mzero_ne (by omega), mzero_ne (by omega), mzero_ne (by omega), mzero_ne (by omega), mA30_0_ne (by omega), mzero_ne (by omega), mA29_5_ne (by omega), mA29_4_ne (by omega), mA29_3_ne (by omega), mA29_2_ne (by omega), mA29_1_ne (by omega), mA29_0_ne (by omega), mzero_ne (by omega), mA28_5_ne (by omega), mA28_4_ne (by omega), mA28_3_ne (by omega), mA28_2_ne (by omega), mA28_1_ne (by omega), mA28_0_ne (by omega), mzero_ne (by omega), mA27_5_ne (by omega), mA27_4_ne (by omega), mA27_3_ne (by omega), mA27_2_ne (by omega), mA27_1_ne (by omega), mA27_0_ne (by omega), mzero_ne (by omega), mzero_ne (by omega), mzero_ne (by omega)]
theorem flM_ne {M : Mm} {a c : Nat} {v i j : Int} (h : c ≠ a) : flM a v M i c j = M c j := by unfold flM; rw [if_neg (fun z => h z.1)]
theorem flM_in {M : Mm} {a : Nat} {v i j : Int} (h0 : 0 ≤ j) (h1 : j < i) : flM a v M i a j = v := by unfold flM; rw [if_pos ⟨rfl, h0, h1⟩]
/-- the memory behind both constructors -/
def ZM (M : Mm) : Mm := flM 40 (-9) (flM 26 (-9) (flM 25 (-9) (MM (mzero (KM (mzero M 1)) 24)) 60) 60) 2
section Z0
variable {M : Mm}
theorem z_25 {j : Int} (h0 : 0 ≤ j) (h1 : j < 60) : ZM M 25 j = -9 := by unfold ZM; rw [flM_ne (by decide), flM_ne (by decide), flM_in h0 h1]
theorem z_26 {j : Int} (h0 : 0 ≤ j) (h1 : j < 60) : ZM M 26 j = -9 := by unfold ZM; rw [flM_ne (by decide), flM_in h0 h1]
theorem z_40 {j : Int} (h0 : 0 ≤ j) (h1 : j < 2) : ZM M 40 j = -9 := by unfold ZM; rw [flM_in h0 h1]
theorem z_24 {j : Int} : ZM M 24 j = 0 := by unfold ZM; rw [flM_ne (by decide), flM_ne (by decide), flM_ne (by decide), MM_lt (by decide)]; unfold mzero; rw [if_pos rfl]
theorem z_lt {c : Nat} {j : Int} (h : c < 24) : ZM M c j = KM (mzero M 1) c j := by unfold ZM; rw [flM_ne (by omega), flM_ne (by omega), flM_ne (by omega), MM_lt (by omega), mzero_ne (by omega)]
theorem z_MM {c : Nat} {j : Int} (h : 27 ≤ c ∧ c ≤ 30) : ZM M c j = MM (mzero (KM (mzero M 1)) 24) c j := by unfold ZM; rw [flM_ne (by omega), flM_ne (by omega), flM_ne (by omega)]
theorem k_3 {X : Mm} {j : Int} : KM X 3 j = (fPr j.toNat).toInt := rfl
theorem k_4 {X : Mm} {j : Int} : KM X 4 j = (fRe j.toNat).toInt := rfl
theorem k_6 {X : Mm} {j : Int} (h0 : 0 ≤ j) (h1 : j < 30) : KM X 6 j = -9 := by
  unfold KM
  rw [mzero_ne (by decide), mzero_ne (by decide), mzero_ne (by decide), mzero_ne (by decide), mzero_ne (by decide), mzero_ne (by decide), mzero_ne (by decide), mzero_ne (by decide), mzero_ne (by decide), mzero_ne (by decide), mzero_ne (by decide), flM_ne (by decide), flM_ne (by decide), mset_ne (Or.inl (by decide)), mzero_ne (by decide), mzero_ne (by decide), mzero_ne (by decide), mzero_ne (by decide), flM_ne (by decide), flM_in h0 h1]
theorem k_7 {X : Mm} {j : Int} (h0 : 0 ≤ j) (h1 : j < 30) : KM X 7 j = -9 := by
  unfold KM
  rw [mzero_ne (by decide), mzero_ne (by decide), mzero_ne (by decide), mzero_ne (by decide), mzero_ne (by decide), mzero_ne (by decide), mzero_ne (by decide), mzero_ne (by decide), mzero_ne (by decide), mzero_ne (by decide), mzero_ne (by decide), flM_ne (by decide), flM_ne (by decide), mset_ne (Or.inl (by decide)), mzero_ne (by decide), mzero_ne (by decide), mzero_ne (by decide), mzero_ne (by decide), flM_in h0 h1]
theorem k_10 {X : Mm} {j : Int} (h0 : 0 ≤ j) (h1 : j < 30) : KM X 10 j = -9 := by
  unfold KM
  rw [mzero_ne (by decide), mzero_ne (by decide), mzero_ne (by decide), mzero_ne (by decide), mzero_ne (by decide), mzero_ne (by decide), mzero_ne (by decide), mzero_ne (by decide), mzero_ne (by decide), mzero_ne (by decide), mzero_ne (by decide), flM_ne (by decide), flM_in h0 h1]
theorem k_11 {X : Mm} {j : Int} (h0 : 0 ≤ j) (h1 : j < 30) : KM X 11 j = -9 := by
  unfold KM
  rw [mzero_ne (by decide), mzero_ne (by decide), mzero_ne (by decide), mzero_ne (by decide), mzero_ne (by decide), mzero_ne (by decide), mzero_ne (by decide), mzero_ne (by decide), mzero_ne (by decide), mzero_ne (by decide), mzero_ne (by decide), flM_in h0 h1]
theorem z_ru : RuI (ZM M) := by
  refine ⟨fun k k0 k1 => ?_, fun f g f1 f2 f3 => ?_⟩
  · rcases (show k = 0 ∨ k = 1 ∨ k = 2 ∨ k = 3 ∨ k = 4 ∨ k = 5 ∨ k = 6 by omega) with rfl | rfl | rfl | rfl | rfl | rfl | rfl
    · rw [z_lt (c := 3) (by decide), k_3, z_MM (c := 30) (by decide), show MM (mzero (KM (mzero M 1)) 24) 30 0 = 3 from rfl]; decide +kernel
    · rw [z_lt (c := 3) (by decide), k_3, z_MM (c := 30) (by decide), show MM (mzero (KM (mzero M 1)) 24) 30 1 = 1 from rfl]; decide +kernel
    · rw [z_lt (c := 3) (by decide), k_3, z_MM (c := 30) (by decide), show MM (mzero (KM (mzero M 1)) 24) 30 2 = 2 from rfl]; decide +kernel
    · rw [z_lt (c := 3) (by decide), k_3, z_MM (c := 30) (by decide), show MM (mzero (KM (mzero M 1)) 24) 30 3 = 8 from rfl]; decide +kernel
    · rw [z_lt (c := 3) (by decide), k_3, z_MM (c := 30) (by decide), show MM (mzero (KM (mzero M 1)) 24) 30 4 = 3 from rfl]; decide +kernel
    · rw [z_lt (c := 3) (by decide), k_3, z_MM (c := 30) (by decide), show MM (mzero (KM (mzero M 1)) 24) 30 5 = 1 from rfl]; decide +kernel
    · rw [z_lt (c := 3) (by decide), k_3, z_MM (c := 30) (by decide), show MM (mzero (KM (mzero M 1)) 24) 30 6 = 1 from rfl]; decide +kernel
  · rcases (show (f = 1 ∧ g = 2) ∨ (f = 1 ∧ g = 3) ∨ (f = 1 ∧ g = 4) ∨ (f = 1 ∧ g = 5) ∨ (f = 2 ∧ g = 3) ∨ (f = 2 ∧ g = 4) ∨ (f = 2 ∧ g = 5) ∨ (f = 3 ∧ g = 4) ∨ (f = 3 ∧ g = 5) ∨ (f = 4 ∧ g = 5) by omega) with ⟨rfl, rfl⟩ | ⟨rfl, rfl⟩ | ⟨rfl, rfl⟩ | ⟨rfl, rfl⟩ | ⟨rfl, rfl⟩ | ⟨rfl, rfl⟩ | ⟨rfl, rfl⟩ | ⟨rfl, rfl⟩ | ⟨rfl, rfl⟩ | ⟨rfl, rfl⟩
    · rw [z_lt (c := 4) (by decide), z_lt (c := 4) (by decide), z_lt (c := 4) (by decide), k_4, k_4, k_4, z_MM (c := 27) (by decide), z_MM (c := 28) (by decide), z_MM (c := 29) (by decide), show MM (mzero (KM (mzero M 1)) 24) 27 (10 * 1 + 2) = 1 from rfl, show MM (mzero (KM (mzero M 1)) 24) 28 (10 * 1 + 2) = 5 from rfl, show MM (mzero (KM (mzero M 1)) 24) 29 (10 * 1 + 2) = 8 from rfl]; decide +kernel
    · rw [z_lt (c := 4) (by decide), z_lt (c := 4) (by decide), z_lt (c := 4) (by decide), k_4, k_4, k_4, z_MM (c := 27) (by decide), z_MM (c := 28) (by decide), z_MM (c := 29) (by decide), show MM (mzero (KM (mzero M 1)) 24) 27 (10 * 1 + 3) = 2 from rfl, show MM (mzero (KM (mzero M 1)) 24) 28 (10 * 1 + 3) = 7 from rfl, show MM (mzero (KM (mzero M 1)) 24) 29 (10 * 1 + 3) = 10 from rfl]; decide +kernel
    · rw [z_lt (c := 4) (by decide), z_lt (c := 4) (by decide), z_lt (c := 4) (by decide), k_4, k_4, k_4, z_MM (c := 27) (by decide), z_MM (c := 28) (by decide), z_MM (c := 29) (by decide), show MM (mzero (KM (mzero M 1)) 24) 27 (10 * 1 + 4) = 3 from rfl, show MM (mzero (KM (mzero M 1)) 24) 28 (10 * 1 + 4) = 9 from rfl, show MM (mzero (KM (mzero M 1)) 24) 29 (10 * 1 + 4) = 12 from rfl]; decide +kernel
    · rw [z_lt (c := 4) (by decide), z_lt (c := 4) (by decide), z_lt (c := 4) (by decide), k_4, k_4, k_4, z_MM (c := 27) (by decide), z_MM (c := 28) (by decide), z_MM (c := 29) (by decide), show MM (mzero (KM (mzero M 1)) 24) 27 (10 * 1 + 5) = 5 from rfl, show MM (mzero (KM (mzero M 1)) 24) 28 (10 * 1 + 5) = 11 from rfl, show MM (mzero (KM (mzero M 1)) 24) 29 (10 * 1 + 5) = 14 from rfl]; decide +kernel
    · rw [z_lt (c := 4) (by decide), z_lt (c := 4) (by decide), z_lt (c := 4) (by decide), k_4, k_4, k_4, z_MM (c := 27) (by decide), z_MM (c := 28) (by decide), z_MM (c := 29) (by decide), show MM (mzero (KM (mzero M 1)) 24) 27 (10 * 2 + 3) = 1 from rfl, show MM (mzero (KM (mzero M 1)) 24) 28 (10 * 2 + 3) = 2 from rfl, show MM (mzero (KM (mzero M 1)) 24) 29 (10 * 2 + 3) = 4 from rfl]; decide +kernel
    · rw [z_lt (c := 4) (by decide), z_lt (c := 4) (by decide), z_lt (c := 4) (by decide), k_4, k_4, k_4, z_MM (c := 27) (by decide), z_MM (c := 28) (by decide), z_MM (c := 29) (by decide), show MM (mzero (KM (mzero M 1)) 24) 27 (10 * 2 + 4) = 2 from rfl, show MM (mzero (KM (mzero M 1)) 24) 28 (10 * 2 + 4) = 4 from rfl, show MM (mzero (KM (mzero M 1)) 24) 29 (10 * 2 + 4) = 6 from rfl]; decide +kernel
    · rw [z_lt (c := 4) (by decide), z_lt (c := 4) (by decide), z_lt (c := 4) (by decide), k_4, k_4, k_4, z_MM (c := 27) (by decide), z_MM (c := 28) (by decide), z_MM (c := 29) (by decide), show MM (mzero (KM (mzero M 1)) 24) 27 (10 * 2 + 5) = 3 from rfl, show MM (mzero (KM (mzero M 1)) 24) 28 (10 * 2 + 5) = 6 from rfl, show MM (mzero (KM (mzero M 1)) 24) 29 (10 * 2 + 5) = 9 from rfl]; decide +kernel
    · rw [z_lt (c := 4) (by decide), z_lt (c := 4) (by decide), z_lt (c := 4) (by decide), k_4, k_4, k_4, z_MM (c := 27) (by decide), z_MM (c := 28) (by decide), z_MM (c := 29) (by decide), show MM (mzero (KM (mzero M 1)) 24) 27 (10 * 3 + 4) = 1 from rfl, show MM (mzero (KM (mzero M 1)) 24) 28 (10 * 3 + 4) = 2 from rfl, show MM (mzero (KM (mzero M 1)) 24) 29 (10 * 3 + 4) = 3 from rfl]; decide +kernel
    · rw [z_lt (c := 4) (by decide), z_lt (c := 4) (by decide), z_lt (c := 4) (by decide), k_4, k_4, k_4, z_MM (c := 27) (by decide), z_MM (c := 28) (by decide), z_MM (c := 29) (by decide), show MM (mzero (KM (mzero M 1)) 24) 27 (10 * 3 + 5) = 2 from rfl, show MM (mzero (KM (mzero M 1)) 24) 28 (10 * 3 + 5) = 4 from rfl, show MM (mzero (KM (mzero M 1)) 24) 29 (10 * 3 + 5) = 6 from rfl]; decide +kernel
    · rw [z_lt (c := 4) (by decide), z_lt (c := 4) (by decide), z_lt (c := 4) (by decide), k_4, k_4, k_4, z_MM (c := 27) (by decide), z_MM (c := 28) (by decide), z_MM (c := 29) (by decide), show MM (mzero (KM (mzero M 1)) 24) 27 (10 * 4 + 5) = 1 from rfl, show MM (mzero (KM (mzero M 1)) 24) 28 (10 * 4 + 5) = 2 from rfl, show MM (mzero (KM (mzero M 1)) 24) 29 (10 * 4 + 5) = 4 from rfl]; decide +kernel
theorem inv_0 : Inv (ZM M) := by
  have ky : KyI (ZM M) := fun j j0 j1 => by rw [z_25 j0 j1, z_26 j0 j1]; omega
  have c0 : ∀ h, isH h → cnt (fK (ZM M) h) 30 = 0 := fun h hh => cnt_none 30 (fun m hm => z_25 (by omega) (by omega))
  refine ⟨⟨z_ru, ky, fun h hh => Or.inl (z_40 (by omega) (by omega))⟩, ⟨Or.inl z_24, Or.inl z_24⟩, ⟨by rw [z_24]; omega, fun p p0 p1 => by rw [z_24] at p1; omega⟩, fun h b k w n hb => ?_, ⟨?_, fun p p0 p1 => by rw [z_24] at p1; omega⟩⟩
  · have hh := hc_h hb
    refine ⟨fun m m0 m1 => ?_, ?_, fun j j0 j1 => by rw [c0 h hh] at j1; omega, ?_, Or.inl ⟨z_40 (by omega) (by omega), ?_⟩⟩
    · rw [z_25 (by omega) (by omega), z_26 (by omega) (by omega), z_lt (by omega), z_lt (by omega)]
      rcases hb with ⟨rfl, rfl, rfl, rfl, rfl⟩ | ⟨rfl, rfl, rfl, rfl, rfl⟩
      · exact ⟨k_6 m0 m1, k_7 m0 m1⟩
      · exact ⟨k_10 m0 m1, k_11 m0 m1⟩
    · rw [c0 h hh, z_lt (by omega)]
      rcases hb with ⟨rfl, rfl, rfl, rfl, rfl⟩ | ⟨rfl, rfl, rfl, rfl, rfl⟩ <;> rfl
    · rw [z_lt (by omega)]
      rcases hb with ⟨rfl, rfl, rfl, rfl, rfl⟩ | ⟨rfl, rfl, rfl, rfl, rfl⟩ <;> rfl
    · rw [z_lt (by omega)]
      rcases hb with ⟨rfl, rfl, rfl, rfl, rfl⟩ | ⟨rfl, rfl, rfl, rfl, rfl⟩ <;> rfl
  · rw [z_24, z_lt (by decide)]
    rfl
end Z0
set_option maxRecDepth 100000 in
def pLw_s : List En := [(0, .new 7, 3, []),
  (3, .dup, 4, []),
  (4, .invokespecial 9, 7, []),
  (7, .astore_n 1, 8, []),
  (8, .new 10, 11, []),
  (11, .dup, 12, []),
  (12, .invokespecial 12, 15, []),
  (15, .astore_n 2, 16, []),
  (16, .iconst 0, 17, []),
  (17, .istore_n 3, 18, [])]
set_option maxRecDepth 100000 in
theorem mo_pLw_s : MO mL_law 8 false (some .boolean) pLw_s := ⟨rL_law, rfl, rfl, by decide, rfl, (fun h => by cases h), (by decide +kernel)⟩
theorem lw_0 {N : Nat} {M : Mm} {Φ : Option Vl → Ly → Mm → Prop} (hN : (N : Int) ≤ 3072) (hΦ : ∀ M', Φ (some (.inl 1)) (S0 N) M') : AJ 13 46 2189 mL_law Φ 0 0 0 [some (.inr 0)] [] [.inl N] M := by
  refine A_new (ci := 4) (fs := [some none, some none, some none, some none, some none]) (dce mo_pLw_s (pc := 0) rfl) (oce mo_pLw_s (pc := 0) rfl) rfl rfl rfl (by decide +kernel) (by decide) (by decide) (by decide) ?_
  show AJ 13 46 2189 mL_law Φ 1 5 3 [some (.inr 0)] [.inr 1] (YK0 N) (mzero M 1)
  refine sg mo_pLw_s (by decide) (by decide) [4] 20 (fun hM => ?_)
  show AJ 13 46 2189 mL_law Φ 1 5 4 [some (.inr 0)] ([.inr 1].reverse ++ [.inr 1]) (YK0 N) (mzero M 1)
  refine A_callI (ini := true) (st := []) (as := [.inr 1]) (rest := [.inr 1]) (dce mo_pLw_s (pc := 4) rfl) (oce mo_pLw_s (pc := 4) rfl) rfl rfl rfl (fun r h => by cases (show some rK_init = some r from h); rfl) (by decide) (by decide) (by decide) (by decide) i_K ?_
  rintro r S' M' ⟨rfl, rfl, rfl⟩ hM'
  show AJ 13 46 2189 mL_law Φ 23 1364 7 [some (.inr 0)] [.inr 1] (YK5 N) (KM (mzero M 1))
  refine sg mo_pLw_s (by decide) (by decide) [8] 20 (fun hM => ?_)
  show AJ 13 46 2189 mL_law Φ 23 1364 8 [some (.inr 0), some (.inr 1)] [] (YK5 N) (KM (mzero M 1))
  refine A_new (ci := 5) (fs := [some none, some none, some none, some none, some none, some none, none, none, some none, some none, none, none, none, some none, some none, some none, some none, some none, none, none, some none, some none, some none, some none, some none, none, some none, some none, some none, some none]) (dce mo_pLw_s (pc := 8) rfl) (oce mo_pLw_s (pc := 8) rfl) rfl rfl rfl (by decide +kernel) (by decide) (by decide) (by decide) ?_
  show AJ 13 46 2189 mL_law Φ 24 1394 11 [some (.inr 0), some (.inr 1)] [.inr 24] (YM0 N) (mzero (KM (mzero M 1)) 24)
  refine sg mo_pLw_s (by decide) (by decide) [12] 20 (fun hM => ?_)
  show AJ 13 46 2189 mL_law Φ 24 1394 12 [some (.inr 0), some (.inr 1)] ([.inr 24].reverse ++ [.inr 24]) (YM0 N) (mzero (KM (mzero M 1)) 24)
  refine A_callI (ini := true) (st := []) (as := [.inr 24]) (rest := [.inr 24]) (dce mo_pLw_s (pc := 12) rfl) (oce mo_pLw_s (pc := 12) rfl) rfl rfl rfl (fun r h => by cases (show some rM_init = some r from h); rfl) (by decide) (by decide) (by decide) (by decide) i_M ?_
  rintro r S' M' ⟨rfl, rfl, rfl⟩ hM'
  show AJ 13 46 2189 mL_law Φ 46 2189 15 [some (.inr 0), some (.inr 1)] [.inr 24] (S0 N) (ZM M)
  refine aLw mo_pLw_s (by decide) [18] 20 (fun hM => ?_)
  exact lw_18 (by decide) hN hΦ N 0 _ (by omega) (by omega) (by omega) inv_0
