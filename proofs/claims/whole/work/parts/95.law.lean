/-! ===== the law's loop ===== -/
section Lw
variable {N : Nat} {M : Mm} {mc ms ks : Nat} {Φ : Option Vl → Ly → Mm → Prop} {i : Int}
theorem aLw {P : List En} (hm : MO mL_law 8 false (some .boolean) P) (hks : ks ≤ ms) (sp : List Nat) (n : Nat) {pc : Nat} {L : Lc} {st : List Vl} {S : Ly} (h : MOk M → wp 13 mc ms mc ks mL_law 8 false true (some .boolean) Φ P sp n pc L st S M) : AJ 13 mc ms mL_law Φ mc ks pc L st S M := AJ.MOk_ (fun hM => wp_sound hm (Nat.le_refl _) hks (fun _ => ⟨rfl, hks⟩) n pc L st S M (h hM))
theorem A_same {d y kc pc : Nat} {L : Lc} {st : List Vl} {S : Ly} {off x : Int} {t : Nat} (hd : DC y pc (.if_icmp .eq off) 3) (ht : (pc : Int) + off = (t : Int)) (k1 : AJ d mc ms y Φ kc ks t L st S M) : AJ d mc ms y Φ kc ks pc L (.inl x :: .inl x :: st) S M := by
  intro r hr l dC dI cA b0 b N xs p e s m args below meth c1 H locs ls C hW hS hz hL
  obtain ⟨hx, hb, hrt, hml, hown, hts, hlk, hnm, hSF⟩ := id C
  have K1 := k1 r hr l dC dI cA b0 b N xs p e s m args below meth c1 H locs ls C hW hS hz hL
  have hdg := hd r hr
  exact lv_icmp_eq hx hb hdg ht (fun _ => K1) (fun q => absurd rfl q)
theorem dcL {P : List En} (hm : MO mL_law 8 false (some .boolean) P) {pc nx : Nat} {it : Instr} {ax : List (Int × Nat)} (h : lk1 pc P = some (it, nx, ax)) : DC mL_law pc it (nx - pc) := (mo_entry hm (lk1_mem h)).1
theorem c_same {P : List En} (hm : MO mL_law 8 false (some .boolean) P) {off x : Int} {pc nx : Nat} {ax : List (Int × Nat)} (h : lk1 pc P = some (.if_icmp .eq off, nx, ax)) (hn : nx - pc = 3) (ht : (pc : Int) + off = ((1077 : Nat) : Int)) (k1 : AJ 13 mc ms mL_law Φ mc ks 1077 [some (.inr 0), some (.inr 1), some (.inr 24), some (.inl i)] [] (S0 N) M) : AJ 13 mc ms mL_law Φ mc ks pc [some (.inr 0), some (.inr 1), some (.inr 24), some (.inl i)] [.inl x, .inl x] (S0 N) M := A_same (hn ▸ dcL hm h) ht k1
set_option maxRecDepth 100000 in
def pLw_put : List En := [(156, .aload_n 1, 157, []),
  (157, .aload_n 0, 158, []),
  (158, .iload_n 3, 159, []),
  (159, .iconst 1, 160, []),
  (160, .iadd, 161, []),
  (161, .iaload, 162, []),
  (162, .aload_n 0, 163, []),
  (163, .iload_n 3, 164, []),
  (164, .iconst 2, 165, []),
  (165, .iadd, 166, []),
  (166, .iaload, 167, []),
  (167, .aload_n 0, 168, []),
  (168, .iload_n 3, 169, []),
  (169, .iconst 3, 170, []),
  (170, .iadd, 171, []),
  (171, .iaload, 172, []),
  (172, .invokevirtual 13, 175, []),
  (175, .aload_n 2, 176, []),
  (176, .aload_n 0, 177, []),
  (177, .iload_n 3, 178, []),
  (178, .iconst 1, 179, []),
  (179, .iadd, 180, []),
  (180, .iaload, 181, []),
  (181, .aload_n 0, 182, []),
  (182, .iload_n 3, 183, []),
  (183, .iconst 2, 184, []),
  (184, .iadd, 185, []),
  (185, .iaload, 186, []),
  (186, .aload_n 0, 187, []),
  (187, .iload_n 3, 188, []),
  (188, .iconst 3, 189, []),
  (189, .iadd, 190, []),
  (190, .iaload, 191, []),
  (191, .invokevirtual 17, 194, []),
  (194, .if_icmp .eq 883, 197, [(0, 1077)])]
set_option maxRecDepth 100000 in
theorem mo_pLw_put : MO mL_law 8 false (some .boolean) pLw_put := ⟨rL_law, rfl, rfl, by decide, rfl, (fun h => by cases h), (by decide +kernel)⟩
set_option maxRecDepth 100000 in
theorem lw_put (hks : ks ≤ ms) (hV : Inv M) (h0 : 0 ≤ i) (h1 : i + 6 ≤ (N : Int)) (hN : (N : Int) ≤ 3072) (kk : ∀ M', Inv M' → AJ 13 mc ms mL_law Φ mc ks 1077 [some (.inr 0), some (.inr 1), some (.inr 24), some (.inl i)] [] (S0 N) M') : AJ 13 mc ms mL_law Φ mc ks 156 [some (.inr 0), some (.inr 1), some (.inr 24), some (.inl i)] [] (S0 N) M := by
  refine aLw mo_pLw_put hks [194] 60 (fun hM => ?_)
  obtain ⟨Φ1, R1, k1⟩ := p_put (N := N) hV (hM 0 (i + 1)) (hM 0 (i + 2)) (hM 0 (i + 3))
  refine ⟨by omega, ⟨by omega, ⟨by omega, ⟨3, Φ1, (Nat.le_of_ble_eq_true rfl), R1, fun r S' M1 g1 hM1 => ?_⟩⟩⟩⟩
  obtain ⟨v, rfl, rfl, e0, Φ2, R2, k2⟩ := k1 r S' M1 g1
  have R2' : Ret 2 0 0 mM_put [.inr 24, .inl (M1 0 (i + 1)), .inl (M1 0 (i + 2)), .inl (M1 0 (i + 3))] (S0 N) M1 Φ2 := by
    rw [e0, e0, e0]; exact R2
  refine ⟨by omega, ⟨by omega, ⟨by omega, ⟨2, Φ2, (Nat.le_of_ble_eq_true rfl), R2', fun r' S'' M2 g2 hM2 => ?_⟩⟩⟩⟩
  obtain ⟨rfl, rfl, V2, e2⟩ := k2 r' S'' M2 g2
  exact c_same mo_pLw_put (pc := 194) rfl rfl rfl (kk M2 V2)
set_option maxRecDepth 100000 in
def pLw_mark : List En := [(199, .aload_n 1, 200, []),
  (200, .aload_n 0, 201, []),
  (201, .iload_n 3, 202, []),
  (202, .iconst 1, 203, []),
  (203, .iadd, 204, []),
  (204, .iaload, 205, []),
  (205, .aload_n 0, 206, []),
  (206, .iload_n 3, 207, []),
  (207, .iconst 2, 208, []),
  (208, .iadd, 209, []),
  (209, .iaload, 210, []),
  (210, .aload_n 0, 211, []),
  (211, .iload_n 3, 212, []),
  (212, .iconst 3, 213, []),
  (213, .iadd, 214, []),
  (214, .iaload, 215, []),
  (215, .invokevirtual 18, 218, []),
  (218, .aload_n 2, 219, []),
  (219, .aload_n 0, 220, []),
  (220, .iload_n 3, 221, []),
  (221, .iconst 1, 222, []),
  (222, .iadd, 223, []),
  (223, .iaload, 224, []),
  (224, .aload_n 0, 225, []),
  (225, .iload_n 3, 226, []),
  (226, .iconst 2, 227, []),
  (227, .iadd, 228, []),
  (228, .iaload, 229, []),
  (229, .aload_n 0, 230, []),
  (230, .iload_n 3, 231, []),
  (231, .iconst 3, 232, []),
  (232, .iadd, 233, []),
  (233, .iaload, 234, []),
  (234, .invokevirtual 21, 237, []),
  (237, .if_icmp .eq 840, 240, [(0, 1077)])]
set_option maxRecDepth 100000 in
theorem mo_pLw_mark : MO mL_law 8 false (some .boolean) pLw_mark := ⟨rL_law, rfl, rfl, by decide, rfl, (fun h => by cases h), (by decide +kernel)⟩
set_option maxRecDepth 100000 in
theorem lw_mark (hks : ks ≤ ms) (hV : Inv M) (h0 : 0 ≤ i) (h1 : i + 6 ≤ (N : Int)) (hN : (N : Int) ≤ 3072) (kk : ∀ M', Inv M' → AJ 13 mc ms mL_law Φ mc ks 1077 [some (.inr 0), some (.inr 1), some (.inr 24), some (.inl i)] [] (S0 N) M') : AJ 13 mc ms mL_law Φ mc ks 199 [some (.inr 0), some (.inr 1), some (.inr 24), some (.inl i)] [] (S0 N) M := by
  refine aLw mo_pLw_mark hks [237] 60 (fun hM => ?_)
  obtain ⟨Φ1, R1, k1⟩ := p_mark (N := N) hV (hM 0 (i + 1)) (hM 0 (i + 2)) (hM 0 (i + 3))
  refine ⟨by omega, ⟨by omega, ⟨by omega, ⟨3, Φ1, (Nat.le_of_ble_eq_true rfl), R1, fun r S' M1 g1 hM1 => ?_⟩⟩⟩⟩
  obtain ⟨v, rfl, rfl, e0, Φ2, R2, k2⟩ := k1 r S' M1 g1
  have R2' : Ret 2 0 0 mM_mark [.inr 24, .inl (M1 0 (i + 1)), .inl (M1 0 (i + 2)), .inl (M1 0 (i + 3))] (S0 N) M1 Φ2 := by
    rw [e0, e0, e0]; exact R2
  refine ⟨by omega, ⟨by omega, ⟨by omega, ⟨2, Φ2, (Nat.le_of_ble_eq_true rfl), R2', fun r' S'' M2 g2 hM2 => ?_⟩⟩⟩⟩
  obtain ⟨rfl, rfl, V2, e2⟩ := k2 r' S'' M2 g2
  exact c_same mo_pLw_mark (pc := 237) rfl rfl rfl (kk M2 V2)
set_option maxRecDepth 100000 in
def pLw_reach : List En := [(242, .aload_n 1, 243, []),
  (243, .aload_n 0, 244, []),
  (244, .iload_n 3, 245, []),
  (245, .iconst 1, 246, []),
  (246, .iadd, 247, []),
  (247, .iaload, 248, []),
  (248, .aload_n 0, 249, []),
  (249, .iload_n 3, 250, []),
  (250, .iconst 2, 251, []),
  (251, .iadd, 252, []),
  (252, .iaload, 253, []),
  (253, .aload_n 0, 254, []),
  (254, .iload_n 3, 255, []),
  (255, .iconst 3, 256, []),
  (256, .iadd, 257, []),
  (257, .iaload, 258, []),
  (258, .aload_n 0, 259, []),
  (259, .iload_n 3, 260, []),
  (260, .iconst 4, 261, []),
  (261, .iadd, 262, []),
  (262, .iaload, 263, []),
  (263, .aload_n 0, 264, []),
  (264, .iload_n 3, 265, []),
  (265, .iconst 5, 266, []),
  (266, .iadd, 267, []),
  (267, .iaload, 268, []),
  (268, .invokevirtual 22, 271, []),
  (271, .aload_n 2, 272, []),
  (272, .aload_n 0, 273, []),
  (273, .iload_n 3, 274, []),
  (274, .iconst 1, 275, []),
  (275, .iadd, 276, []),
  (276, .iaload, 277, []),
  (277, .aload_n 0, 278, []),
  (278, .iload_n 3, 279, []),
  (279, .iconst 2, 280, []),
  (280, .iadd, 281, []),
  (281, .iaload, 282, []),
  (282, .aload_n 0, 283, []),
  (283, .iload_n 3, 284, []),
  (284, .iconst 3, 285, []),
  (285, .iadd, 286, []),
  (286, .iaload, 287, []),
  (287, .aload_n 0, 288, []),
  (288, .iload_n 3, 289, []),
  (289, .iconst 4, 290, []),
  (290, .iadd, 291, []),
  (291, .iaload, 292, []),
  (292, .aload_n 0, 293, []),
  (293, .iload_n 3, 294, []),
  (294, .iconst 5, 295, []),
  (295, .iadd, 296, []),
  (296, .iaload, 297, []),
  (297, .invokevirtual 26, 300, []),
  (300, .if_icmp .eq 777, 303, [(0, 1077)])]
set_option maxRecDepth 100000 in
theorem mo_pLw_reach : MO mL_law 8 false (some .boolean) pLw_reach := ⟨rL_law, rfl, rfl, by decide, rfl, (fun h => by cases h), (by decide +kernel)⟩
set_option maxRecDepth 100000 in
theorem lw_reach (hks : ks ≤ ms) (hV : Inv M) (h0 : 0 ≤ i) (h1 : i + 6 ≤ (N : Int)) (hN : (N : Int) ≤ 3072) (kk : ∀ M', Inv M' → AJ 13 mc ms mL_law Φ mc ks 1077 [some (.inr 0), some (.inr 1), some (.inr 24), some (.inl i)] [] (S0 N) M') : AJ 13 mc ms mL_law Φ mc ks 242 [some (.inr 0), some (.inr 1), some (.inr 24), some (.inl i)] [] (S0 N) M := by
  refine aLw mo_pLw_reach hks [300] 60 (fun hM => ?_)
  obtain ⟨Φ1, R1, k1⟩ := p_reach (N := N) hV (hM 0 (i + 1)) (hM 0 (i + 2)) (hM 0 (i + 3)) (hM 0 (i + 4)) (hM 0 (i + 5))
  refine ⟨by omega, ⟨by omega, ⟨by omega, ⟨by omega, ⟨by omega, ⟨2, Φ1, (Nat.le_of_ble_eq_true rfl), R1, fun r S' M1 g1 hM1 => ?_⟩⟩⟩⟩⟩⟩
  obtain ⟨v, rfl, rfl, e0, Φ2, R2, k2⟩ := k1 r S' M1 g1
  have R2' : Ret 2 0 0 mM_reach [.inr 24, .inl (M1 0 (i + 1)), .inl (M1 0 (i + 2)), .inl (M1 0 (i + 3)), .inl (M1 0 (i + 4)), .inl (M1 0 (i + 5))] (S0 N) M1 Φ2 := by
    rw [e0, e0, e0, e0, e0]; exact R2
  refine ⟨by omega, ⟨by omega, ⟨by omega, ⟨by omega, ⟨by omega, ⟨2, Φ2, (Nat.le_of_ble_eq_true rfl), R2', fun r' S'' M2 g2 hM2 => ?_⟩⟩⟩⟩⟩⟩
  obtain ⟨rfl, rfl, V2, e2⟩ := k2 r' S'' M2 g2
  exact c_same mo_pLw_reach (pc := 300) rfl rfl rfl (kk M2 V2)
set_option maxRecDepth 100000 in
def pLw_reachOf : List En := [(305, .aload_n 1, 306, []),
  (306, .aload_n 0, 307, []),
  (307, .iload_n 3, 308, []),
  (308, .iconst 1, 309, []),
  (309, .iadd, 310, []),
  (310, .iaload, 311, []),
  (311, .aload_n 0, 312, []),
  (312, .iload_n 3, 313, []),
  (313, .iconst 2, 314, []),
  (314, .iadd, 315, []),
  (315, .iaload, 316, []),
  (316, .aload_n 0, 317, []),
  (317, .iload_n 3, 318, []),
  (318, .iconst 3, 319, []),
  (319, .iadd, 320, []),
  (320, .iaload, 321, []),
  (321, .invokevirtual 27, 324, []),
  (324, .aload_n 2, 325, []),
  (325, .aload_n 0, 326, []),
  (326, .iload_n 3, 327, []),
  (327, .iconst 1, 328, []),
  (328, .iadd, 329, []),
  (329, .iaload, 330, []),
  (330, .aload_n 0, 331, []),
  (331, .iload_n 3, 332, []),
  (332, .iconst 2, 333, []),
  (333, .iadd, 334, []),
  (334, .iaload, 335, []),
  (335, .aload_n 0, 336, []),
  (336, .iload_n 3, 337, []),
  (337, .iconst 3, 338, []),
  (338, .iadd, 339, []),
  (339, .iaload, 340, []),
  (340, .invokevirtual 30, 343, []),
  (343, .if_icmp .eq 734, 346, [(0, 1077)])]
set_option maxRecDepth 100000 in
theorem mo_pLw_reachOf : MO mL_law 8 false (some .boolean) pLw_reachOf := ⟨rL_law, rfl, rfl, by decide, rfl, (fun h => by cases h), (by decide +kernel)⟩
set_option maxRecDepth 100000 in
theorem lw_reachOf (hks : ks ≤ ms) (hV : Inv M) (h0 : 0 ≤ i) (h1 : i + 6 ≤ (N : Int)) (hN : (N : Int) ≤ 3072) (kk : ∀ M', Inv M' → AJ 13 mc ms mL_law Φ mc ks 1077 [some (.inr 0), some (.inr 1), some (.inr 24), some (.inl i)] [] (S0 N) M') : AJ 13 mc ms mL_law Φ mc ks 305 [some (.inr 0), some (.inr 1), some (.inr 24), some (.inl i)] [] (S0 N) M := by
  refine aLw mo_pLw_reachOf hks [343] 60 (fun hM => ?_)
  obtain ⟨Φ1, R1, k1⟩ := p_reachOf (N := N) hV (hM 0 (i + 1)) (hM 0 (i + 2)) (hM 0 (i + 3))
  refine ⟨by omega, ⟨by omega, ⟨by omega, ⟨2, Φ1, (Nat.le_of_ble_eq_true rfl), R1, fun r S' M1 g1 hM1 => ?_⟩⟩⟩⟩
  obtain ⟨v, rfl, rfl, e0, Φ2, R2, k2⟩ := k1 r S' M1 g1
  have R2' : Ret 2 0 0 mM_reachOf [.inr 24, .inl (M1 0 (i + 1)), .inl (M1 0 (i + 2)), .inl (M1 0 (i + 3))] (S0 N) M1 Φ2 := by
    rw [e0, e0, e0]; exact R2
  refine ⟨by omega, ⟨by omega, ⟨by omega, ⟨2, Φ2, (Nat.le_of_ble_eq_true rfl), R2', fun r' S'' M2 g2 hM2 => ?_⟩⟩⟩⟩
  obtain ⟨rfl, rfl, V2, e2⟩ := k2 r' S'' M2 g2
  exact c_same mo_pLw_reachOf (pc := 343) rfl rfl rfl (kk M2 V2)
set_option maxRecDepth 100000 in
def pLw_price : List En := [(348, .aload_n 1, 349, []),
  (349, .aload_n 0, 350, []),
  (350, .iload_n 3, 351, []),
  (351, .iconst 1, 352, []),
  (352, .iadd, 353, []),
  (353, .iaload, 354, []),
  (354, .aload_n 0, 355, []),
  (355, .iload_n 3, 356, []),
  (356, .iconst 2, 357, []),
  (357, .iadd, 358, []),
  (358, .iaload, 359, []),
  (359, .invokevirtual 31, 362, []),
  (362, .aload_n 2, 363, []),
  (363, .aload_n 0, 364, []),
  (364, .iload_n 3, 365, []),
  (365, .iconst 1, 366, []),
  (366, .iadd, 367, []),
  (367, .iaload, 368, []),
  (368, .aload_n 0, 369, []),
  (369, .iload_n 3, 370, []),
  (370, .iconst 2, 371, []),
  (371, .iadd, 372, []),
  (372, .iaload, 373, []),
  (373, .invokevirtual 35, 376, []),
  (376, .if_icmp .eq 701, 379, [(0, 1077)])]
set_option maxRecDepth 100000 in
theorem mo_pLw_price : MO mL_law 8 false (some .boolean) pLw_price := ⟨rL_law, rfl, rfl, by decide, rfl, (fun h => by cases h), (by decide +kernel)⟩
set_option maxRecDepth 100000 in
theorem lw_price (hks : ks ≤ ms) (hV : Inv M) (h0 : 0 ≤ i) (h1 : i + 6 ≤ (N : Int)) (hN : (N : Int) ≤ 3072) (kk : ∀ M', Inv M' → AJ 13 mc ms mL_law Φ mc ks 1077 [some (.inr 0), some (.inr 1), some (.inr 24), some (.inl i)] [] (S0 N) M') : AJ 13 mc ms mL_law Φ mc ks 348 [some (.inr 0), some (.inr 1), some (.inr 24), some (.inl i)] [] (S0 N) M := by
  refine aLw mo_pLw_price hks [376] 60 (fun hM => ?_)
  obtain ⟨Φ1, R1, k1⟩ := p_price (N := N) hV (hM 0 (i + 1)) (hM 0 (i + 2))
  refine ⟨by omega, ⟨by omega, ⟨2, Φ1, (Nat.le_of_ble_eq_true rfl), R1, fun r S' M1 g1 hM1 => ?_⟩⟩⟩
  obtain ⟨v, rfl, rfl, e0, Φ2, R2, k2⟩ := k1 r S' M1 g1
  have R2' : Ret 2 0 0 mM_price [.inr 24, .inl (M1 0 (i + 1)), .inl (M1 0 (i + 2))] (S0 N) M1 Φ2 := by
    rw [e0, e0]; exact R2
  refine ⟨by omega, ⟨by omega, ⟨2, Φ2, (Nat.le_of_ble_eq_true rfl), R2', fun r' S'' M2 g2 hM2 => ?_⟩⟩⟩
  obtain ⟨rfl, rfl, V2, e2⟩ := k2 r' S'' M2 g2
  exact c_same mo_pLw_price (pc := 376) rfl rfl rfl (kk M2 V2)
set_option maxRecDepth 100000 in
def pLw_clear : List En := [(381, .aload_n 1, 382, []),
  (382, .aload_n 0, 383, []),
  (383, .iload_n 3, 384, []),
  (384, .iconst 1, 385, []),
  (385, .iadd, 386, []),
  (386, .iaload, 387, []),
  (387, .invokevirtual 36, 390, []),
  (390, .aload_n 2, 391, []),
  (391, .aload_n 0, 392, []),
  (392, .iload_n 3, 393, []),
  (393, .iconst 1, 394, []),
  (394, .iadd, 395, []),
  (395, .iaload, 396, []),
  (396, .invokevirtual 40, 399, []),
  (399, .if_icmp .eq 678, 402, [(0, 1077)])]
set_option maxRecDepth 100000 in
theorem mo_pLw_clear : MO mL_law 8 false (some .boolean) pLw_clear := ⟨rL_law, rfl, rfl, by decide, rfl, (fun h => by cases h), (by decide +kernel)⟩
set_option maxRecDepth 100000 in
theorem lw_clear (hks : ks ≤ ms) (hV : Inv M) (h0 : 0 ≤ i) (h1 : i + 6 ≤ (N : Int)) (hN : (N : Int) ≤ 3072) (kk : ∀ M', Inv M' → AJ 13 mc ms mL_law Φ mc ks 1077 [some (.inr 0), some (.inr 1), some (.inr 24), some (.inl i)] [] (S0 N) M') : AJ 13 mc ms mL_law Φ mc ks 381 [some (.inr 0), some (.inr 1), some (.inr 24), some (.inl i)] [] (S0 N) M := by
  refine aLw mo_pLw_clear hks [399] 60 (fun hM => ?_)
  obtain ⟨Φ1, R1, k1⟩ := p_clear (N := N) hV (hM 0 (i + 1))
  refine ⟨by omega, ⟨2, Φ1, (Nat.le_of_ble_eq_true rfl), R1, fun r S' M1 g1 hM1 => ?_⟩⟩
  obtain ⟨v, rfl, rfl, e0, Φ2, R2, k2⟩ := k1 r S' M1 g1
  have R2' : Ret 2 0 0 mM_clear [.inr 24, .inl (M1 0 (i + 1))] (S0 N) M1 Φ2 := by
    rw [e0]; exact R2
  refine ⟨by omega, ⟨2, Φ2, (Nat.le_of_ble_eq_true rfl), R2', fun r' S'' M2 g2 hM2 => ?_⟩⟩
  obtain ⟨rfl, rfl, V2, e2⟩ := k2 r' S'' M2 g2
  exact c_same mo_pLw_clear (pc := 399) rfl rfl rfl (kk M2 V2)
set_option maxRecDepth 100000 in
def pLw_note : List En := [(404, .aload_n 1, 405, []),
  (405, .aload_n 0, 406, []),
  (406, .iload_n 3, 407, []),
  (407, .iconst 1, 408, []),
  (408, .iadd, 409, []),
  (409, .iaload, 410, []),
  (410, .aload_n 0, 411, []),
  (411, .iload_n 3, 412, []),
  (412, .iconst 2, 413, []),
  (413, .iadd, 414, []),
  (414, .iaload, 415, []),
  (415, .aload_n 0, 416, []),
  (416, .iload_n 3, 417, []),
  (417, .iconst 3, 418, []),
  (418, .iadd, 419, []),
  (419, .iaload, 420, []),
  (420, .invokevirtual 41, 423, []),
  (423, .aload_n 2, 424, []),
  (424, .aload_n 0, 425, []),
  (425, .iload_n 3, 426, []),
  (426, .iconst 1, 427, []),
  (427, .iadd, 428, []),
  (428, .iaload, 429, []),
  (429, .aload_n 0, 430, []),
  (430, .iload_n 3, 431, []),
  (431, .iconst 2, 432, []),
  (432, .iadd, 433, []),
  (433, .iaload, 434, []),
  (434, .aload_n 0, 435, []),
  (435, .iload_n 3, 436, []),
  (436, .iconst 3, 437, []),
  (437, .iadd, 438, []),
  (438, .iaload, 439, []),
  (439, .invokevirtual 44, 442, []),
  (442, .if_icmp .eq 635, 445, [(0, 1077)])]
set_option maxRecDepth 100000 in
theorem mo_pLw_note : MO mL_law 8 false (some .boolean) pLw_note := ⟨rL_law, rfl, rfl, by decide, rfl, (fun h => by cases h), (by decide +kernel)⟩
set_option maxRecDepth 100000 in
theorem lw_note (hks : ks ≤ ms) (hV : Inv M) (h0 : 0 ≤ i) (h1 : i + 6 ≤ (N : Int)) (hN : (N : Int) ≤ 3072) (kk : ∀ M', Inv M' → AJ 13 mc ms mL_law Φ mc ks 1077 [some (.inr 0), some (.inr 1), some (.inr 24), some (.inl i)] [] (S0 N) M') : AJ 13 mc ms mL_law Φ mc ks 404 [some (.inr 0), some (.inr 1), some (.inr 24), some (.inl i)] [] (S0 N) M := by
  refine aLw mo_pLw_note hks [442] 60 (fun hM => ?_)
  obtain ⟨Φ1, R1, k1⟩ := p_note (N := N) hV (hM 0 (i + 1)) (hM 0 (i + 2)) (hM 0 (i + 3))
  refine ⟨by omega, ⟨by omega, ⟨by omega, ⟨2, Φ1, (Nat.le_of_ble_eq_true rfl), R1, fun r S' M1 g1 hM1 => ?_⟩⟩⟩⟩
  obtain ⟨v, rfl, rfl, e0, Φ2, R2, k2⟩ := k1 r S' M1 g1
  have R2' : Ret 2 0 0 mM_note [.inr 24, .inl (M1 0 (i + 1)), .inl (M1 0 (i + 2)), .inl (M1 0 (i + 3))] (S0 N) M1 Φ2 := by
    rw [e0, e0, e0]; exact R2
  refine ⟨by omega, ⟨by omega, ⟨by omega, ⟨2, Φ2, (Nat.le_of_ble_eq_true rfl), R2', fun r' S'' M2 g2 hM2 => ?_⟩⟩⟩⟩
  obtain ⟨rfl, rfl, V2, e2⟩ := k2 r' S'' M2 g2
  exact c_same mo_pLw_note (pc := 442) rfl rfl rfl (kk M2 V2)
set_option maxRecDepth 100000 in
def pLw_costs : List En := [(447, .aload_n 1, 448, []),
  (448, .aload_n 0, 449, []),
  (449, .iload_n 3, 450, []),
  (450, .iconst 1, 451, []),
  (451, .iadd, 452, []),
  (452, .iaload, 453, []),
  (453, .aload_n 0, 454, []),
  (454, .iload_n 3, 455, []),
  (455, .iconst 2, 456, []),
  (456, .iadd, 457, []),
  (457, .iaload, 458, []),
  (458, .invokevirtual 45, 461, []),
  (461, .aload_n 2, 462, []),
  (462, .aload_n 0, 463, []),
  (463, .iload_n 3, 464, []),
  (464, .iconst 1, 465, []),
  (465, .iadd, 466, []),
  (466, .iaload, 467, []),
  (467, .aload_n 0, 468, []),
  (468, .iload_n 3, 469, []),
  (469, .iconst 2, 470, []),
  (470, .iadd, 471, []),
  (471, .iaload, 472, []),
  (472, .invokevirtual 48, 475, []),
  (475, .if_icmp .eq 602, 478, [(0, 1077)])]
set_option maxRecDepth 100000 in
theorem mo_pLw_costs : MO mL_law 8 false (some .boolean) pLw_costs := ⟨rL_law, rfl, rfl, by decide, rfl, (fun h => by cases h), (by decide +kernel)⟩
set_option maxRecDepth 100000 in
theorem lw_costs (hks : ks ≤ ms) (hV : Inv M) (h0 : 0 ≤ i) (h1 : i + 6 ≤ (N : Int)) (hN : (N : Int) ≤ 3072) (kk : ∀ M', Inv M' → AJ 13 mc ms mL_law Φ mc ks 1077 [some (.inr 0), some (.inr 1), some (.inr 24), some (.inl i)] [] (S0 N) M') : AJ 13 mc ms mL_law Φ mc ks 447 [some (.inr 0), some (.inr 1), some (.inr 24), some (.inl i)] [] (S0 N) M := by
  refine aLw mo_pLw_costs hks [475] 60 (fun hM => ?_)
  obtain ⟨Φ1, R1, k1⟩ := p_costs (N := N) hV (hM 0 (i + 1)) (hM 0 (i + 2))
  refine ⟨by omega, ⟨by omega, ⟨2, Φ1, (Nat.le_of_ble_eq_true rfl), R1, fun r S' M1 g1 hM1 => ?_⟩⟩⟩
  obtain ⟨v, rfl, rfl, e0, Φ2, R2, k2⟩ := k1 r S' M1 g1
  have R2' : Ret 2 0 0 mM_costs [.inr 24, .inl (M1 0 (i + 1)), .inl (M1 0 (i + 2))] (S0 N) M1 Φ2 := by
    rw [e0, e0]; exact R2
  refine ⟨by omega, ⟨by omega, ⟨2, Φ2, (Nat.le_of_ble_eq_true rfl), R2', fun r' S'' M2 g2 hM2 => ?_⟩⟩⟩
  obtain ⟨rfl, rfl, V2, e2⟩ := k2 r' S'' M2 g2
  exact c_same mo_pLw_costs (pc := 475) rfl rfl rfl (kk M2 V2)
set_option maxRecDepth 100000 in
def pLw_step : List En := [(480, .aload_n 1, 481, []),
  (481, .aload_n 0, 482, []),
  (482, .iload_n 3, 483, []),
  (483, .iconst 1, 484, []),
  (484, .iadd, 485, []),
  (485, .iaload, 486, []),
  (486, .aload_n 0, 487, []),
  (487, .iload_n 3, 488, []),
  (488, .iconst 2, 489, []),
  (489, .iadd, 490, []),
  (490, .iaload, 491, []),
  (491, .aload_n 0, 492, []),
  (492, .iload_n 3, 493, []),
  (493, .iconst 3, 494, []),
  (494, .iadd, 495, []),
  (495, .iaload, 496, []),
  (496, .aload_n 0, 497, []),
  (497, .iload_n 3, 498, []),
  (498, .iconst 4, 499, []),
  (499, .iadd, 500, []),
  (500, .iaload, 501, []),
  (501, .aload_n 0, 502, []),
  (502, .iload_n 3, 503, []),
  (503, .iconst 5, 504, []),
  (504, .iadd, 505, []),
  (505, .iaload, 506, []),
  (506, .invokevirtual 49, 509, []),
  (509, .aload_n 2, 510, []),
  (510, .aload_n 0, 511, []),
  (511, .iload_n 3, 512, []),
  (512, .iconst 1, 513, []),
  (513, .iadd, 514, []),
  (514, .iaload, 515, []),
  (515, .aload_n 0, 516, []),
  (516, .iload_n 3, 517, []),
  (517, .iconst 2, 518, []),
  (518, .iadd, 519, []),
  (519, .iaload, 520, []),
  (520, .aload_n 0, 521, []),
  (521, .iload_n 3, 522, []),
  (522, .iconst 3, 523, []),
  (523, .iadd, 524, []),
  (524, .iaload, 525, []),
  (525, .aload_n 0, 526, []),
  (526, .iload_n 3, 527, []),
  (527, .iconst 4, 528, []),
  (528, .iadd, 529, []),
  (529, .iaload, 530, []),
  (530, .aload_n 0, 531, []),
  (531, .iload_n 3, 532, []),
  (532, .iconst 5, 533, []),
  (533, .iadd, 534, []),
  (534, .iaload, 535, []),
  (535, .invokevirtual 52, 538, []),
  (538, .if_icmp .eq 539, 541, [(0, 1077)])]
set_option maxRecDepth 100000 in
theorem mo_pLw_step : MO mL_law 8 false (some .boolean) pLw_step := ⟨rL_law, rfl, rfl, by decide, rfl, (fun h => by cases h), (by decide +kernel)⟩
set_option maxRecDepth 100000 in
theorem lw_step (hks : ks ≤ ms) (hV : Inv M) (h0 : 0 ≤ i) (h1 : i + 6 ≤ (N : Int)) (hN : (N : Int) ≤ 3072) (kk : ∀ M', Inv M' → AJ 13 mc ms mL_law Φ mc ks 1077 [some (.inr 0), some (.inr 1), some (.inr 24), some (.inl i)] [] (S0 N) M') : AJ 13 mc ms mL_law Φ mc ks 480 [some (.inr 0), some (.inr 1), some (.inr 24), some (.inl i)] [] (S0 N) M := by
  refine aLw mo_pLw_step hks [538] 60 (fun hM => ?_)
  obtain ⟨Φ1, R1, k1⟩ := p_step (N := N) hV (hM 0 (i + 1)) (hM 0 (i + 2)) (hM 0 (i + 3)) (hM 0 (i + 4)) (hM 0 (i + 5))
  refine ⟨by omega, ⟨by omega, ⟨by omega, ⟨by omega, ⟨by omega, ⟨3, Φ1, (Nat.le_of_ble_eq_true rfl), R1, fun r S' M1 g1 hM1 => ?_⟩⟩⟩⟩⟩⟩
  obtain ⟨v, rfl, rfl, e0, Φ2, R2, k2⟩ := k1 r S' M1 g1
  have R2' : Ret 2 0 0 mM_step [.inr 24, .inl (M1 0 (i + 1)), .inl (M1 0 (i + 2)), .inl (M1 0 (i + 3)), .inl (M1 0 (i + 4)), .inl (M1 0 (i + 5))] (S0 N) M1 Φ2 := by
    rw [e0, e0, e0, e0, e0]; exact R2
  refine ⟨by omega, ⟨by omega, ⟨by omega, ⟨by omega, ⟨by omega, ⟨2, Φ2, (Nat.le_of_ble_eq_true rfl), R2', fun r' S'' M2 g2 hM2 => ?_⟩⟩⟩⟩⟩⟩
  obtain ⟨rfl, rfl, V2, e2⟩ := k2 r' S'' M2 g2
  exact c_same mo_pLw_step (pc := 538) rfl rfl rfl (kk M2 V2)
set_option maxRecDepth 100000 in
def pLw_best : List En := [(543, .aload_n 1, 544, []),
  (544, .aload_n 0, 545, []),
  (545, .iload_n 3, 546, []),
  (546, .iconst 1, 547, []),
  (547, .iadd, 548, []),
  (548, .iaload, 549, []),
  (549, .invokevirtual 53, 552, []),
  (552, .aload_n 2, 553, []),
  (553, .aload_n 0, 554, []),
  (554, .iload_n 3, 555, []),
  (555, .iconst 1, 556, []),
  (556, .iadd, 557, []),
  (557, .iaload, 558, []),
  (558, .invokevirtual 56, 561, []),
  (561, .if_icmp .eq 516, 564, [(0, 1077)])]
set_option maxRecDepth 100000 in
theorem mo_pLw_best : MO mL_law 8 false (some .boolean) pLw_best := ⟨rL_law, rfl, rfl, by decide, rfl, (fun h => by cases h), (by decide +kernel)⟩
set_option maxRecDepth 100000 in
theorem lw_best (hks : ks ≤ ms) (hV : Inv M) (h0 : 0 ≤ i) (h1 : i + 6 ≤ (N : Int)) (hN : (N : Int) ≤ 3072) (kk : ∀ M', Inv M' → AJ 13 mc ms mL_law Φ mc ks 1077 [some (.inr 0), some (.inr 1), some (.inr 24), some (.inl i)] [] (S0 N) M') : AJ 13 mc ms mL_law Φ mc ks 543 [some (.inr 0), some (.inr 1), some (.inr 24), some (.inl i)] [] (S0 N) M := by
  refine aLw mo_pLw_best hks [561] 60 (fun hM => ?_)
  obtain ⟨Φ1, R1, k1⟩ := p_best (N := N) hV (hM 0 (i + 1))
  refine ⟨by omega, ⟨6, Φ1, (Nat.le_of_ble_eq_true rfl), R1, fun r S' M1 g1 hM1 => ?_⟩⟩
  obtain ⟨v, rfl, rfl, e0, Φ2, R2, k2⟩ := k1 r S' M1 g1
  have R2' : Ret 11 0 0 mM_best [.inr 24, .inl (M1 0 (i + 1))] (S0 N) M1 Φ2 := by
    rw [e0]; exact R2
  refine ⟨by omega, ⟨11, Φ2, (Nat.le_of_ble_eq_true rfl), R2', fun r' S'' M2 g2 hM2 => ?_⟩⟩
  obtain ⟨rfl, rfl, V2, e2⟩ := k2 r' S'' M2 g2
  exact c_same mo_pLw_best (pc := 561) rfl rfl rfl (kk M2 V2)
set_option maxRecDepth 100000 in
def pLw_finger : List En := [(566, .aload_n 1, 567, []),
  (567, .aload_n 0, 568, []),
  (568, .iload_n 3, 569, []),
  (569, .iconst 1, 570, []),
  (570, .iadd, 571, []),
  (571, .iaload, 572, []),
  (572, .aload_n 0, 573, []),
  (573, .iload_n 3, 574, []),
  (574, .iconst 2, 575, []),
  (575, .iadd, 576, []),
  (576, .iaload, 577, []),
  (577, .invokevirtual 57, 580, []),
  (580, .aload_n 2, 581, []),
  (581, .aload_n 0, 582, []),
  (582, .iload_n 3, 583, []),
  (583, .iconst 1, 584, []),
  (584, .iadd, 585, []),
  (585, .iaload, 586, []),
  (586, .aload_n 0, 587, []),
  (587, .iload_n 3, 588, []),
  (588, .iconst 2, 589, []),
  (589, .iadd, 590, []),
  (590, .iaload, 591, []),
  (591, .invokevirtual 60, 594, []),
  (594, .if_icmp .eq 483, 597, [(0, 1077)])]
set_option maxRecDepth 100000 in
theorem mo_pLw_finger : MO mL_law 8 false (some .boolean) pLw_finger := ⟨rL_law, rfl, rfl, by decide, rfl, (fun h => by cases h), (by decide +kernel)⟩
set_option maxRecDepth 100000 in
theorem lw_finger (hks : ks ≤ ms) (hV : Inv M) (h0 : 0 ≤ i) (h1 : i + 6 ≤ (N : Int)) (hN : (N : Int) ≤ 3072) (kk : ∀ M', Inv M' → AJ 13 mc ms mL_law Φ mc ks 1077 [some (.inr 0), some (.inr 1), some (.inr 24), some (.inl i)] [] (S0 N) M') : AJ 13 mc ms mL_law Φ mc ks 566 [some (.inr 0), some (.inr 1), some (.inr 24), some (.inl i)] [] (S0 N) M := by
  refine aLw mo_pLw_finger hks [594] 60 (fun hM => ?_)
  obtain ⟨Φ1, R1, k1⟩ := p_finger (N := N) hV (hM 0 (i + 1)) (hM 0 (i + 2))
  refine ⟨by omega, ⟨by omega, ⟨7, Φ1, (Nat.le_of_ble_eq_true rfl), R1, fun r S' M1 g1 hM1 => ?_⟩⟩⟩
  obtain ⟨v, rfl, rfl, e0, Φ2, R2, k2⟩ := k1 r S' M1 g1
  have R2' : Ret 11 0 0 mM_finger [.inr 24, .inl (M1 0 (i + 1)), .inl (M1 0 (i + 2))] (S0 N) M1 Φ2 := by
    rw [e0, e0]; exact R2
  refine ⟨by omega, ⟨by omega, ⟨11, Φ2, (Nat.le_of_ble_eq_true rfl), R2', fun r' S'' M2 g2 hM2 => ?_⟩⟩⟩
  obtain ⟨rfl, rfl, V2, e2⟩ := k2 r' S'' M2 g2
  exact c_same mo_pLw_finger (pc := 594) rfl rfl rfl (kk M2 V2)
set_option maxRecDepth 100000 in
def pLw_would : List En := [(599, .aload_n 1, 600, []),
  (600, .aload_n 0, 601, []),
  (601, .iload_n 3, 602, []),
  (602, .iconst 1, 603, []),
  (603, .iadd, 604, []),
  (604, .iaload, 605, []),
  (605, .aload_n 0, 606, []),
  (606, .iload_n 3, 607, []),
  (607, .iconst 2, 608, []),
  (608, .iadd, 609, []),
  (609, .iaload, 610, []),
  (610, .aload_n 0, 611, []),
  (611, .iload_n 3, 612, []),
  (612, .iconst 3, 613, []),
  (613, .iadd, 614, []),
  (614, .iaload, 615, []),
  (615, .invokevirtual 61, 618, []),
  (618, .aload_n 2, 619, []),
  (619, .aload_n 0, 620, []),
  (620, .iload_n 3, 621, []),
  (621, .iconst 1, 622, []),
  (622, .iadd, 623, []),
  (623, .iaload, 624, []),
  (624, .aload_n 0, 625, []),
  (625, .iload_n 3, 626, []),
  (626, .iconst 2, 627, []),
  (627, .iadd, 628, []),
  (628, .iaload, 629, []),
  (629, .aload_n 0, 630, []),
  (630, .iload_n 3, 631, []),
  (631, .iconst 3, 632, []),
  (632, .iadd, 633, []),
  (633, .iaload, 634, []),
  (634, .invokevirtual 64, 637, []),
  (637, .if_icmp .eq 440, 640, [(0, 1077)])]
set_option maxRecDepth 100000 in
theorem mo_pLw_would : MO mL_law 8 false (some .boolean) pLw_would := ⟨rL_law, rfl, rfl, by decide, rfl, (fun h => by cases h), (by decide +kernel)⟩
set_option maxRecDepth 100000 in
theorem lw_would (hks : ks ≤ ms) (hV : Inv M) (h0 : 0 ≤ i) (h1 : i + 6 ≤ (N : Int)) (hN : (N : Int) ≤ 3072) (kk : ∀ M', Inv M' → AJ 13 mc ms mL_law Φ mc ks 1077 [some (.inr 0), some (.inr 1), some (.inr 24), some (.inl i)] [] (S0 N) M') : AJ 13 mc ms mL_law Φ mc ks 599 [some (.inr 0), some (.inr 1), some (.inr 24), some (.inl i)] [] (S0 N) M := by
  refine aLw mo_pLw_would hks [637] 60 (fun hM => ?_)
  obtain ⟨Φ1, R1, k1⟩ := p_would (N := N) hV (hM 0 (i + 1)) (hM 0 (i + 2)) (hM 0 (i + 3))
  refine ⟨by omega, ⟨by omega, ⟨by omega, ⟨6, Φ1, (Nat.le_of_ble_eq_true rfl), R1, fun r S' M1 g1 hM1 => ?_⟩⟩⟩⟩
  obtain ⟨v, rfl, rfl, e0, Φ2, R2, k2⟩ := k1 r S' M1 g1
  have R2' : Ret 11 0 0 mM_would [.inr 24, .inl (M1 0 (i + 1)), .inl (M1 0 (i + 2)), .inl (M1 0 (i + 3))] (S0 N) M1 Φ2 := by
    rw [e0, e0, e0]; exact R2
  refine ⟨by omega, ⟨by omega, ⟨by omega, ⟨11, Φ2, (Nat.le_of_ble_eq_true rfl), R2', fun r' S'' M2 g2 hM2 => ?_⟩⟩⟩⟩
  obtain ⟨rfl, rfl, V2, e2⟩ := k2 r' S'' M2 g2
  exact c_same mo_pLw_would (pc := 637) rfl rfl rfl (kk M2 V2)
set_option maxRecDepth 100000 in
def pLw_tie : List En := [(642, .aload_n 1, 643, []),
  (643, .aload_n 0, 644, []),
  (644, .iload_n 3, 645, []),
  (645, .iconst 1, 646, []),
  (646, .iadd, 647, []),
  (647, .iaload, 648, []),
  (648, .aload_n 0, 649, []),
  (649, .iload_n 3, 650, []),
  (650, .iconst 2, 651, []),
  (651, .iadd, 652, []),
  (652, .iaload, 653, []),
  (653, .aload_n 0, 654, []),
  (654, .iload_n 3, 655, []),
  (655, .iconst 3, 656, []),
  (656, .iadd, 657, []),
  (657, .iaload, 658, []),
  (658, .aload_n 0, 659, []),
  (659, .iload_n 3, 660, []),
  (660, .iconst 4, 661, []),
  (661, .iadd, 662, []),
  (662, .iaload, 663, []),
  (663, .invokevirtual 65, 666, []),
  (666, .aload_n 2, 667, []),
  (667, .aload_n 0, 668, []),
  (668, .iload_n 3, 669, []),
  (669, .iconst 1, 670, []),
  (670, .iadd, 671, []),
  (671, .iaload, 672, []),
  (672, .aload_n 0, 673, []),
  (673, .iload_n 3, 674, []),
  (674, .iconst 2, 675, []),
  (675, .iadd, 676, []),
  (676, .iaload, 677, []),
  (677, .aload_n 0, 678, []),
  (678, .iload_n 3, 679, []),
  (679, .iconst 3, 680, []),
  (680, .iadd, 681, []),
  (681, .iaload, 682, []),
  (682, .aload_n 0, 683, []),
  (683, .iload_n 3, 684, []),
  (684, .iconst 4, 685, []),
  (685, .iadd, 686, []),
  (686, .iaload, 687, []),
  (687, .invokevirtual 69, 690, []),
  (690, .if_icmp .eq 387, 693, [(0, 1077)])]
set_option maxRecDepth 100000 in
theorem mo_pLw_tie : MO mL_law 8 false (some .boolean) pLw_tie := ⟨rL_law, rfl, rfl, by decide, rfl, (fun h => by cases h), (by decide +kernel)⟩
set_option maxRecDepth 100000 in
theorem lw_tie (hks : ks ≤ ms) (hV : Inv M) (h0 : 0 ≤ i) (h1 : i + 6 ≤ (N : Int)) (hN : (N : Int) ≤ 3072) (kk : ∀ M', Inv M' → AJ 13 mc ms mL_law Φ mc ks 1077 [some (.inr 0), some (.inr 1), some (.inr 24), some (.inl i)] [] (S0 N) M') : AJ 13 mc ms mL_law Φ mc ks 642 [some (.inr 0), some (.inr 1), some (.inr 24), some (.inl i)] [] (S0 N) M := by
  refine aLw mo_pLw_tie hks [690] 60 (fun hM => ?_)
  obtain ⟨Φ1, R1, k1⟩ := p_tie (N := N) hV (hM 0 (i + 1)) (hM 0 (i + 2)) (hM 0 (i + 3)) (hM 0 (i + 4))
  refine ⟨by omega, ⟨by omega, ⟨by omega, ⟨by omega, ⟨2, Φ1, (Nat.le_of_ble_eq_true rfl), R1, fun r S' M1 g1 hM1 => ?_⟩⟩⟩⟩⟩
  obtain ⟨v, rfl, rfl, e0, Φ2, R2, k2⟩ := k1 r S' M1 g1
  have R2' : Ret 3 0 0 mM_tie [.inr 24, .inl (M1 0 (i + 1)), .inl (M1 0 (i + 2)), .inl (M1 0 (i + 3)), .inl (M1 0 (i + 4))] (S0 N) M1 Φ2 := by
    rw [e0, e0, e0, e0]; exact R2
  refine ⟨by omega, ⟨by omega, ⟨by omega, ⟨by omega, ⟨3, Φ2, (Nat.le_of_ble_eq_true rfl), R2', fun r' S'' M2 g2 hM2 => ?_⟩⟩⟩⟩⟩
  obtain ⟨rfl, rfl, V2, e2⟩ := k2 r' S'' M2 g2
  exact c_same mo_pLw_tie (pc := 690) rfl rfl rfl (kk M2 V2)
set_option maxRecDepth 100000 in
def pLw_untie : List En := [(695, .aload_n 1, 696, []),
  (696, .aload_n 0, 697, []),
  (697, .iload_n 3, 698, []),
  (698, .iconst 1, 699, []),
  (699, .iadd, 700, []),
  (700, .iaload, 701, []),
  (701, .invokevirtual 70, 704, []),
  (704, .aload_n 2, 705, []),
  (705, .aload_n 0, 706, []),
  (706, .iload_n 3, 707, []),
  (707, .iconst 1, 708, []),
  (708, .iadd, 709, []),
  (709, .iaload, 710, []),
  (710, .invokevirtual 73, 713, []),
  (713, .if_icmp .eq 364, 716, [(0, 1077)])]
set_option maxRecDepth 100000 in
theorem mo_pLw_untie : MO mL_law 8 false (some .boolean) pLw_untie := ⟨rL_law, rfl, rfl, by decide, rfl, (fun h => by cases h), (by decide +kernel)⟩
set_option maxRecDepth 100000 in
theorem lw_untie (hks : ks ≤ ms) (hV : Inv M) (h0 : 0 ≤ i) (h1 : i + 6 ≤ (N : Int)) (hN : (N : Int) ≤ 3072) (kk : ∀ M', Inv M' → AJ 13 mc ms mL_law Φ mc ks 1077 [some (.inr 0), some (.inr 1), some (.inr 24), some (.inl i)] [] (S0 N) M') : AJ 13 mc ms mL_law Φ mc ks 695 [some (.inr 0), some (.inr 1), some (.inr 24), some (.inl i)] [] (S0 N) M := by
  refine aLw mo_pLw_untie hks [713] 60 (fun hM => ?_)
  obtain ⟨Φ1, R1, k1⟩ := p_untie (N := N) hV (hM 0 (i + 1))
  refine ⟨by omega, ⟨2, Φ1, (Nat.le_of_ble_eq_true rfl), R1, fun r S' M1 g1 hM1 => ?_⟩⟩
  obtain ⟨v, rfl, rfl, e0, Φ2, R2, k2⟩ := k1 r S' M1 g1
  have R2' : Ret 2 0 0 mM_untie [.inr 24, .inl (M1 0 (i + 1))] (S0 N) M1 Φ2 := by
    rw [e0]; exact R2
  refine ⟨by omega, ⟨2, Φ2, (Nat.le_of_ble_eq_true rfl), R2', fun r' S'' M2 g2 hM2 => ?_⟩⟩
  obtain ⟨rfl, rfl, V2, e2⟩ := k2 r' S'' M2 g2
  exact c_same mo_pLw_untie (pc := 713) rfl rfl rfl (kk M2 V2)
set_option maxRecDepth 100000 in
def pLw_tied : List En := [(718, .aload_n 1, 719, []),
  (719, .aload_n 0, 720, []),
  (720, .iload_n 3, 721, []),
  (721, .iconst 1, 722, []),
  (722, .iadd, 723, []),
  (723, .iaload, 724, []),
  (724, .invokevirtual 74, 727, []),
  (727, .aload_n 2, 728, []),
  (728, .aload_n 0, 729, []),
  (729, .iload_n 3, 730, []),
  (730, .iconst 1, 731, []),
  (731, .iadd, 732, []),
  (732, .iaload, 733, []),
  (733, .invokevirtual 77, 736, []),
  (736, .if_icmp .eq 341, 739, [(0, 1077)])]
set_option maxRecDepth 100000 in
theorem mo_pLw_tied : MO mL_law 8 false (some .boolean) pLw_tied := ⟨rL_law, rfl, rfl, by decide, rfl, (fun h => by cases h), (by decide +kernel)⟩
set_option maxRecDepth 100000 in
theorem lw_tied (hks : ks ≤ ms) (hV : Inv M) (h0 : 0 ≤ i) (h1 : i + 6 ≤ (N : Int)) (hN : (N : Int) ≤ 3072) (kk : ∀ M', Inv M' → AJ 13 mc ms mL_law Φ mc ks 1077 [some (.inr 0), some (.inr 1), some (.inr 24), some (.inl i)] [] (S0 N) M') : AJ 13 mc ms mL_law Φ mc ks 718 [some (.inr 0), some (.inr 1), some (.inr 24), some (.inl i)] [] (S0 N) M := by
  refine aLw mo_pLw_tied hks [736] 60 (fun hM => ?_)
  obtain ⟨Φ1, R1, k1⟩ := p_tied (N := N) hV (hM 0 (i + 1))
  refine ⟨by omega, ⟨6, Φ1, (Nat.le_of_ble_eq_true rfl), R1, fun r S' M1 g1 hM1 => ?_⟩⟩
  obtain ⟨v, rfl, rfl, e0, Φ2, R2, k2⟩ := k1 r S' M1 g1
  have R2' : Ret 10 0 0 mM_tied [.inr 24, .inl (M1 0 (i + 1))] (S0 N) M1 Φ2 := by
    rw [e0]; exact R2
  refine ⟨by omega, ⟨10, Φ2, (Nat.le_of_ble_eq_true rfl), R2', fun r' S'' M2 g2 hM2 => ?_⟩⟩
  obtain ⟨rfl, rfl, V2, e2⟩ := k2 r' S'' M2 g2
  exact c_same mo_pLw_tied (pc := 736) rfl rfl rfl (kk M2 V2)
set_option maxRecDepth 100000 in
def pLw_stuck : List En := [(741, .aload_n 1, 742, []),
  (742, .aload_n 0, 743, []),
  (743, .iload_n 3, 744, []),
  (744, .iconst 1, 745, []),
  (745, .iadd, 746, []),
  (746, .iaload, 747, []),
  (747, .invokevirtual 78, 750, []),
  (750, .aload_n 2, 751, []),
  (751, .aload_n 0, 752, []),
  (752, .iload_n 3, 753, []),
  (753, .iconst 1, 754, []),
  (754, .iadd, 755, []),
  (755, .iaload, 756, []),
  (756, .invokevirtual 81, 759, []),
  (759, .if_icmp .eq 318, 762, [(0, 1077)])]
set_option maxRecDepth 100000 in
theorem mo_pLw_stuck : MO mL_law 8 false (some .boolean) pLw_stuck := ⟨rL_law, rfl, rfl, by decide, rfl, (fun h => by cases h), (by decide +kernel)⟩
set_option maxRecDepth 100000 in
theorem lw_stuck (hks : ks ≤ ms) (hV : Inv M) (h0 : 0 ≤ i) (h1 : i + 6 ≤ (N : Int)) (hN : (N : Int) ≤ 3072) (kk : ∀ M', Inv M' → AJ 13 mc ms mL_law Φ mc ks 1077 [some (.inr 0), some (.inr 1), some (.inr 24), some (.inl i)] [] (S0 N) M') : AJ 13 mc ms mL_law Φ mc ks 741 [some (.inr 0), some (.inr 1), some (.inr 24), some (.inl i)] [] (S0 N) M := by
  refine aLw mo_pLw_stuck hks [759] 60 (fun hM => ?_)
  obtain ⟨Φ1, R1, k1⟩ := p_stuck (N := N) hV (hM 0 (i + 1))
  refine ⟨by omega, ⟨6, Φ1, (Nat.le_of_ble_eq_true rfl), R1, fun r S' M1 g1 hM1 => ?_⟩⟩
  obtain ⟨v, rfl, rfl, e0, Φ2, R2, k2⟩ := k1 r S' M1 g1
  have R2' : Ret 10 0 0 mM_stuck [.inr 24, .inl (M1 0 (i + 1))] (S0 N) M1 Φ2 := by
    rw [e0]; exact R2
  refine ⟨by omega, ⟨10, Φ2, (Nat.le_of_ble_eq_true rfl), R2', fun r' S'' M2 g2 hM2 => ?_⟩⟩
  obtain ⟨rfl, rfl, V2, e2⟩ := k2 r' S'' M2 g2
  exact c_same mo_pLw_stuck (pc := 759) rfl rfl rfl (kk M2 V2)
set_option maxRecDepth 100000 in
def pLw_phrase : List En := [(764, .aload_n 1, 765, []),
  (765, .aload_n 0, 766, []),
  (766, .iload_n 3, 767, []),
  (767, .iconst 1, 768, []),
  (768, .iadd, 769, []),
  (769, .iaload, 770, []),
  (770, .aload_n 0, 771, []),
  (771, .iload_n 3, 772, []),
  (772, .iconst 2, 773, []),
  (773, .iadd, 774, []),
  (774, .iaload, 775, []),
  (775, .aload_n 0, 776, []),
  (776, .iload_n 3, 777, []),
  (777, .iconst 3, 778, []),
  (778, .iadd, 779, []),
  (779, .iaload, 780, []),
  (780, .aload_n 0, 781, []),
  (781, .iload_n 3, 782, []),
  (782, .iconst 4, 783, []),
  (783, .iadd, 784, []),
  (784, .iaload, 785, []),
  (785, .invokevirtual 82, 788, []),
  (788, .aload_n 2, 789, []),
  (789, .aload_n 0, 790, []),
  (790, .iload_n 3, 791, []),
  (791, .iconst 1, 792, []),
  (792, .iadd, 793, []),
  (793, .iaload, 794, []),
  (794, .aload_n 0, 795, []),
  (795, .iload_n 3, 796, []),
  (796, .iconst 2, 797, []),
  (797, .iadd, 798, []),
  (798, .iaload, 799, []),
  (799, .aload_n 0, 800, []),
  (800, .iload_n 3, 801, []),
  (801, .iconst 3, 802, []),
  (802, .iadd, 803, []),
  (803, .iaload, 804, []),
  (804, .aload_n 0, 805, []),
  (805, .iload_n 3, 806, []),
  (806, .iconst 4, 807, []),
  (807, .iadd, 808, []),
  (808, .iaload, 809, []),
  (809, .invokevirtual 85, 812, []),
  (812, .if_icmp .eq 265, 815, [(0, 1077)])]
set_option maxRecDepth 100000 in
theorem mo_pLw_phrase : MO mL_law 8 false (some .boolean) pLw_phrase := ⟨rL_law, rfl, rfl, by decide, rfl, (fun h => by cases h), (by decide +kernel)⟩
set_option maxRecDepth 100000 in
theorem lw_phrase (hks : ks ≤ ms) (hV : Inv M) (h0 : 0 ≤ i) (h1 : i + 6 ≤ (N : Int)) (hN : (N : Int) ≤ 3072) (kk : ∀ M', Inv M' → AJ 13 mc ms mL_law Φ mc ks 1077 [some (.inr 0), some (.inr 1), some (.inr 24), some (.inl i)] [] (S0 N) M') : AJ 13 mc ms mL_law Φ mc ks 764 [some (.inr 0), some (.inr 1), some (.inr 24), some (.inl i)] [] (S0 N) M := by
  refine aLw mo_pLw_phrase hks [812] 60 (fun hM => ?_)
  obtain ⟨Φ1, R1, k1⟩ := p_phrase (N := N) hV (hM 0 (i + 1)) (hM 0 (i + 2)) (hM 0 (i + 3)) (hM 0 (i + 4))
  refine ⟨by omega, ⟨by omega, ⟨by omega, ⟨by omega, ⟨3, Φ1, (Nat.le_of_ble_eq_true rfl), R1, fun r S' M1 g1 hM1 => ?_⟩⟩⟩⟩⟩
  obtain ⟨v, rfl, rfl, e0, Φ2, R2, k2⟩ := k1 r S' M1 g1
  have R2' : Ret 2 0 0 mM_phrase [.inr 24, .inl (M1 0 (i + 1)), .inl (M1 0 (i + 2)), .inl (M1 0 (i + 3)), .inl (M1 0 (i + 4))] (S0 N) M1 Φ2 := by
    rw [e0, e0, e0, e0]; exact R2
  refine ⟨by omega, ⟨by omega, ⟨by omega, ⟨by omega, ⟨2, Φ2, (Nat.le_of_ble_eq_true rfl), R2', fun r' S'' M2 g2 hM2 => ?_⟩⟩⟩⟩⟩
  obtain ⟨rfl, rfl, V2, e2⟩ := k2 r' S'' M2 g2
  exact c_same mo_pLw_phrase (pc := 812) rfl rfl rfl (kk M2 V2)
set_option maxRecDepth 100000 in
def pLw_forget : List En := [(817, .aload_n 1, 818, []),
  (818, .aload_n 0, 819, []),
  (819, .iload_n 3, 820, []),
  (820, .iconst 1, 821, []),
  (821, .iadd, 822, []),
  (822, .iaload, 823, []),
  (823, .invokevirtual 86, 826, []),
  (826, .aload_n 2, 827, []),
  (827, .aload_n 0, 828, []),
  (828, .iload_n 3, 829, []),
  (829, .iconst 1, 830, []),
  (830, .iadd, 831, []),
  (831, .iaload, 832, []),
  (832, .invokevirtual 89, 835, []),
  (835, .if_icmp .eq 242, 838, [(0, 1077)])]
set_option maxRecDepth 100000 in
theorem mo_pLw_forget : MO mL_law 8 false (some .boolean) pLw_forget := ⟨rL_law, rfl, rfl, by decide, rfl, (fun h => by cases h), (by decide +kernel)⟩
set_option maxRecDepth 100000 in
theorem lw_forget (hks : ks ≤ ms) (hV : Inv M) (h0 : 0 ≤ i) (h1 : i + 6 ≤ (N : Int)) (hN : (N : Int) ≤ 3072) (kk : ∀ M', Inv M' → AJ 13 mc ms mL_law Φ mc ks 1077 [some (.inr 0), some (.inr 1), some (.inr 24), some (.inl i)] [] (S0 N) M') : AJ 13 mc ms mL_law Φ mc ks 817 [some (.inr 0), some (.inr 1), some (.inr 24), some (.inl i)] [] (S0 N) M := by
  refine aLw mo_pLw_forget hks [835] 60 (fun hM => ?_)
  obtain ⟨Φ1, R1, k1⟩ := p_forget (N := N) hV (hM 0 (i + 1))
  refine ⟨by omega, ⟨2, Φ1, (Nat.le_of_ble_eq_true rfl), R1, fun r S' M1 g1 hM1 => ?_⟩⟩
  obtain ⟨v, rfl, rfl, e0, Φ2, R2, k2⟩ := k1 r S' M1 g1
  have R2' : Ret 2 0 0 mM_forget [.inr 24, .inl (M1 0 (i + 1))] (S0 N) M1 Φ2 := by
    rw [e0]; exact R2
  refine ⟨by omega, ⟨2, Φ2, (Nat.le_of_ble_eq_true rfl), R2', fun r' S'' M2 g2 hM2 => ?_⟩⟩
  obtain ⟨rfl, rfl, V2, e2⟩ := k2 r' S'' M2 g2
  exact c_same mo_pLw_forget (pc := 835) rfl rfl rfl (kk M2 V2)
set_option maxRecDepth 100000 in
def pLw_prune : List En := [(840, .aload_n 1, 841, []),
  (841, .aload_n 0, 842, []),
  (842, .iload_n 3, 843, []),
  (843, .iconst 1, 844, []),
  (844, .iadd, 845, []),
  (845, .iaload, 846, []),
  (846, .invokevirtual 90, 849, []),
  (849, .aload_n 2, 850, []),
  (850, .aload_n 0, 851, []),
  (851, .iload_n 3, 852, []),
  (852, .iconst 1, 853, []),
  (853, .iadd, 854, []),
  (854, .iaload, 855, []),
  (855, .invokevirtual 93, 858, []),
  (858, .if_icmp .eq 219, 861, [(0, 1077)])]
set_option maxRecDepth 100000 in
theorem mo_pLw_prune : MO mL_law 8 false (some .boolean) pLw_prune := ⟨rL_law, rfl, rfl, by decide, rfl, (fun h => by cases h), (by decide +kernel)⟩
set_option maxRecDepth 100000 in
theorem lw_prune (hks : ks ≤ ms) (hV : Inv M) (h0 : 0 ≤ i) (h1 : i + 6 ≤ (N : Int)) (hN : (N : Int) ≤ 3072) (kk : ∀ M', Inv M' → AJ 13 mc ms mL_law Φ mc ks 1077 [some (.inr 0), some (.inr 1), some (.inr 24), some (.inl i)] [] (S0 N) M') : AJ 13 mc ms mL_law Φ mc ks 840 [some (.inr 0), some (.inr 1), some (.inr 24), some (.inl i)] [] (S0 N) M := by
  refine aLw mo_pLw_prune hks [858] 60 (fun hM => ?_)
  obtain ⟨Φ1, R1, k1⟩ := p_prune (N := N) hV (hM 0 (i + 1))
  refine ⟨by omega, ⟨3, Φ1, (Nat.le_of_ble_eq_true rfl), R1, fun r S' M1 g1 hM1 => ?_⟩⟩
  obtain ⟨v, rfl, rfl, e0, Φ2, R2, k2⟩ := k1 r S' M1 g1
  have R2' : Ret 2 0 0 mM_prune [.inr 24, .inl (M1 0 (i + 1))] (S0 N) M1 Φ2 := by
    rw [e0]; exact R2
  refine ⟨by omega, ⟨2, Φ2, (Nat.le_of_ble_eq_true rfl), R2', fun r' S'' M2 g2 hM2 => ?_⟩⟩
  obtain ⟨rfl, rfl, V2, e2⟩ := k2 r' S'' M2 g2
  exact c_same mo_pLw_prune (pc := 858) rfl rfl rfl (kk M2 V2)
set_option maxRecDepth 100000 in
def pLw_name : List En := [(863, .aload_n 1, 864, []),
  (864, .aload_n 0, 865, []),
  (865, .iload_n 3, 866, []),
  (866, .iconst 1, 867, []),
  (867, .iadd, 868, []),
  (868, .iaload, 869, []),
  (869, .invokevirtual 94, 872, []),
  (872, .aload_n 2, 873, []),
  (873, .aload_n 0, 874, []),
  (874, .iload_n 3, 875, []),
  (875, .iconst 1, 876, []),
  (876, .iadd, 877, []),
  (877, .iaload, 878, []),
  (878, .invokevirtual 97, 881, []),
  (881, .if_icmp .eq 196, 884, [(0, 1077)])]
set_option maxRecDepth 100000 in
theorem mo_pLw_name : MO mL_law 8 false (some .boolean) pLw_name := ⟨rL_law, rfl, rfl, by decide, rfl, (fun h => by cases h), (by decide +kernel)⟩
set_option maxRecDepth 100000 in
theorem lw_name (hks : ks ≤ ms) (hV : Inv M) (h0 : 0 ≤ i) (h1 : i + 6 ≤ (N : Int)) (hN : (N : Int) ≤ 3072) (kk : ∀ M', Inv M' → AJ 13 mc ms mL_law Φ mc ks 1077 [some (.inr 0), some (.inr 1), some (.inr 24), some (.inl i)] [] (S0 N) M') : AJ 13 mc ms mL_law Φ mc ks 863 [some (.inr 0), some (.inr 1), some (.inr 24), some (.inl i)] [] (S0 N) M := by
  refine aLw mo_pLw_name hks [881] 60 (fun hM => ?_)
  obtain ⟨Φ1, R1, k1⟩ := p_name (N := N) hV (hM 0 (i + 1))
  refine ⟨by omega, ⟨2, Φ1, (Nat.le_of_ble_eq_true rfl), R1, fun r S' M1 g1 hM1 => ?_⟩⟩
  obtain ⟨v, rfl, rfl, e0, Φ2, R2, k2⟩ := k1 r S' M1 g1
  have R2' : Ret 2 0 0 mM_name [.inr 24, .inl (M1 0 (i + 1))] (S0 N) M1 Φ2 := by
    rw [e0]; exact R2
  refine ⟨by omega, ⟨2, Φ2, (Nat.le_of_ble_eq_true rfl), R2', fun r' S'' M2 g2 hM2 => ?_⟩⟩
  obtain ⟨rfl, rfl, V2, e2⟩ := k2 r' S'' M2 g2
  exact c_same mo_pLw_name (pc := 881) rfl rfl rfl (kk M2 V2)
set_option maxRecDepth 100000 in
def pLw_echo : List En := [(886, .aload_n 1, 887, []),
  (887, .aload_n 0, 888, []),
  (888, .iload_n 3, 889, []),
  (889, .iconst 1, 890, []),
  (890, .iadd, 891, []),
  (891, .iaload, 892, []),
  (892, .aload_n 0, 893, []),
  (893, .iload_n 3, 894, []),
  (894, .iconst 2, 895, []),
  (895, .iadd, 896, []),
  (896, .iaload, 897, []),
  (897, .aload_n 0, 898, []),
  (898, .iload_n 3, 899, []),
  (899, .iconst 3, 900, []),
  (900, .iadd, 901, []),
  (901, .iaload, 902, []),
  (902, .invokevirtual 98, 905, []),
  (905, .aload_n 2, 906, []),
  (906, .aload_n 0, 907, []),
  (907, .iload_n 3, 908, []),
  (908, .iconst 1, 909, []),
  (909, .iadd, 910, []),
  (910, .iaload, 911, []),
  (911, .aload_n 0, 912, []),
  (912, .iload_n 3, 913, []),
  (913, .iconst 2, 914, []),
  (914, .iadd, 915, []),
  (915, .iaload, 916, []),
  (916, .aload_n 0, 917, []),
  (917, .iload_n 3, 918, []),
  (918, .iconst 3, 919, []),
  (919, .iadd, 920, []),
  (920, .iaload, 921, []),
  (921, .invokevirtual 101, 924, []),
  (924, .if_icmp .eq 153, 927, [(0, 1077)])]
set_option maxRecDepth 100000 in
theorem mo_pLw_echo : MO mL_law 8 false (some .boolean) pLw_echo := ⟨rL_law, rfl, rfl, by decide, rfl, (fun h => by cases h), (by decide +kernel)⟩
set_option maxRecDepth 100000 in
theorem lw_echo (hks : ks ≤ ms) (hV : Inv M) (h0 : 0 ≤ i) (h1 : i + 6 ≤ (N : Int)) (hN : (N : Int) ≤ 3072) (kk : ∀ M', Inv M' → AJ 13 mc ms mL_law Φ mc ks 1077 [some (.inr 0), some (.inr 1), some (.inr 24), some (.inl i)] [] (S0 N) M') : AJ 13 mc ms mL_law Φ mc ks 886 [some (.inr 0), some (.inr 1), some (.inr 24), some (.inl i)] [] (S0 N) M := by
  refine aLw mo_pLw_echo hks [924] 60 (fun hM => ?_)
  obtain ⟨Φ1, R1, k1⟩ := p_echo (N := N) hV (hM 0 (i + 1)) (hM 0 (i + 2)) (hM 0 (i + 3))
  refine ⟨by omega, ⟨by omega, ⟨by omega, ⟨4, Φ1, (Nat.le_of_ble_eq_true rfl), R1, fun r S' M1 g1 hM1 => ?_⟩⟩⟩⟩
  obtain ⟨v, rfl, rfl, e0, Φ2, R2, k2⟩ := k1 r S' M1 g1
  have R2' : Ret 2 0 0 mM_echo [.inr 24, .inl (M1 0 (i + 1)), .inl (M1 0 (i + 2)), .inl (M1 0 (i + 3))] (S0 N) M1 Φ2 := by
    rw [e0, e0, e0]; exact R2
  refine ⟨by omega, ⟨by omega, ⟨by omega, ⟨2, Φ2, (Nat.le_of_ble_eq_true rfl), R2', fun r' S'' M2 g2 hM2 => ?_⟩⟩⟩⟩
  obtain ⟨rfl, rfl, V2, e2⟩ := k2 r' S'' M2 g2
  exact c_same mo_pLw_echo (pc := 924) rfl rfl rfl (kk M2 V2)
set_option maxRecDepth 100000 in
def pLw_tieEcho : List En := [(929, .aload_n 1, 930, []),
  (930, .aload_n 0, 931, []),
  (931, .iload_n 3, 932, []),
  (932, .iconst 1, 933, []),
  (933, .iadd, 934, []),
  (934, .iaload, 935, []),
  (935, .aload_n 0, 936, []),
  (936, .iload_n 3, 937, []),
  (937, .iconst 2, 938, []),
  (938, .iadd, 939, []),
  (939, .iaload, 940, []),
  (940, .invokevirtual 102, 943, []),
  (943, .aload_n 2, 944, []),
  (944, .aload_n 0, 945, []),
  (945, .iload_n 3, 946, []),
  (946, .iconst 1, 947, []),
  (947, .iadd, 948, []),
  (948, .iaload, 949, []),
  (949, .aload_n 0, 950, []),
  (950, .iload_n 3, 951, []),
  (951, .iconst 2, 952, []),
  (952, .iadd, 953, []),
  (953, .iaload, 954, []),
  (954, .invokevirtual 105, 957, []),
  (957, .if_icmp .eq 120, 960, [(0, 1077)])]
set_option maxRecDepth 100000 in
theorem mo_pLw_tieEcho : MO mL_law 8 false (some .boolean) pLw_tieEcho := ⟨rL_law, rfl, rfl, by decide, rfl, (fun h => by cases h), (by decide +kernel)⟩
set_option maxRecDepth 100000 in
theorem lw_tieEcho (hks : ks ≤ ms) (hV : Inv M) (h0 : 0 ≤ i) (h1 : i + 6 ≤ (N : Int)) (hN : (N : Int) ≤ 3072) (kk : ∀ M', Inv M' → AJ 13 mc ms mL_law Φ mc ks 1077 [some (.inr 0), some (.inr 1), some (.inr 24), some (.inl i)] [] (S0 N) M') : AJ 13 mc ms mL_law Φ mc ks 929 [some (.inr 0), some (.inr 1), some (.inr 24), some (.inl i)] [] (S0 N) M := by
  refine aLw mo_pLw_tieEcho hks [957] 60 (fun hM => ?_)
  obtain ⟨Φ1, R1, k1⟩ := p_tieEcho (N := N) hV (hM 0 (i + 1)) (hM 0 (i + 2))
  refine ⟨by omega, ⟨by omega, ⟨4, Φ1, (Nat.le_of_ble_eq_true rfl), R1, fun r S' M1 g1 hM1 => ?_⟩⟩⟩
  obtain ⟨v, rfl, rfl, e0, Φ2, R2, k2⟩ := k1 r S' M1 g1
  have R2' : Ret 3 0 0 mM_tieEcho [.inr 24, .inl (M1 0 (i + 1)), .inl (M1 0 (i + 2))] (S0 N) M1 Φ2 := by
    rw [e0, e0]; exact R2
  refine ⟨by omega, ⟨by omega, ⟨3, Φ2, (Nat.le_of_ble_eq_true rfl), R2', fun r' S'' M2 g2 hM2 => ?_⟩⟩⟩
  obtain ⟨rfl, rfl, V2, e2⟩ := k2 r' S'' M2 g2
  exact c_same mo_pLw_tieEcho (pc := 957) rfl rfl rfl (kk M2 V2)
set_option maxRecDepth 100000 in
def pLw_moment : List En := [(962, .aload_n 1, 963, []),
  (963, .aload_n 0, 964, []),
  (964, .iload_n 3, 965, []),
  (965, .iconst 1, 966, []),
  (966, .iadd, 967, []),
  (967, .iaload, 968, []),
  (968, .aload_n 0, 969, []),
  (969, .iload_n 3, 970, []),
  (970, .iconst 2, 971, []),
  (971, .iadd, 972, []),
  (972, .iaload, 973, []),
  (973, .invokevirtual 106, 976, []),
  (976, .aload_n 2, 977, []),
  (977, .aload_n 0, 978, []),
  (978, .iload_n 3, 979, []),
  (979, .iconst 1, 980, []),
  (980, .iadd, 981, []),
  (981, .iaload, 982, []),
  (982, .aload_n 0, 983, []),
  (983, .iload_n 3, 984, []),
  (984, .iconst 2, 985, []),
  (985, .iadd, 986, []),
  (986, .iaload, 987, []),
  (987, .invokevirtual 109, 990, []),
  (990, .if_icmp .eq 87, 993, [(0, 1077)])]
set_option maxRecDepth 100000 in
theorem mo_pLw_moment : MO mL_law 8 false (some .boolean) pLw_moment := ⟨rL_law, rfl, rfl, by decide, rfl, (fun h => by cases h), (by decide +kernel)⟩
set_option maxRecDepth 100000 in
theorem lw_moment (hks : ks ≤ ms) (hV : Inv M) (h0 : 0 ≤ i) (h1 : i + 6 ≤ (N : Int)) (hN : (N : Int) ≤ 3072) (kk : ∀ M', Inv M' → AJ 13 mc ms mL_law Φ mc ks 1077 [some (.inr 0), some (.inr 1), some (.inr 24), some (.inl i)] [] (S0 N) M') : AJ 13 mc ms mL_law Φ mc ks 962 [some (.inr 0), some (.inr 1), some (.inr 24), some (.inl i)] [] (S0 N) M := by
  refine aLw mo_pLw_moment hks [990] 60 (fun hM => ?_)
  obtain ⟨Φ1, R1, k1⟩ := p_moment (N := N) hV (hM 0 (i + 1)) (hM 0 (i + 2))
  refine ⟨by omega, ⟨by omega, ⟨3, Φ1, (Nat.le_of_ble_eq_true rfl), R1, fun r S' M1 g1 hM1 => ?_⟩⟩⟩
  obtain ⟨v, rfl, rfl, e0, Φ2, R2, k2⟩ := k1 r S' M1 g1
  have R2' : Ret 1 0 0 mM_moment [.inr 24, .inl (M1 0 (i + 1)), .inl (M1 0 (i + 2))] (S0 N) M1 Φ2 := by
    rw [e0, e0]; exact R2
  refine ⟨by omega, ⟨by omega, ⟨1, Φ2, (Nat.le_of_ble_eq_true rfl), R2', fun r' S'' M2 g2 hM2 => ?_⟩⟩⟩
  obtain ⟨rfl, rfl, V2, e2⟩ := k2 r' S'' M2 g2
  exact c_same mo_pLw_moment (pc := 990) rfl rfl rfl (kk M2 V2)
set_option maxRecDepth 100000 in
def pLw_sum : List En := [(995, .aload_n 1, 996, []),
  (996, .invokevirtual 110, 999, []),
  (999, .aload_n 2, 1000, []),
  (1000, .invokevirtual 114, 1003, []),
  (1003, .if_icmp .eq 74, 1006, [(0, 1077)])]
set_option maxRecDepth 100000 in
theorem mo_pLw_sum : MO mL_law 8 false (some .boolean) pLw_sum := ⟨rL_law, rfl, rfl, by decide, rfl, (fun h => by cases h), (by decide +kernel)⟩
set_option maxRecDepth 100000 in
theorem lw_sum (hks : ks ≤ ms) (hV : Inv M) (h0 : 0 ≤ i) (h1 : i + 6 ≤ (N : Int)) (hN : (N : Int) ≤ 3072) (kk : ∀ M', Inv M' → AJ 13 mc ms mL_law Φ mc ks 1077 [some (.inr 0), some (.inr 1), some (.inr 24), some (.inl i)] [] (S0 N) M') : AJ 13 mc ms mL_law Φ mc ks 995 [some (.inr 0), some (.inr 1), some (.inr 24), some (.inl i)] [] (S0 N) M := by
  refine aLw mo_pLw_sum hks [1003] 60 (fun hM => ?_)
  obtain ⟨Φ1, R1, k1⟩ := p_sum (N := N) hV 
  refine ⟨6, Φ1, (Nat.le_of_ble_eq_true rfl), R1, fun r S' M1 g1 hM1 => ?_⟩
  obtain ⟨v, rfl, rfl, e0, Φ2, R2, k2⟩ := k1 r S' M1 g1
  have R2' : Ret 11 0 0 mM_sum [.inr 24] (S0 N) M1 Φ2 := by
    exact R2
  refine ⟨11, Φ2, (Nat.le_of_ble_eq_true rfl), R2', fun r' S'' M2 g2 hM2 => ?_⟩
  obtain ⟨rfl, rfl, V2, e2⟩ := k2 r' S'' M2 g2
  exact c_same mo_pLw_sum (pc := 1003) rfl rfl rfl (kk M2 V2)
set_option maxRecDepth 100000 in
def pLw_swap : List En := [(1008, .aload_n 1, 1009, []),
  (1009, .aload_n 0, 1010, []),
  (1010, .iload_n 3, 1011, []),
  (1011, .iconst 1, 1012, []),
  (1012, .iadd, 1013, []),
  (1013, .iaload, 1014, []),
  (1014, .invokevirtual 115, 1017, []),
  (1017, .aload_n 2, 1018, []),
  (1018, .aload_n 0, 1019, []),
  (1019, .iload_n 3, 1020, []),
  (1020, .iconst 1, 1021, []),
  (1021, .iadd, 1022, []),
  (1022, .iaload, 1023, []),
  (1023, .invokevirtual 118, 1026, []),
  (1026, .if_icmp .eq 51, 1029, [(0, 1077)])]
set_option maxRecDepth 100000 in
theorem mo_pLw_swap : MO mL_law 8 false (some .boolean) pLw_swap := ⟨rL_law, rfl, rfl, by decide, rfl, (fun h => by cases h), (by decide +kernel)⟩
set_option maxRecDepth 100000 in
theorem lw_swap (hks : ks ≤ ms) (hV : Inv M) (h0 : 0 ≤ i) (h1 : i + 6 ≤ (N : Int)) (hN : (N : Int) ≤ 3072) (kk : ∀ M', Inv M' → AJ 13 mc ms mL_law Φ mc ks 1077 [some (.inr 0), some (.inr 1), some (.inr 24), some (.inl i)] [] (S0 N) M') : AJ 13 mc ms mL_law Φ mc ks 1008 [some (.inr 0), some (.inr 1), some (.inr 24), some (.inl i)] [] (S0 N) M := by
  refine aLw mo_pLw_swap hks [1026] 60 (fun hM => ?_)
  obtain ⟨Φ1, R1, k1⟩ := p_swap (N := N) hV (hM 0 (i + 1))
  refine ⟨by omega, ⟨7, Φ1, (Nat.le_of_ble_eq_true rfl), R1, fun r S' M1 g1 hM1 => ?_⟩⟩
  obtain ⟨v, rfl, rfl, e0, Φ2, R2, k2⟩ := k1 r S' M1 g1
  have R2' : Ret 12 0 0 mM_swap [.inr 24, .inl (M1 0 (i + 1))] (S0 N) M1 Φ2 := by
    rw [e0]; exact R2
  refine ⟨by omega, ⟨12, Φ2, (Nat.le_of_ble_eq_true rfl), R2', fun r' S'' M2 g2 hM2 => ?_⟩⟩
  obtain ⟨rfl, rfl, V2, e2⟩ := k2 r' S'' M2 g2
  exact c_same mo_pLw_swap (pc := 1026) rfl rfl rfl (kk M2 V2)
set_option maxRecDepth 100000 in
def pLw_help : List En := [(1031, .aload_n 1, 1032, []),
  (1032, .aload_n 0, 1033, []),
  (1033, .iload_n 3, 1034, []),
  (1034, .iconst 1, 1035, []),
  (1035, .iadd, 1036, []),
  (1036, .iaload, 1037, []),
  (1037, .invokevirtual 119, 1040, []),
  (1040, .aload_n 2, 1041, []),
  (1041, .aload_n 0, 1042, []),
  (1042, .iload_n 3, 1043, []),
  (1043, .iconst 1, 1044, []),
  (1044, .iadd, 1045, []),
  (1045, .iaload, 1046, []),
  (1046, .invokevirtual 122, 1049, []),
  (1049, .if_icmp .eq 28, 1052, [(0, 1077)])]
set_option maxRecDepth 100000 in
theorem mo_pLw_help : MO mL_law 8 false (some .boolean) pLw_help := ⟨rL_law, rfl, rfl, by decide, rfl, (fun h => by cases h), (by decide +kernel)⟩
set_option maxRecDepth 100000 in
theorem lw_help (hks : ks ≤ ms) (hV : Inv M) (h0 : 0 ≤ i) (h1 : i + 6 ≤ (N : Int)) (hN : (N : Int) ≤ 3072) (kk : ∀ M', Inv M' → AJ 13 mc ms mL_law Φ mc ks 1077 [some (.inr 0), some (.inr 1), some (.inr 24), some (.inl i)] [] (S0 N) M') : AJ 13 mc ms mL_law Φ mc ks 1031 [some (.inr 0), some (.inr 1), some (.inr 24), some (.inl i)] [] (S0 N) M := by
  refine aLw mo_pLw_help hks [1049] 60 (fun hM => ?_)
  obtain ⟨Φ1, R1, k1⟩ := p_help (N := N) hV (hM 0 (i + 1))
  refine ⟨by omega, ⟨7, Φ1, (Nat.le_of_ble_eq_true rfl), R1, fun r S' M1 g1 hM1 => ?_⟩⟩
  obtain ⟨v, rfl, rfl, e0, Φ2, R2, k2⟩ := k1 r S' M1 g1
  have R2' : Ret 11 0 0 mM_help [.inr 24, .inl (M1 0 (i + 1))] (S0 N) M1 Φ2 := by
    rw [e0]; exact R2
  refine ⟨by omega, ⟨11, Φ2, (Nat.le_of_ble_eq_true rfl), R2', fun r' S'' M2 g2 hM2 => ?_⟩⟩
  obtain ⟨rfl, rfl, V2, e2⟩ := k2 r' S'' M2 g2
  exact c_same mo_pLw_help (pc := 1049) rfl rfl rfl (kk M2 V2)
set_option maxRecDepth 100000 in
def pLw_many : List En := [(1054, .aload_n 1, 1055, []),
  (1055, .aload_n 0, 1056, []),
  (1056, .iload_n 3, 1057, []),
  (1057, .iconst 1, 1058, []),
  (1058, .iadd, 1059, []),
  (1059, .iaload, 1060, []),
  (1060, .invokevirtual 123, 1063, []),
  (1063, .aload_n 2, 1064, []),
  (1064, .aload_n 0, 1065, []),
  (1065, .iload_n 3, 1066, []),
  (1066, .iconst 1, 1067, []),
  (1067, .iadd, 1068, []),
  (1068, .iaload, 1069, []),
  (1069, .invokevirtual 126, 1072, []),
  (1072, .if_icmp .eq 5, 1075, [(0, 1077)])]
set_option maxRecDepth 100000 in
theorem mo_pLw_many : MO mL_law 8 false (some .boolean) pLw_many := ⟨rL_law, rfl, rfl, by decide, rfl, (fun h => by cases h), (by decide +kernel)⟩
set_option maxRecDepth 100000 in
theorem lw_many (hks : ks ≤ ms) (hV : Inv M) (h0 : 0 ≤ i) (h1 : i + 6 ≤ (N : Int)) (hN : (N : Int) ≤ 3072) (kk : ∀ M', Inv M' → AJ 13 mc ms mL_law Φ mc ks 1077 [some (.inr 0), some (.inr 1), some (.inr 24), some (.inl i)] [] (S0 N) M') : AJ 13 mc ms mL_law Φ mc ks 1054 [some (.inr 0), some (.inr 1), some (.inr 24), some (.inl i)] [] (S0 N) M := by
  refine aLw mo_pLw_many hks [1072] 60 (fun hM => ?_)
  obtain ⟨Φ1, R1, k1⟩ := p_many (N := N) hV (hM 0 (i + 1))
  refine ⟨by omega, ⟨4, Φ1, (Nat.le_of_ble_eq_true rfl), R1, fun r S' M1 g1 hM1 => ?_⟩⟩
  obtain ⟨v, rfl, rfl, e0, Φ2, R2, k2⟩ := k1 r S' M1 g1
  have R2' : Ret 2 0 0 mM_many [.inr 24, .inl (M1 0 (i + 1))] (S0 N) M1 Φ2 := by
    rw [e0]; exact R2
  refine ⟨by omega, ⟨2, Φ2, (Nat.le_of_ble_eq_true rfl), R2', fun r' S'' M2 g2 hM2 => ?_⟩⟩
  obtain ⟨rfl, rfl, V2, e2⟩ := k2 r' S'' M2 g2
  exact c_same mo_pLw_many (pc := 1072) rfl rfl rfl (kk M2 V2)
set_option maxRecDepth 100000 in
def pLw_h : List En := [(18, .iload_n 3, 19, []),
  (19, .aload_n 0, 20, []),
  (20, .arraylength, 21, []),
  (21, .bipush 6, 23, []),
  (23, .isub, 24, []),
  (24, .if_icmp .gt 1059, 27, [(0, 1083)]),
  (27, .aload_n 0, 28, []),
  (28, .iload_n 3, 29, []),
  (29, .iaload, 30, []),
  (30, .bipush 31, 32, []),
  (32, .iand, 33, []),
  (33, .tableswitch 1044 0 26 #[123, 166, 209, 272, 315, 348, 371, 414, 447, 510, 533, 566, 609, 662, 685, 708, 731, 784, 807, 830, 853, 896, 929, 962, 975, 998, 1021], 156, [(0, 1077), (0, 156), (1, 199), (2, 242), (3, 305), (4, 348), (5, 381), (6, 404), (7, 447), (8, 480), (9, 543), (10, 566), (11, 599), (12, 642), (13, 695), (14, 718), (15, 741), (16, 764), (17, 817), (18, 840), (19, 863), (20, 886), (21, 929), (22, 962), (23, 995), (24, 1008), (25, 1031), (26, 1054)]),
  (1077, .iinc 3 6, 1080, []),
  (1080, .goto (-1062), 1083, [(0, 18)]),
  (1083, .iconst 1, 1084, []),
  (1084, .ireturn, 1085, [])]
set_option maxRecDepth 100000 in
theorem mo_pLw_h : MO mL_law 8 false (some .boolean) pLw_h := ⟨rL_law, rfl, rfl, by decide, rfl, (fun h => by cases h), (by decide +kernel)⟩
set_option maxRecDepth 100000 in
theorem lw_18 (hks : ks ≤ ms) (hN : (N : Int) ≤ 3072) (hΦ : ∀ M', Φ (some (.inl 1)) (S0 N) M') : ∀ (n : Nat) (i : Int) (M : Mm), 0 ≤ i → (N : Int) - i ≤ n → i ≤ 4000 → Inv M → AJ 13 mc ms mL_law Φ mc ks 18 [some (.inr 0), some (.inr 1), some (.inr 24), some (.inl i)] [] (S0 N) M := by
  intro n
  induction n with
  | zero =>
    intro i M h0 hn hi hV
    refine aLw mo_pLw_h hks [] 30 (fun hM => ?_)
    refine ⟨by omega, ite_i (fun _ => ?_) (fun q => by omega)⟩
    exact ⟨Or.inr rfl, hΦ M⟩
  | succ n ih =>
    intro i M h0 hn hi hV
    by_cases h6 : i + 6 ≤ (N : Int)
    · have kk : ∀ M', Inv M' → AJ 13 mc ms mL_law Φ mc ks 1077 [some (.inr 0), some (.inr 1), some (.inr 24), some (.inl i)] [] (S0 N) M' := fun M' V' => by
        have h3 := ih (i + 6) M' (by omega) (by omega) (by omega) V'
        refine aLw mo_pLw_h hks [18] 30 (fun hM => ?_)
        exact h3
      refine aLw mo_pLw_h hks [1077, 156, 199, 242, 305, 348, 381, 404, 447, 480, 543, 566, 599, 642, 695, 718, 741, 764, 817, 840, 863, 886, 929, 962, 995, 1008, 1031, 1054] 30 (fun hM => ?_)
      refine ⟨by omega, ite_i (fun q => by omega) (fun _ => ?_)⟩
      refine ⟨by omega, R32_andI _ _, fun _ => kk M hV, fun _ => lw_put hks hV h0 h6 hN kk, fun _ => lw_mark hks hV h0 h6 hN kk, fun _ => lw_reach hks hV h0 h6 hN kk, fun _ => lw_reachOf hks hV h0 h6 hN kk, fun _ => lw_price hks hV h0 h6 hN kk, fun _ => lw_clear hks hV h0 h6 hN kk, fun _ => lw_note hks hV h0 h6 hN kk, fun _ => lw_costs hks hV h0 h6 hN kk, fun _ => lw_step hks hV h0 h6 hN kk, fun _ => lw_best hks hV h0 h6 hN kk, fun _ => lw_finger hks hV h0 h6 hN kk, fun _ => lw_would hks hV h0 h6 hN kk, fun _ => lw_tie hks hV h0 h6 hN kk, fun _ => lw_untie hks hV h0 h6 hN kk, fun _ => lw_tied hks hV h0 h6 hN kk, fun _ => lw_stuck hks hV h0 h6 hN kk, fun _ => lw_phrase hks hV h0 h6 hN kk, fun _ => lw_forget hks hV h0 h6 hN kk, fun _ => lw_prune hks hV h0 h6 hN kk, fun _ => lw_name hks hV h0 h6 hN kk, fun _ => lw_echo hks hV h0 h6 hN kk, fun _ => lw_tieEcho hks hV h0 h6 hN kk, fun _ => lw_moment hks hV h0 h6 hN kk, fun _ => lw_sum hks hV h0 h6 hN kk, fun _ => lw_swap hks hV h0 h6 hN kk, fun _ => lw_help hks hV h0 h6 hN kk, fun _ => lw_many hks hV h0 h6 hN kk, trivial⟩
    · refine aLw mo_pLw_h hks [] 30 (fun hM => ?_)
      refine ⟨by omega, ite_i (fun _ => ?_) (fun q => by omega)⟩
      exact ⟨Or.inr rfl, hΦ M⟩
end Lw
