/-! THE LAW -/
theorem exG {L j : Nat} {R : Nat → Prop} (h : j < L) (hL : L < 2 ^ 31) : (∃ k, nI j = nI k ∧ k < L ∧ R k) ↔ R j := by
  constructor
  · rintro ⟨k, h1, h2, h3⟩
    rw [nI_eq (by omega) (by omega)] at h1
    rw [h1]; exact h3
  · intro h3; exact ⟨j, rfl, h, h3⟩
theorem lt6 {a i : Nat} (ha : a < 2 ^ 30) (hi : i < 2 ^ 30) : nI a - nI 6 < nI i ↔ a < i + 6 := by
  rw [Int32.lt_iff_toInt_lt, Int32.toInt_sub, nI_toInt (show a < 2 ^ 31 by omega), nI_toInt (show 6 < 2 ^ 31 by decide), nI_toInt (show i < 2 ^ 31 by omega)]
  unfold Int.bmod
  dsimp only
  split <;> omega
section LAW
variable {d : Nat} {M : aM} {N : aN} {P : aP} {t e nx lim i : Nat} {G : aG} {Q : aQ}
theorem kk0 (hn : 44 ≤ nx) (hX : IX M t e) (hi : i + 5 < G.1) (hL : G.1 < 2 ^ 31) (hW : ∀ M' N' t' e', IX M' t' e' → WP (aSem (d + 13)) G 217 lim Q 1437 [(0, .retAddr 0), (1, .ref 0), (2, .ref 31), (3, .ref 43), (4, .int (nI i))] [] M' N' (P0 t' e') nx) : WP (aSem (d + 13)) G 217 lim Q 188 [(0, .retAddr 0), (1, .ref 0), (2, .ref 31), (3, .ref 43), (4, .int (nI i))] [] M N (P0 t e) nx := by
  simp only [B217_188, nI_add, false_imp_iff, true_imp_iff, not_false_eq_true, not_true_eq_false, true_and, and_true, implies_true, qn_self, rI_i, rJ_l, rV_n, okZ0, okZ1, o0 hn, exG (show i + 1 < G.1 by omega) hL, exG (show i + 2 < G.1 by omega) hL, exG (show i + 3 < G.1 by omega) hL, exG (show i + 4 < G.1 by omega) hL, exG (show i + 5 < G.1 by omega) hL]
  exact o92 hn hX (fun M2 h => hW M2 N t e h)
theorem kk1 (hn : 44 ≤ nx) (hX : IX M t e) (hi : i + 5 < G.1) (hL : G.1 < 2 ^ 31) (hW : ∀ M' N' t' e', IX M' t' e' → WP (aSem (d + 13)) G 217 lim Q 1437 [(0, .retAddr 0), (1, .ref 0), (2, .ref 31), (3, .ref 43), (4, .int (nI i))] [] M' N' (P0 t' e') nx) : WP (aSem (d + 13)) G 217 lim Q 261 [(0, .retAddr 0), (1, .ref 0), (2, .ref 31), (3, .ref 43), (4, .int (nI i))] [] M N (P0 t e) nx := by
  simp only [B217_261, nI_add, false_imp_iff, true_imp_iff, not_false_eq_true, not_true_eq_false, true_and, and_true, implies_true, qn_self, rI_i, rJ_l, rV_n, okZ0, okZ1, o0 hn, exG (show i + 1 < G.1 by omega) hL]
  exact o93 hn hX (fun M2 N2 t2 e2 h => hW M2 N2 t2 e2 h)
theorem kk2 (hn : 44 ≤ nx) (hX : IX M t e) (hi : i + 5 < G.1) (hL : G.1 < 2 ^ 31) (hW : ∀ M' N' t' e', IX M' t' e' → WP (aSem (d + 13)) G 217 lim Q 1437 [(0, .retAddr 0), (1, .ref 0), (2, .ref 31), (3, .ref 43), (4, .int (nI i))] [] M' N' (P0 t' e') nx) : WP (aSem (d + 13)) G 217 lim Q 286 [(0, .retAddr 0), (1, .ref 0), (2, .ref 31), (3, .ref 43), (4, .int (nI i))] [] M N (P0 t e) nx := by
  simp only [B217_286, nI_add, false_imp_iff, true_imp_iff, not_false_eq_true, not_true_eq_false, true_and, and_true, implies_true, qn_self, rI_i, rJ_l, rV_n, okZ0, okZ1, o0 hn, exG (show i + 1 < G.1 by omega) hL, exG (show i + 2 < G.1 by omega) hL]
  exact o94 hn hX (fun M2 h => hW M2 N t e h)
theorem kk3 (hn : 44 ≤ nx) (hX : IX M t e) (hi : i + 5 < G.1) (hL : G.1 < 2 ^ 31) (hW : ∀ M' N' t' e', IX M' t' e' → WP (aSem (d + 13)) G 217 lim Q 1437 [(0, .retAddr 0), (1, .ref 0), (2, .ref 31), (3, .ref 43), (4, .int (nI i))] [] M' N' (P0 t' e') nx) : WP (aSem (d + 13)) G 217 lim Q 323 [(0, .retAddr 0), (1, .ref 0), (2, .ref 31), (3, .ref 43), (4, .int (nI i))] [] M N (P0 t e) nx := by
  simp only [B217_323, nI_add, false_imp_iff, true_imp_iff, not_false_eq_true, not_true_eq_false, true_and, and_true, implies_true, qn_self, rI_i, rJ_l, rV_n, okZ0, okZ1, o0 hn, exG (show i + 1 < G.1 by omega) hL]
  exact o95 hn hX (fun M2 h => hW M2 N t e h)
theorem kk5 (hn : 44 ≤ nx) (hX : IX M t e) (hi : i + 5 < G.1) (hL : G.1 < 2 ^ 31) (hW : ∀ M' N' t' e', IX M' t' e' → WP (aSem (d + 13)) G 217 lim Q 1437 [(0, .retAddr 0), (1, .ref 0), (2, .ref 31), (3, .ref 43), (4, .int (nI i))] [] M' N' (P0 t' e') nx) : WP (aSem (d + 13)) G 217 lim Q 428 [(0, .retAddr 0), (1, .ref 0), (2, .ref 31), (3, .ref 43), (4, .int (nI i))] [] M N (P0 t e) nx := by
  simp only [B217_428, nI_add, false_imp_iff, true_imp_iff, not_false_eq_true, not_true_eq_false, true_and, and_true, implies_true, qn_self, rI_i, rJ_l, rV_n, okZ0, okZ1, o0 hn, exG (show i + 1 < G.1 by omega) hL, exG (show i + 2 < G.1 by omega) hL]
  exact o97 hn hX (fun M2 h => hW M2 N t e h)
theorem kk6 (hn : 44 ≤ nx) (hX : IX M t e) (hi : i + 5 < G.1) (hL : G.1 < 2 ^ 31) (hW : ∀ M' N' t' e', IX M' t' e' → WP (aSem (d + 13)) G 217 lim Q 1437 [(0, .retAddr 0), (1, .ref 0), (2, .ref 31), (3, .ref 43), (4, .int (nI i))] [] M' N' (P0 t' e') nx) : WP (aSem (d + 13)) G 217 lim Q 465 [(0, .retAddr 0), (1, .ref 0), (2, .ref 31), (3, .ref 43), (4, .int (nI i))] [] M N (P0 t e) nx := by
  simp only [B217_465, nI_add, false_imp_iff, true_imp_iff, not_false_eq_true, not_true_eq_false, true_and, and_true, implies_true, qn_self, rI_i, rJ_l, rV_n, okZ0, okZ1, o0 hn, exG (show i + 1 < G.1 by omega) hL]
  exact o98 hn hX (fun M2 h => hW M2 N t e h)
theorem kk7 (hn : 44 ≤ nx) (hX : IX M t e) (hi : i + 5 < G.1) (hL : G.1 < 2 ^ 31) (hW : ∀ M' N' t' e', IX M' t' e' → WP (aSem (d + 13)) G 217 lim Q 1437 [(0, .retAddr 0), (1, .ref 0), (2, .ref 31), (3, .ref 43), (4, .int (nI i))] [] M' N' (P0 t' e') nx) : WP (aSem (d + 13)) G 217 lim Q 490 [(0, .retAddr 0), (1, .ref 0), (2, .ref 31), (3, .ref 43), (4, .int (nI i))] [] M N (P0 t e) nx := by
  simp only [B217_490, nI_add, false_imp_iff, true_imp_iff, not_false_eq_true, not_true_eq_false, true_and, and_true, implies_true, qn_self, rI_i, rJ_l, rV_n, okZ0, okZ1, o0 hn, exG (show i + 1 < G.1 by omega) hL]
  exact o99 hn hX (fun M2 h => hW M2 N t e h)
theorem kk8 (hn : 44 ≤ nx) (hX : IX M t e) (hi : i + 5 < G.1) (hL : G.1 < 2 ^ 31) (hW : ∀ M' N' t' e', IX M' t' e' → WP (aSem (d + 13)) G 217 lim Q 1437 [(0, .retAddr 0), (1, .ref 0), (2, .ref 31), (3, .ref 43), (4, .int (nI i))] [] M' N' (P0 t' e') nx) : WP (aSem (d + 13)) G 217 lim Q 515 [(0, .retAddr 0), (1, .ref 0), (2, .ref 31), (3, .ref 43), (4, .int (nI i))] [] M N (P0 t e) nx := by
  simp only [B217_515, nI_add, false_imp_iff, true_imp_iff, not_false_eq_true, not_true_eq_false, true_and, and_true, implies_true, qn_self, rI_i, rJ_l, rV_n, okZ0, okZ1, o0 hn, exG (show i + 1 < G.1 by omega) hL, exG (show i + 2 < G.1 by omega) hL, exG (show i + 3 < G.1 by omega) hL]
  exact o100 hn hX (fun M2 h => hW M2 N t e h)
theorem kk9 (hn : 44 ≤ nx) (hX : IX M t e) (hi : i + 5 < G.1) (hL : G.1 < 2 ^ 31) (hW : ∀ M' N' t' e', IX M' t' e' → WP (aSem (d + 13)) G 217 lim Q 1437 [(0, .retAddr 0), (1, .ref 0), (2, .ref 31), (3, .ref 43), (4, .int (nI i))] [] M' N' (P0 t' e') nx) : WP (aSem (d + 13)) G 217 lim Q 564 [(0, .retAddr 0), (1, .ref 0), (2, .ref 31), (3, .ref 43), (4, .int (nI i))] [] M N (P0 t e) nx := by
  simp only [B217_564, nI_add, false_imp_iff, true_imp_iff, not_false_eq_true, not_true_eq_false, true_and, and_true, implies_true, qn_self, rI_i, rJ_l, rV_n, okZ0, okZ1, o0 hn, exG (show i + 1 < G.1 by omega) hL, exG (show i + 2 < G.1 by omega) hL, exG (show i + 3 < G.1 by omega) hL]
  exact o101 hn hX (fun M2 h => hW M2 N t e h)
theorem kk10 (hn : 44 ≤ nx) (hX : IX M t e) (hi : i + 5 < G.1) (hL : G.1 < 2 ^ 31) (hW : ∀ M' N' t' e', IX M' t' e' → WP (aSem (d + 13)) G 217 lim Q 1437 [(0, .retAddr 0), (1, .ref 0), (2, .ref 31), (3, .ref 43), (4, .int (nI i))] [] M' N' (P0 t' e') nx) : WP (aSem (d + 13)) G 217 lim Q 613 [(0, .retAddr 0), (1, .ref 0), (2, .ref 31), (3, .ref 43), (4, .int (nI i))] [] M N (P0 t e) nx := by
  simp only [B217_613, nI_add, false_imp_iff, true_imp_iff, not_false_eq_true, not_true_eq_false, true_and, and_true, implies_true, qn_self, rI_i, rJ_l, rV_n, okZ0, okZ1, o0 hn, exG (show i + 1 < G.1 by omega) hL]
  exact o102 hn hX (fun M2 h => hW M2 N t e h)
theorem kk11 (hn : 44 ≤ nx) (hX : IX M t e) (hi : i + 5 < G.1) (hL : G.1 < 2 ^ 31) (hW : ∀ M' N' t' e', IX M' t' e' → WP (aSem (d + 13)) G 217 lim Q 1437 [(0, .retAddr 0), (1, .ref 0), (2, .ref 31), (3, .ref 43), (4, .int (nI i))] [] M' N' (P0 t' e') nx) : WP (aSem (d + 13)) G 217 lim Q 638 [(0, .retAddr 0), (1, .ref 0), (2, .ref 31), (3, .ref 43), (4, .int (nI i))] [] M N (P0 t e) nx := by
  simp only [B217_638, nI_add, false_imp_iff, true_imp_iff, not_false_eq_true, not_true_eq_false, true_and, and_true, implies_true, qn_self, rI_i, rJ_l, rV_n, okZ0, okZ1, o0 hn, exG (show i + 1 < G.1 by omega) hL, exG (show i + 2 < G.1 by omega) hL]
  exact o103 hn hX (fun M2 h => hW M2 N t e h)
theorem kk12 (hn : 44 ≤ nx) (hX : IX M t e) (hi : i + 5 < G.1) (hL : G.1 < 2 ^ 31) (hW : ∀ M' N' t' e', IX M' t' e' → WP (aSem (d + 13)) G 217 lim Q 1437 [(0, .retAddr 0), (1, .ref 0), (2, .ref 31), (3, .ref 43), (4, .int (nI i))] [] M' N' (P0 t' e') nx) : WP (aSem (d + 13)) G 217 lim Q 675 [(0, .retAddr 0), (1, .ref 0), (2, .ref 31), (3, .ref 43), (4, .int (nI i))] [] M N (P0 t e) nx := by
  simp only [B217_675, nI_add, false_imp_iff, true_imp_iff, not_false_eq_true, not_true_eq_false, true_and, and_true, implies_true, qn_self, rI_i, rJ_l, rV_n, okZ0, okZ1, o0 hn, exG (show i + 1 < G.1 by omega) hL, exG (show i + 2 < G.1 by omega) hL, exG (show i + 3 < G.1 by omega) hL]
  exact o105 hn hX (fun M2 h => hW M2 N t e h)
theorem kk13 (hn : 44 ≤ nx) (hX : IX M t e) (hi : i + 5 < G.1) (hL : G.1 < 2 ^ 31) (hW : ∀ M' N' t' e', IX M' t' e' → WP (aSem (d + 13)) G 217 lim Q 1437 [(0, .retAddr 0), (1, .ref 0), (2, .ref 31), (3, .ref 43), (4, .int (nI i))] [] M' N' (P0 t' e') nx) : WP (aSem (d + 13)) G 217 lim Q 724 [(0, .retAddr 0), (1, .ref 0), (2, .ref 31), (3, .ref 43), (4, .int (nI i))] [] M N (P0 t e) nx := by
  simp only [B217_724, nI_add, false_imp_iff, true_imp_iff, not_false_eq_true, not_true_eq_false, true_and, and_true, implies_true, qn_self, rI_i, rJ_l, rV_n, okZ0, okZ1, o0 hn, exG (show i + 1 < G.1 by omega) hL, exG (show i + 2 < G.1 by omega) hL, exG (show i + 3 < G.1 by omega) hL]
  exact o106 hn hX (fun M2 h => hW M2 N t e h)
theorem kk14 (hn : 44 ≤ nx) (hX : IX M t e) (hi : i + 5 < G.1) (hL : G.1 < 2 ^ 31) (hW : ∀ M' N' t' e', IX M' t' e' → WP (aSem (d + 13)) G 217 lim Q 1437 [(0, .retAddr 0), (1, .ref 0), (2, .ref 31), (3, .ref 43), (4, .int (nI i))] [] M' N' (P0 t' e') nx) : WP (aSem (d + 13)) G 217 lim Q 773 [(0, .retAddr 0), (1, .ref 0), (2, .ref 31), (3, .ref 43), (4, .int (nI i))] [] M N (P0 t e) nx := by
  simp only [B217_773, nI_add, false_imp_iff, true_imp_iff, not_false_eq_true, not_true_eq_false, true_and, and_true, implies_true, qn_self, rI_i, rJ_l, rV_n, okZ0, okZ1, o0 hn, exG (show i + 1 < G.1 by omega) hL, exG (show i + 2 < G.1 by omega) hL]
  exact o109 hn hX (fun M2 h => hW M2 N t e h)
theorem kk15 (hn : 44 ≤ nx) (hX : IX M t e) (hi : i + 5 < G.1) (hL : G.1 < 2 ^ 31) (hW : ∀ M' N' t' e', IX M' t' e' → WP (aSem (d + 13)) G 217 lim Q 1437 [(0, .retAddr 0), (1, .ref 0), (2, .ref 31), (3, .ref 43), (4, .int (nI i))] [] M' N' (P0 t' e') nx) : WP (aSem (d + 13)) G 217 lim Q 810 [(0, .retAddr 0), (1, .ref 0), (2, .ref 31), (3, .ref 43), (4, .int (nI i))] [] M N (P0 t e) nx := by
  simp only [B217_810, nI_add, false_imp_iff, true_imp_iff, not_false_eq_true, not_true_eq_false, true_and, and_true, implies_true, qn_self, rI_i, rJ_l, rV_n, okZ0, okZ1, o0 hn, exG (show i + 1 < G.1 by omega) hL, exG (show i + 2 < G.1 by omega) hL]
  exact o110 hn hX (fun M2 h => hW M2 N t e h)
theorem kk16 (hn : 44 ≤ nx) (hX : IX M t e) (hi : i + 5 < G.1) (hL : G.1 < 2 ^ 31) (hW : ∀ M' N' t' e', IX M' t' e' → WP (aSem (d + 13)) G 217 lim Q 1437 [(0, .retAddr 0), (1, .ref 0), (2, .ref 31), (3, .ref 43), (4, .int (nI i))] [] M' N' (P0 t' e') nx) : WP (aSem (d + 13)) G 217 lim Q 847 [(0, .retAddr 0), (1, .ref 0), (2, .ref 31), (3, .ref 43), (4, .int (nI i))] [] M N (P0 t e) nx := by
  simp only [B217_847, nI_add, false_imp_iff, true_imp_iff, not_false_eq_true, not_true_eq_false, true_and, and_true, implies_true, qn_self, rI_i, rJ_l, rV_n, okZ0, okZ1, o0 hn, exG (show i + 1 < G.1 by omega) hL, exG (show i + 2 < G.1 by omega) hL]
  exact o111 hn hX (fun M2 h => hW M2 N t e h)
theorem kk17 (hn : 44 ≤ nx) (hX : IX M t e) (hi : i + 5 < G.1) (hL : G.1 < 2 ^ 31) (hW : ∀ M' N' t' e', IX M' t' e' → WP (aSem (d + 13)) G 217 lim Q 1437 [(0, .retAddr 0), (1, .ref 0), (2, .ref 31), (3, .ref 43), (4, .int (nI i))] [] M' N' (P0 t' e') nx) : WP (aSem (d + 13)) G 217 lim Q 884 [(0, .retAddr 0), (1, .ref 0), (2, .ref 31), (3, .ref 43), (4, .int (nI i))] [] M N (P0 t e) nx := by
  simp only [B217_884, lg_cmp_eq, nI_add, false_imp_iff, true_imp_iff, not_false_eq_true, not_true_eq_false, true_and, and_true, implies_true, qn_self, rI_i, rJ_l, rV_n, okZ0, okZ1, o0 hn, exG (show i + 1 < G.1 by omega) hL]
  exact o113 hn hX (fun M2 h => hW M2 N t e h)
theorem kk18 (hn : 44 ≤ nx) (hX : IX M t e) (hi : i + 5 < G.1) (hL : G.1 < 2 ^ 31) (hW : ∀ M' N' t' e', IX M' t' e' → WP (aSem (d + 13)) G 217 lim Q 1437 [(0, .retAddr 0), (1, .ref 0), (2, .ref 31), (3, .ref 43), (4, .int (nI i))] [] M' N' (P0 t' e') nx) : WP (aSem (d + 13)) G 217 lim Q 910 [(0, .retAddr 0), (1, .ref 0), (2, .ref 31), (3, .ref 43), (4, .int (nI i))] [] M N (P0 t e) nx := by
  simp only [B217_910, nI_add, false_imp_iff, true_imp_iff, not_false_eq_true, not_true_eq_false, true_and, and_true, implies_true, qn_self, rI_i, rJ_l, rV_n, okZ0, okZ1, o0 hn, exG (show i + 1 < G.1 by omega) hL, exG (show i + 2 < G.1 by omega) hL]
  exact o114 hn hX (fun M2 h => hW M2 N t e h)
theorem kk19 (hn : 44 ≤ nx) (hX : IX M t e) (hi : i + 5 < G.1) (hL : G.1 < 2 ^ 31) (hW : ∀ M' N' t' e', IX M' t' e' → WP (aSem (d + 13)) G 217 lim Q 1437 [(0, .retAddr 0), (1, .ref 0), (2, .ref 31), (3, .ref 43), (4, .int (nI i))] [] M' N' (P0 t' e') nx) : WP (aSem (d + 13)) G 217 lim Q 947 [(0, .retAddr 0), (1, .ref 0), (2, .ref 31), (3, .ref 43), (4, .int (nI i))] [] M N (P0 t e) nx := by
  simp only [B217_947, nI_add, false_imp_iff, true_imp_iff, not_false_eq_true, not_true_eq_false, true_and, and_true, implies_true, qn_self, rI_i, rJ_l, rV_n, okZ0, okZ1, o0 hn, exG (show i + 1 < G.1 by omega) hL]
  exact o115 hn hX (fun M2 h => hW M2 N t e h)
theorem kk20 (hn : 44 ≤ nx) (hX : IX M t e) (hi : i + 5 < G.1) (hL : G.1 < 2 ^ 31) (hW : ∀ M' N' t' e', IX M' t' e' → WP (aSem (d + 13)) G 217 lim Q 1437 [(0, .retAddr 0), (1, .ref 0), (2, .ref 31), (3, .ref 43), (4, .int (nI i))] [] M' N' (P0 t' e') nx) : WP (aSem (d + 13)) G 217 lim Q 972 [(0, .retAddr 0), (1, .ref 0), (2, .ref 31), (3, .ref 43), (4, .int (nI i))] [] M N (P0 t e) nx := by
  simp only [B217_972, nI_add, false_imp_iff, true_imp_iff, not_false_eq_true, not_true_eq_false, true_and, and_true, implies_true, qn_self, rI_i, rJ_l, rV_n, okZ0, okZ1, o0 hn]
  exact o116 hn hX (fun M2 h => hW M2 N t e h)
theorem kk21 (hn : 44 ≤ nx) (hX : IX M t e) (hi : i + 5 < G.1) (hL : G.1 < 2 ^ 31) (hW : ∀ M' N' t' e', IX M' t' e' → WP (aSem (d + 13)) G 217 lim Q 1437 [(0, .retAddr 0), (1, .ref 0), (2, .ref 31), (3, .ref 43), (4, .int (nI i))] [] M' N' (P0 t' e') nx) : WP (aSem (d + 13)) G 217 lim Q 985 [(0, .retAddr 0), (1, .ref 0), (2, .ref 31), (3, .ref 43), (4, .int (nI i))] [] M N (P0 t e) nx := by
  simp only [B217_985, nI_add, false_imp_iff, true_imp_iff, not_false_eq_true, not_true_eq_false, true_and, and_true, implies_true, qn_self, rI_i, rJ_l, rV_n, okZ0, okZ1, o0 hn, exG (show i + 1 < G.1 by omega) hL, exG (show i + 2 < G.1 by omega) hL]
  exact o117 hn hX (fun M2 h => hW M2 N t e h)
theorem kk22 (hn : 44 ≤ nx) (hX : IX M t e) (hi : i + 5 < G.1) (hL : G.1 < 2 ^ 31) (hW : ∀ M' N' t' e', IX M' t' e' → WP (aSem (d + 13)) G 217 lim Q 1437 [(0, .retAddr 0), (1, .ref 0), (2, .ref 31), (3, .ref 43), (4, .int (nI i))] [] M' N' (P0 t' e') nx) : WP (aSem (d + 13)) G 217 lim Q 1022 [(0, .retAddr 0), (1, .ref 0), (2, .ref 31), (3, .ref 43), (4, .int (nI i))] [] M N (P0 t e) nx := by
  simp only [B217_1022, nI_add, false_imp_iff, true_imp_iff, not_false_eq_true, not_true_eq_false, true_and, and_true, implies_true, qn_self, rI_i, rJ_l, rV_n, okZ0, okZ1, o0 hn, exG (show i + 1 < G.1 by omega) hL]
  exact o118 hn hX (fun M2 h => hW M2 N t e h)
theorem kk23 (hn : 44 ≤ nx) (hX : IX M t e) (hi : i + 5 < G.1) (hL : G.1 < 2 ^ 31) (hW : ∀ M' N' t' e', IX M' t' e' → WP (aSem (d + 13)) G 217 lim Q 1437 [(0, .retAddr 0), (1, .ref 0), (2, .ref 31), (3, .ref 43), (4, .int (nI i))] [] M' N' (P0 t' e') nx) : WP (aSem (d + 13)) G 217 lim Q 1047 [(0, .retAddr 0), (1, .ref 0), (2, .ref 31), (3, .ref 43), (4, .int (nI i))] [] M N (P0 t e) nx := by
  simp only [B217_1047, nI_add, false_imp_iff, true_imp_iff, not_false_eq_true, not_true_eq_false, true_and, and_true, implies_true, qn_self, rI_i, rJ_l, rV_n, okZ0, okZ1, o0 hn, exG (show i + 1 < G.1 by omega) hL, exG (show i + 2 < G.1 by omega) hL]
  exact o119 hn hX (fun M2 h => hW M2 N t e h)
theorem kk24 (hn : 44 ≤ nx) (hX : IX M t e) (hi : i + 5 < G.1) (hL : G.1 < 2 ^ 31) (hW : ∀ M' N' t' e', IX M' t' e' → WP (aSem (d + 13)) G 217 lim Q 1437 [(0, .retAddr 0), (1, .ref 0), (2, .ref 31), (3, .ref 43), (4, .int (nI i))] [] M' N' (P0 t' e') nx) : WP (aSem (d + 13)) G 217 lim Q 1084 [(0, .retAddr 0), (1, .ref 0), (2, .ref 31), (3, .ref 43), (4, .int (nI i))] [] M N (P0 t e) nx := by
  simp only [B217_1084, nI_add, false_imp_iff, true_imp_iff, not_false_eq_true, not_true_eq_false, true_and, and_true, implies_true, qn_self, rI_i, rJ_l, rV_n, okZ0, okZ1, o0 hn, exG (show i + 1 < G.1 by omega) hL, exG (show i + 2 < G.1 by omega) hL]
  exact o120 hn hX (fun M2 h => hW M2 N t e h)
theorem kk26 (hn : 44 ≤ nx) (hX : IX M t e) (hi : i + 5 < G.1) (hL : G.1 < 2 ^ 31) (hW : ∀ M' N' t' e', IX M' t' e' → WP (aSem (d + 13)) G 217 lim Q 1437 [(0, .retAddr 0), (1, .ref 0), (2, .ref 31), (3, .ref 43), (4, .int (nI i))] [] M' N' (P0 t' e') nx) : WP (aSem (d + 13)) G 217 lim Q 1198 [(0, .retAddr 0), (1, .ref 0), (2, .ref 31), (3, .ref 43), (4, .int (nI i))] [] M N (P0 t e) nx := by
  simp only [B217_1198, nI_add, false_imp_iff, true_imp_iff, not_false_eq_true, not_true_eq_false, true_and, and_true, implies_true, qn_self, rI_i, rJ_l, rV_n, okZ0, okZ1, o0 hn, exG (show i + 1 < G.1 by omega) hL, exG (show i + 2 < G.1 by omega) hL, exG (show i + 3 < G.1 by omega) hL]
  exact o122 hn hX (fun M2 h => hW M2 N t e h)
theorem kk27 (hn : 44 ≤ nx) (hX : IX M t e) (hi : i + 5 < G.1) (hL : G.1 < 2 ^ 31) (hW : ∀ M' N' t' e', IX M' t' e' → WP (aSem (d + 13)) G 217 lim Q 1437 [(0, .retAddr 0), (1, .ref 0), (2, .ref 31), (3, .ref 43), (4, .int (nI i))] [] M' N' (P0 t' e') nx) : WP (aSem (d + 13)) G 217 lim Q 1247 [(0, .retAddr 0), (1, .ref 0), (2, .ref 31), (3, .ref 43), (4, .int (nI i))] [] M N (P0 t e) nx := by
  simp only [B217_1247, nI_add, false_imp_iff, true_imp_iff, not_false_eq_true, not_true_eq_false, true_and, and_true, implies_true, qn_self, rI_i, rJ_l, rV_n, okZ0, okZ1, o0 hn, exG (show i + 1 < G.1 by omega) hL, exG (show i + 2 < G.1 by omega) hL]
  exact o123 hn hX (fun M2 h => hW M2 N t e h)
theorem kk28 (hn : 44 ≤ nx) (hX : IX M t e) (hi : i + 5 < G.1) (hL : G.1 < 2 ^ 31) (hW : ∀ M' N' t' e', IX M' t' e' → WP (aSem (d + 13)) G 217 lim Q 1437 [(0, .retAddr 0), (1, .ref 0), (2, .ref 31), (3, .ref 43), (4, .int (nI i))] [] M' N' (P0 t' e') nx) : WP (aSem (d + 13)) G 217 lim Q 1284 [(0, .retAddr 0), (1, .ref 0), (2, .ref 31), (3, .ref 43), (4, .int (nI i))] [] M N (P0 t e) nx := by
  simp only [B217_1284, nI_add, false_imp_iff, true_imp_iff, not_false_eq_true, not_true_eq_false, true_and, and_true, implies_true, qn_self, rI_i, rJ_l, rV_n, okZ0, okZ1, o0 hn, exG (show i + 1 < G.1 by omega) hL]
  exact o124 hn hX (fun M2 h => hW M2 N t e h)
theorem kk29 (hn : 44 ≤ nx) (hX : IX M t e) (hi : i + 5 < G.1) (hL : G.1 < 2 ^ 31) (hW : ∀ M' N' t' e', IX M' t' e' → WP (aSem (d + 13)) G 217 lim Q 1437 [(0, .retAddr 0), (1, .ref 0), (2, .ref 31), (3, .ref 43), (4, .int (nI i))] [] M' N' (P0 t' e') nx) : WP (aSem (d + 13)) G 217 lim Q 1309 [(0, .retAddr 0), (1, .ref 0), (2, .ref 31), (3, .ref 43), (4, .int (nI i))] [] M N (P0 t e) nx := by
  simp only [B217_1309, nI_add, false_imp_iff, true_imp_iff, not_false_eq_true, not_true_eq_false, true_and, and_true, implies_true, qn_self, rI_i, rJ_l, rV_n, okZ0, okZ1, o0 hn, exG (show i + 1 < G.1 by omega) hL, exG (show i + 2 < G.1 by omega) hL]
  exact o125 hn hX (fun M2 h => hW M2 N t e h)
theorem kk30 (hn : 44 ≤ nx) (hX : IX M t e) (hi : i + 5 < G.1) (hL : G.1 < 2 ^ 31) (hW : ∀ M' N' t' e', IX M' t' e' → WP (aSem (d + 13)) G 217 lim Q 1437 [(0, .retAddr 0), (1, .ref 0), (2, .ref 31), (3, .ref 43), (4, .int (nI i))] [] M' N' (P0 t' e') nx) : WP (aSem (d + 13)) G 217 lim Q 1346 [(0, .retAddr 0), (1, .ref 0), (2, .ref 31), (3, .ref 43), (4, .int (nI i))] [] M N (P0 t e) nx := by
  simp only [B217_1346, nI_add, false_imp_iff, true_imp_iff, not_false_eq_true, not_true_eq_false, true_and, and_true, implies_true, qn_self, rI_i, rJ_l, rV_n, okZ0, okZ1, o0 hn]
  exact o126 hn hX (fun M2 h => hW M2 N t e h)
theorem kk32 (hn : 44 ≤ nx) (hX : IX M t e) (hi : i + 5 < G.1) (hL : G.1 < 2 ^ 31) (hW : ∀ M' N' t' e', IX M' t' e' → WP (aSem (d + 13)) G 217 lim Q 1437 [(0, .retAddr 0), (1, .ref 0), (2, .ref 31), (3, .ref 43), (4, .int (nI i))] [] M' N' (P0 t' e') nx) : WP (aSem (d + 13)) G 217 lim Q 1412 [(0, .retAddr 0), (1, .ref 0), (2, .ref 31), (3, .ref 43), (4, .int (nI i))] [] M N (P0 t e) nx := by
  simp only [B217_1412, nI_add, false_imp_iff, true_imp_iff, not_false_eq_true, not_true_eq_false, true_and, and_true, implies_true, qn_self, rI_i, rJ_l, rV_n, okZ0, okZ1, o0 hn, exG (show i + 1 < G.1 by omega) hL]
  exact o128 hn hX (fun M2 h => hW M2 N t e h)
theorem kk4 (hn : 44 ≤ nx) (hlim : nx + 1 ≤ lim) (hX : IX M t e) (hi : i + 5 < G.1) (hL : G.1 < 2 ^ 31) (hW : ∀ M' N' t' e', IX M' t' e' → WP (aSem (d + 13)) G 217 lim Q 1437 [(0, .retAddr 0), (1, .ref 0), (2, .ref 31), (3, .ref 43), (4, .int (nI i))] [] M' N' (P0 t' e') (nx + 1)) : WP (aSem (d + 13)) G 217 lim Q 348 [(0, .retAddr 0), (1, .ref 0), (2, .ref 31), (3, .ref 43), (4, .int (nI i))] [] M N (P0 t e) nx := by
  simp only [B217_348, nI_add, false_imp_iff, true_imp_iff, not_false_eq_true, not_true_eq_false, true_and, and_true, implies_true, qn_self, rI_i, rJ_l, rV_n, okZ0, okZ1, hlim, exG (show i + 1 < G.1 by omega) hL, exG (show i + 2 < G.1 by omega) hL, exG (show i + 3 < G.1 by omega) hL]
  have hX' := hX
  obtain ⟨ln, is, fc, dn, u, tp, row, nd, hs, ks, kp, B, hI, hJ, hF⟩ := hX'
  have hn1 : 44 ≤ nx + 1 := by omega
  refine A216 hn ?_
  by_cases hv : (vl (G.2 (i + 1)) ln ∧ vl (G.2 (i + 2)) is) ∧ vl (G.2 (i + 3)) 3
  · obtain ⟨l, hl, e1⟩ := vl_of hv.1.1
    obtain ⟨j, hj, e2⟩ := vl_of hv.1.2
    obtain ⟨k, hk, e3⟩ := vl_of hv.2
    rw [e1, e2, e3]
    refine (s96 hn hI.1 hl hj hk).mpr ?_
    simp only [false_imp_iff, true_imp_iff, not_false_eq_true, not_true_eq_false, true_and, and_true, implies_true, qn_self, rI_i, rJ_l, rV_n, okZ0, okZ1, o31 hn1]
    refine s167 hn1 hJ.1 hl hj hk (fun M2 he2 h0 => ?_)
    simp only [false_imp_iff, true_imp_iff, not_false_eq_true, not_true_eq_false, true_and, and_true, implies_true, qn_self, rI_i, rJ_l, rV_n, okZ0, okZ1, o31 hn1, s130 hn1, h0, eq_true nI_0, B217_408, B217_413, x43 hn1 (show 0 < 1 by decide), uN_k, lg_cmp_eq, B217_425]
    exact hW M2 _ t e ⟨ln, is, fc, dn, u, tp, row, nd, hs, ks, kp, B, hI.lo (fun a ha => he2.1 a (by omega) (by omega)), hJ.m he2, hF⟩
  · refine (s96n hn hI.1 hv).mpr ?_
    simp only [false_imp_iff, true_imp_iff, not_false_eq_true, not_true_eq_false, true_and, and_true, implies_true, qn_self, rI_i, rJ_l, rV_n, okZ0, okZ1, o31 hn1]
    refine s167n hn1 hJ.1 hv (fun M2 he2 h0 => ?_)
    have i1 : (nI 1 = (1 : Int32)) := nI1
    have i2 : ¬ (1 : Int32) = 0 := by decide
    simp only [false_imp_iff, true_imp_iff, not_false_eq_true, not_true_eq_false, true_and, and_true, implies_true, qn_self, rI_i, rJ_l, rV_n, okZ0, okZ1, o31 hn1, s130 hn1, h0, i1, B217_408, i2, B217_425]
    exact hW M2 _ t e ⟨ln, is, fc, dn, u, tp, row, nd, hs, ks, kp, B, hI.lo (fun a ha => he2.1 a (by omega) (by omega)), hJ.m he2, hF⟩
theorem kk25 (hn : 44 ≤ nx) (hX : IX M t e) (hi : i + 5 < G.1) (hL : G.1 < 2 ^ 31) (hW : ∀ M' N' t' e', IX M' t' e' → WP (aSem (d + 13)) G 217 lim Q 1437 [(0, .retAddr 0), (1, .ref 0), (2, .ref 31), (3, .ref 43), (4, .int (nI i))] [] M' N' (P0 t' e') nx) : WP (aSem (d + 13)) G 217 lim Q 1121 [(0, .retAddr 0), (1, .ref 0), (2, .ref 31), (3, .ref 43), (4, .int (nI i))] [] M N (P0 t e) nx := by
  simp only [B217_1121, nI_add, false_imp_iff, true_imp_iff, not_false_eq_true, not_true_eq_false, true_and, and_true, implies_true, qn_self, rI_i, rJ_l, rV_n, okZ0, okZ1, exG (show i + 1 < G.1 by omega) hL, exG (show i + 2 < G.1 by omega) hL, exG (show i + 3 < G.1 by omega) hL, exG (show i + 4 < G.1 by omega) hL]
  refine ⟨fun z => ?_, fun z => ?_⟩
  · simp only [B217_1153, B217_1154, nI_add, false_imp_iff, true_imp_iff, not_false_eq_true, not_true_eq_false, true_and, and_true, implies_true, qn_self, rI_i, rJ_l, rV_n, okZ0, okZ1, o0 hn, exG (show i + 1 < G.1 by omega) hL, exG (show i + 2 < G.1 by omega) hL, exG (show i + 3 < G.1 by omega) hL, exG (show i + 4 < G.1 by omega) hL, z, B217_1189, B217_1190]
    exact o121 hn hX (Or.inl rfl) (fun M2 h => hW M2 N t e h)
  · simp only [B217_1149, B217_1154, nI_add, false_imp_iff, true_imp_iff, not_false_eq_true, not_true_eq_false, true_and, and_true, implies_true, qn_self, rI_i, rJ_l, rV_n, okZ0, okZ1, o0 hn, exG (show i + 1 < G.1 by omega) hL, exG (show i + 2 < G.1 by omega) hL, exG (show i + 3 < G.1 by omega) hL, exG (show i + 4 < G.1 by omega) hL, z, B217_1185, B217_1190]
    exact o121 hn hX (Or.inr rfl) (fun M2 h => hW M2 N t e h)
theorem kk31 (hn : 44 ≤ nx) (hX : IX M t e) (hi : i + 5 < G.1) (hL : G.1 < 2 ^ 31) (hW : ∀ M' N' t' e', IX M' t' e' → WP (aSem (d + 13)) G 217 lim Q 1437 [(0, .retAddr 0), (1, .ref 0), (2, .ref 31), (3, .ref 43), (4, .int (nI i))] [] M' N' (P0 t' e') nx) : WP (aSem (d + 13)) G 217 lim Q 1359 [(0, .retAddr 0), (1, .ref 0), (2, .ref 31), (3, .ref 43), (4, .int (nI i))] [] M N (P0 t e) nx := by
  simp only [B217_1359, nI_add, false_imp_iff, true_imp_iff, not_false_eq_true, not_true_eq_false, true_and, and_true, implies_true, qn_self, rI_i, rJ_l, rV_n, okZ0, okZ1, exG (show i + 1 < G.1 by omega) hL, exG (show i + 2 < G.1 by omega) hL]
  refine ⟨fun z => ?_, fun z => ?_⟩
  · simp only [B217_1379, B217_1380, nI_add, false_imp_iff, true_imp_iff, not_false_eq_true, not_true_eq_false, true_and, and_true, implies_true, qn_self, rI_i, rJ_l, rV_n, okZ0, okZ1, o0 hn, exG (show i + 1 < G.1 by omega) hL, exG (show i + 2 < G.1 by omega) hL, z, B217_1403, B217_1404]
    exact o127 hn hX (Or.inl rfl) (fun M2 h => hW M2 N t e h)
  · simp only [B217_1375, B217_1380, nI_add, false_imp_iff, true_imp_iff, not_false_eq_true, not_true_eq_false, true_and, and_true, implies_true, qn_self, rI_i, rJ_l, rV_n, okZ0, okZ1, o0 hn, exG (show i + 1 < G.1 by omega) hL, exG (show i + 2 < G.1 by omega) hL, z, B217_1399, B217_1404]
    exact o127 hn hX (Or.inr rfl) (fun M2 h => hW M2 N t e h)
theorem l217 (hL : G.1 < 2 ^ 30) (hQ : ∀ M N P nx, nx ≤ lim → Q (some (.int (nI 1))) M N P nx) : ∀ m i t e M N nx, G.1 < i + 6 * m → i < 2 ^ 30 → 44 ≤ nx → nx + m ≤ lim → IX M t e → WP (aSem (d + 13)) G 217 lim Q 23 [(0, .retAddr 0), (1, .ref 0), (2, .ref 31), (3, .ref 43), (4, .int (nI i))] [] M N (P0 t e) nx := by
  intro m
  induction m with
  | zero =>
    intro i t e M N nx h1 hi hn hlim hX
    simp only [B217_23, lt6 hL hi]
    refine ⟨fun z => ?_, fun z => by omega⟩
    simp only [B217_1443, false_imp_iff, true_imp_iff, not_false_eq_true, not_true_eq_false, true_and, and_true, implies_true, qn_self, rI_i, rJ_l, rV_n, okZ0, okZ1, okZ1]
    exact hQ _ _ _ _ (by omega)
  | succ m ih =>
    intro i t e M N nx h1 hi hn hlim hX
    simp only [B217_23, lt6 hL hi]
    refine ⟨fun z => ?_, fun z => ?_⟩
    · simp only [B217_1443, false_imp_iff, true_imp_iff, not_false_eq_true, not_true_eq_false, true_and, and_true, implies_true, qn_self, rI_i, rJ_l, rV_n, okZ0, okZ1, okZ1]
      exact hQ _ _ _ _ (by omega)
    · have hi5 : i + 5 < G.1 := by omega
      have hL1 : G.1 < 2 ^ 31 := by omega
      have nxt : ∀ nx', nx' = nx ∨ nx' = nx + 1 → ∀ M' N' t' e', IX M' t' e' → WP (aSem (d + 13)) G 217 lim Q 1437 [(0, .retAddr 0), (1, .ref 0), (2, .ref 31), (3, .ref 43), (4, .int (nI i))] [] M' N' (P0 t' e') nx' := by
        intro nx' hx M' N' t' e' h
        simp only [B217_1437, nI_add]
        exact ih (i + 6) t' e' M' N' nx' (by omega) (by omega) (by omega) (by omega) h
      have n0 := nxt nx (Or.inl rfl)
      have n1 := nxt (nx + 1) (Or.inr rfl)
      simp only [B217_33, exG (show i < G.1 by omega) hL1]
      exact ⟨fun _ => kk0 hn hX hi5 hL1 n0, fun _ => ⟨fun _ => kk1 hn hX hi5 hL1 n0, fun _ => ⟨fun _ => kk2 hn hX hi5 hL1 n0, fun _ => ⟨fun _ => kk3 hn hX hi5 hL1 n0, fun _ => ⟨fun _ => kk4 hn (by omega) hX hi5 hL1 n1, fun _ => ⟨fun _ => kk5 hn hX hi5 hL1 n0, fun _ => ⟨fun _ => kk6 hn hX hi5 hL1 n0, fun _ => ⟨fun _ => kk7 hn hX hi5 hL1 n0, fun _ => ⟨fun _ => kk8 hn hX hi5 hL1 n0, fun _ => ⟨fun _ => kk9 hn hX hi5 hL1 n0, fun _ => ⟨fun _ => kk10 hn hX hi5 hL1 n0, fun _ => ⟨fun _ => kk11 hn hX hi5 hL1 n0, fun _ => ⟨fun _ => kk12 hn hX hi5 hL1 n0, fun _ => ⟨fun _ => kk13 hn hX hi5 hL1 n0, fun _ => ⟨fun _ => kk14 hn hX hi5 hL1 n0, fun _ => ⟨fun _ => kk15 hn hX hi5 hL1 n0, fun _ => ⟨fun _ => kk16 hn hX hi5 hL1 n0, fun _ => ⟨fun _ => kk17 hn hX hi5 hL1 n0, fun _ => ⟨fun _ => kk18 hn hX hi5 hL1 n0, fun _ => ⟨fun _ => kk19 hn hX hi5 hL1 n0, fun _ => ⟨fun _ => kk20 hn hX hi5 hL1 n0, fun _ => ⟨fun _ => kk21 hn hX hi5 hL1 n0, fun _ => ⟨fun _ => kk22 hn hX hi5 hL1 n0, fun _ => ⟨fun _ => kk23 hn hX hi5 hL1 n0, fun _ => ⟨fun _ => kk24 hn hX hi5 hL1 n0, fun _ => ⟨fun _ => kk25 hn hX hi5 hL1 n0, fun _ => ⟨fun _ => kk26 hn hX hi5 hL1 n0, fun _ => ⟨fun _ => kk27 hn hX hi5 hL1 n0, fun _ => ⟨fun _ => kk28 hn hX hi5 hL1 n0, fun _ => ⟨fun _ => kk29 hn hX hi5 hL1 n0, fun _ => ⟨fun _ => kk30 hn hX hi5 hL1 n0, fun _ => ⟨fun _ => kk31 hn hX hi5 hL1 n0, fun _ => ⟨fun _ => kk32 hn hX hi5 hL1 n0, fun _ => n0 M N t e hX⟩⟩⟩⟩⟩⟩⟩⟩⟩⟩⟩⟩⟩⟩⟩⟩⟩⟩⟩⟩⟩⟩⟩⟩⟩⟩⟩⟩⟩⟩⟩⟩⟩
end LAW
