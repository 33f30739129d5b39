/-! THE CALLS side by side -/
theorem feV_ex {row : Nat → Nat} {need is ln fc : Nat} : ∃ v, feV row need is ln fc v := by
  by_cases h0 : stA row need is ln
  · exact ⟨_, Or.inl ⟨h0, rfl⟩⟩
  · by_cases h1 : c1 row need is ln fc 0
    · exact ⟨_, Or.inr (Or.inl ⟨h0, h1, rfl⟩)⟩
    · by_cases h2 : c2 row need is ln fc
      · exact ⟨_, Or.inr (Or.inr (Or.inl ⟨h0, h1, h2, rfl⟩))⟩
      · exact ⟨_, Or.inr (Or.inr (Or.inr ⟨h0, h1, h2, rfl⟩))⟩
theorem feV_un {row : Nat → Nat} {need is ln fc : Nat} {v w : Int32} (h : feV row need is ln fc v) (h' : feV row need is ln fc w) : v = w := by
  rcases h with ⟨a, e⟩ | ⟨a, b, e⟩ | ⟨a, b, c, e⟩ | ⟨a, b, c, e⟩ <;> rcases h' with ⟨a', e'⟩ | ⟨a', b', e'⟩ | ⟨a', b', c', e'⟩ | ⟨a', b', c', e'⟩ <;> first | contradiction | exact e.trans e'.symm
section CAS
variable {d : Nat} {M : aM} {N : aN} {P : aP} {t e nx : Nat} {W X : aM → aN → aP → Nat → Prop}
theorem o94 (hn : 44 ≤ nx) (hX : IX M t e) {x y : Int32} (hW : ∀ M', IX M' t e → W M' N (P0 t e) nx) : aSem (d + 13) 94 [.ref 0, .int x, .int y] M N (P0 t e) nx (rI fun r1 M2 N2 P2 nx2 => okO nx2 31 7 ∧ aSem (d + 13) 163 [.ref 31, .int x, .int y] M2 N2 P2 nx2 (rI fun r M3 N3 P3 nx3 => (r1 = r → W M3 N3 P3 nx3) ∧ (¬ r1 = r → X M3 N3 P3 nx3))) := by
  obtain ⟨ln, is, fc, dn, u, tp, row, nd, hs, ks, kp, B, hI, hJ, hF⟩ := hX
  have c6 := hI.1.2.2.2.1
  unfold wfC at c6
  by_cases hx : vl x ln
  · obtain ⟨l, hl, rfl⟩ := vl_of hx
    exact qq hn hI hJ hF (fun Q h => (s94 hn hI.1 hl).mpr (h M eqQ.rf)) (fun M1 Q hj h => s163 hn hj.1 hl h) hW
  · exact qq hn hI hJ hF (fun Q h => (s94n hn hI.1 hx).mpr (h M eqQ.rf)) (fun M1 Q hj h => s163n hn hj.1 hx h) hW
theorem o95 (hn : 44 ≤ nx) (hX : IX M t e) {x : Int32} (hW : ∀ M', IX M' t e → W M' N (P0 t e) nx) : aSem (d + 13) 95 [.ref 0, .int x] M N (P0 t e) nx (rI fun r1 M2 N2 P2 nx2 => okO nx2 31 7 ∧ aSem (d + 13) 164 [.ref 31, .int x] M2 N2 P2 nx2 (rI fun r M3 N3 P3 nx3 => (r1 = r → W M3 N3 P3 nx3) ∧ (¬ r1 = r → X M3 N3 P3 nx3))) := by
  obtain ⟨ln, is, fc, dn, u, tp, row, nd, hs, ks, kp, B, hI, hJ, hF⟩ := hX
  have c6 := hI.1.2.2.2.1
  unfold wfC at c6
  exact qq hn hI hJ hF (fun Q h => (s95 hn hI.1).mpr (h M eqQ.rf)) (fun M1 Q hj h => s164 hn hj.1 h) hW
theorem o97 (hn : 44 ≤ nx) (hX : IX M t e) {x y : Int32} (hW : ∀ M', IX M' t e → W M' N (P0 t e) nx) : aSem (d + 13) 97 [.ref 0, .int x, .int y] M N (P0 t e) nx (rI fun r1 M2 N2 P2 nx2 => okO nx2 31 7 ∧ aSem (d + 13) 168 [.ref 31, .int x, .int y] M2 N2 P2 nx2 (rI fun r M3 N3 P3 nx3 => (r1 = r → W M3 N3 P3 nx3) ∧ (¬ r1 = r → X M3 N3 P3 nx3))) := by
  obtain ⟨ln, is, fc, dn, u, tp, row, nd, hs, ks, kp, B, hI, hJ, hF⟩ := hX
  have c6 := hI.1.2.2.2.1
  unfold wfC at c6
  exact qq hn hI hJ hF (fun Q h => (s97 hn hI.1).mpr (h M eqQ.rf)) (fun M1 Q hj h => s168 hn hj.1 h) hW
theorem o98 (hn : 44 ≤ nx) (hX : IX M t e) {x : Int32} (hW : ∀ M', IX M' t e → W M' N (P0 t e) nx) : aSem (d + 13) 98 [.ref 0, .int x] M N (P0 t e) nx (rI fun r1 M2 N2 P2 nx2 => okO nx2 31 7 ∧ aSem (d + 13) 169 [.ref 31, .int x] M2 N2 P2 nx2 (rI fun r M3 N3 P3 nx3 => (r1 = r → W M3 N3 P3 nx3) ∧ (¬ r1 = r → X M3 N3 P3 nx3))) := by
  obtain ⟨ln, is, fc, dn, u, tp, row, nd, hs, ks, kp, B, hI, hJ, hF⟩ := hX
  have c6 := hI.1.2.2.2.1
  unfold wfC at c6
  exact qq hn hI hJ hF (fun Q h => (s98 hn hI.1).mpr (h M eqQ.rf)) (fun M1 Q hj h => s169 hn hj.1 h) hW
theorem o99 (hn : 44 ≤ nx) (hX : IX M t e) {x : Int32} (hW : ∀ M', IX M' t e → W M' N (P0 t e) nx) : aSem (d + 13) 99 [.ref 0, .int x] M N (P0 t e) nx (rI fun r1 M2 N2 P2 nx2 => okO nx2 31 7 ∧ aSem (d + 13) 170 [.ref 31, .int x] M2 N2 P2 nx2 (rI fun r M3 N3 P3 nx3 => (r1 = r → W M3 N3 P3 nx3) ∧ (¬ r1 = r → X M3 N3 P3 nx3))) := by
  obtain ⟨ln, is, fc, dn, u, tp, row, nd, hs, ks, kp, B, hI, hJ, hF⟩ := hX
  have c6 := hI.1.2.2.2.1
  unfold wfC at c6
  exact qq hn hI hJ hF (fun Q h => (s99 hn hI.1).mpr (h M eqQ.rf)) (fun M1 Q hj h => s170 hn hj.1 h) hW
theorem o100 (hn : 44 ≤ nx) (hX : IX M t e) {x y z : Int32} (hW : ∀ M', IX M' t e → W M' N (P0 t e) nx) : aSem (d + 13) 100 [.ref 0, .int x, .int y, .int z] M N (P0 t e) nx (rI fun r1 M2 N2 P2 nx2 => okO nx2 31 7 ∧ aSem (d + 13) 174 [.ref 31, .int x, .int y, .int z] M2 N2 P2 nx2 (rI fun r M3 N3 P3 nx3 => (r1 = r → W M3 N3 P3 nx3) ∧ (¬ r1 = r → X M3 N3 P3 nx3))) := by
  obtain ⟨ln, is, fc, dn, u, tp, row, nd, hs, ks, kp, B, hI, hJ, hF⟩ := hX
  have c6 := hI.1.2.2.2.1
  unfold wfC at c6
  by_cases hx : vl x ln ∧ vl y is
  · obtain ⟨l, hl, rfl⟩ := vl_of hx.1
    obtain ⟨i, hi, rfl⟩ := vl_of hx.2
    exact qq hn hI hJ hF (fun Q h => s100 hn hI.1 hl hi h) (fun M1 Q hj h => s174 hn hj.1 hl hi h) hW
  · exact qq hn hI hJ hF (fun Q h => (s100n hn hI.1 hx).mpr (h M eqQ.rf)) (fun M1 Q hj h => s174n hn hj.1 hx h) hW
theorem o101 (hn : 44 ≤ nx) (hX : IX M t e) {x y z : Int32} (hW : ∀ M', IX M' t e → W M' N (P0 t e) nx) : aSem (d + 13) 101 [.ref 0, .int x, .int y, .int z] M N (P0 t e) nx (rI fun r1 M2 N2 P2 nx2 => okO nx2 31 7 ∧ aSem (d + 13) 175 [.ref 31, .int x, .int y, .int z] M2 N2 P2 nx2 (rI fun r M3 N3 P3 nx3 => (r1 = r → W M3 N3 P3 nx3) ∧ (¬ r1 = r → X M3 N3 P3 nx3))) := by
  obtain ⟨ln, is, fc, dn, u, tp, row, nd, hs, ks, kp, B, hI, hJ, hF⟩ := hX
  have c6 := hI.1.2.2.2.1
  unfold wfC at c6
  by_cases hx : vl x ln ∧ vl y is
  · obtain ⟨l, hl, rfl⟩ := vl_of hx.1
    obtain ⟨i, hi, rfl⟩ := vl_of hx.2
    exact qq hn hI hJ hF (fun Q h => s101 hn hI.1 hl hi h) (fun M1 Q hj h => s175 hn hj.1 hl hi h) hW
  · exact qq hn hI hJ hF (fun Q h => (s101n hn hI.1 hx).mpr (h M eqQ.rf)) (fun M1 Q hj h => s175n hn hj.1 hx h) hW
theorem o102 (hn : 44 ≤ nx) (hX : IX M t e) {x : Int32} (hW : ∀ M', IX M' t e → W M' N (P0 t e) nx) : aSem (d + 13) 102 [.ref 0, .int x] M N (P0 t e) nx (rI fun r1 M2 N2 P2 nx2 => okO nx2 31 7 ∧ aSem (d + 13) 176 [.ref 31, .int x] M2 N2 P2 nx2 (rI fun r M3 N3 P3 nx3 => (r1 = r → W M3 N3 P3 nx3) ∧ (¬ r1 = r → X M3 N3 P3 nx3))) := by
  obtain ⟨ln, is, fc, dn, u, tp, row, nd, hs, ks, kp, B, hI, hJ, hF⟩ := hX
  have c6 := hI.1.2.2.2.1
  unfold wfC at c6
  by_cases hx : vl x is
  · obtain ⟨i, hi, rfl⟩ := vl_of hx
    exact qq hn hI hJ hF (fun Q h => s102 hn hI.1 hi h) (fun M1 Q hj h => s176 hn hj.1 hi h) hW
  · exact qq hn hI hJ hF (fun Q h => (s102n hn hI.1 hx).mpr (h M eqQ.rf)) (fun M1 Q hj h => s176n hn hj.1 hx h) hW
theorem o103 (hn : 44 ≤ nx) (hX : IX M t e) {x y : Int32} (hW : ∀ M', IX M' t e → W M' N (P0 t e) nx) : aSem (d + 13) 103 [.ref 0, .int x, .int y] M N (P0 t e) nx (rI fun r1 M2 N2 P2 nx2 => okO nx2 31 7 ∧ aSem (d + 13) 178 [.ref 31, .int x, .int y] M2 N2 P2 nx2 (rI fun r M3 N3 P3 nx3 => (r1 = r → W M3 N3 P3 nx3) ∧ (¬ r1 = r → X M3 N3 P3 nx3))) := by
  obtain ⟨ln, is, fc, dn, u, tp, row, nd, hs, ks, kp, B, hI, hJ, hF⟩ := hX
  have c6 := hI.1.2.2.2.1
  unfold wfC at c6
  by_cases hx : vl x is
  · obtain ⟨i, hi, rfl⟩ := vl_of hx
    exact qq hn hI hJ hF (fun Q h => s103 hn hI.1 hi h) (fun M1 Q hj h => s178 hn hj.1 hi h) hW
  · exact qq hn hI hJ hF (fun Q h => (s103n hn hI.1 hx).mpr (h M eqQ.rf)) (fun M1 Q hj h => s178n hn hj.1 hx h) hW
theorem o105 (hn : 44 ≤ nx) (hX : IX M t e) {x y z : Int32} (hW : ∀ M', IX M' t e → W M' N (P0 t e) nx) : aSem (d + 13) 105 [.ref 0, .int x, .int y, .int z] M N (P0 t e) nx (rI fun r1 M2 N2 P2 nx2 => okO nx2 31 7 ∧ aSem (d + 13) 184 [.ref 31, .int x, .int y, .int z] M2 N2 P2 nx2 (rI fun r M3 N3 P3 nx3 => (r1 = r → W M3 N3 P3 nx3) ∧ (¬ r1 = r → X M3 N3 P3 nx3))) := by
  obtain ⟨ln, is, fc, dn, u, tp, row, nd, hs, ks, kp, B, hI, hJ, hF⟩ := hX
  have c6 := hI.1.2.2.2.1
  unfold wfC at c6
  by_cases hx : (vl x ln ∧ vl y is) ∧ isO z = true
  · obtain ⟨l, hl, rfl⟩ := vl_of hx.1.1
    obtain ⟨i, hi, rfl⟩ := vl_of hx.1.2
    exact qq hn hI hJ hF (fun Q h => s105 hn hI.1 hl hi hx.2 h) (fun M1 Q hj h => s184 hn hj.1 hl hi hx.2 h) hW
  · exact qq hn hI hJ hF (fun Q h => (s105n hn hI.1 hx).mpr (h M eqQ.rf)) (fun M1 Q hj h => s184n hn hj.1 hx h) hW
theorem o106 (hn : 44 ≤ nx) (hX : IX M t e) {x y z : Int32} (hW : ∀ M', IX M' t e → W M' N (P0 t e) nx) : aSem (d + 13) 106 [.ref 0, .int x, .int y, .int z] M N (P0 t e) nx (rI fun r1 M2 N2 P2 nx2 => okO nx2 31 7 ∧ aSem (d + 13) 185 [.ref 31, .int x, .int y, .int z] M2 N2 P2 nx2 (rI fun r M3 N3 P3 nx3 => (r1 = r → W M3 N3 P3 nx3) ∧ (¬ r1 = r → X M3 N3 P3 nx3))) := by
  obtain ⟨ln, is, fc, dn, u, tp, row, nd, hs, ks, kp, B, hI, hJ, hF⟩ := hX
  have c6 := hI.1.2.2.2.1
  unfold wfC at c6
  by_cases hx : (vl x ln ∧ vl y is) ∧ isO z = true
  · obtain ⟨l, hl, rfl⟩ := vl_of hx.1.1
    obtain ⟨i, hi, rfl⟩ := vl_of hx.1.2
    exact qq hn hI hJ hF (fun Q h => s106 hn hI.1 hl hi hx.2 h) (fun M1 Q hj h => s185 hn hj.1 hl hi hx.2 h) hW
  · exact qq hn hI hJ hF (fun Q h => (s106n hn hI.1 hx).mpr (h M eqQ.rf)) (fun M1 Q hj h => s185n hn hj.1 hx h) hW
theorem o109 (hn : 44 ≤ nx) (hX : IX M t e) {x y : Int32} (hW : ∀ M', IX M' t e → W M' N (P0 t e) nx) : aSem (d + 13) 109 [.ref 0, .int x, .int y] M N (P0 t e) nx (rI fun r1 M2 N2 P2 nx2 => okO nx2 31 7 ∧ aSem (d + 13) 186 [.ref 31, .int x, .int y] M2 N2 P2 nx2 (rI fun r M3 N3 P3 nx3 => (r1 = r → W M3 N3 P3 nx3) ∧ (¬ r1 = r → X M3 N3 P3 nx3))) := by
  obtain ⟨ln, is, fc, dn, u, tp, row, nd, hs, ks, kp, B, hI, hJ, hF⟩ := hX
  have c6 := hI.1.2.2.2.1
  unfold wfC at c6
  by_cases hx : vl x ln ∧ vl y is
  · obtain ⟨l, hl, rfl⟩ := vl_of hx.1
    obtain ⟨i, hi, rfl⟩ := vl_of hx.2
    exact qq hn hI hJ hF (fun Q h => s109 hn hI.1 hl hi h) (fun M1 Q hj h => s186 hn hj.1 hl hi h) hW
  · exact qq hn hI hJ hF (fun Q h => (s109n hn hI.1 hx).mpr (h M eqQ.rf)) (fun M1 Q hj h => s186n hn hj.1 hx h) hW
theorem o110 (hn : 44 ≤ nx) (hX : IX M t e) {x y : Int32} (hW : ∀ M', IX M' t e → W M' N (P0 t e) nx) : aSem (d + 13) 110 [.ref 0, .int x, .int y] M N (P0 t e) nx (rI fun r1 M2 N2 P2 nx2 => okO nx2 31 7 ∧ aSem (d + 13) 187 [.ref 31, .int x, .int y] M2 N2 P2 nx2 (rI fun r M3 N3 P3 nx3 => (r1 = r → W M3 N3 P3 nx3) ∧ (¬ r1 = r → X M3 N3 P3 nx3))) := by
  obtain ⟨ln, is, fc, dn, u, tp, row, nd, hs, ks, kp, B, hI, hJ, hF⟩ := hX
  have c6 := hI.1.2.2.2.1
  unfold wfC at c6
  by_cases hx : vl x is
  · obtain ⟨i, hi, rfl⟩ := vl_of hx
    by_cases h0 : ln = 0
    · subst h0
      exact qq hn hI hJ hF (fun Q h => s110z hn hI.1 hi h) (fun M1 Q hj h => s187n hn hj.1 (Or.inr rfl) h) hW
    · exact qq hn hI hJ hF (fun Q h => s110 hn hI.1 hi (by omega) rfl h) (fun M1 Q hj h => s187 hn hj.1 hi (by omega) rfl h) hW
  · exact qq hn hI hJ hF (fun Q h => (s110n hn hI.1 hx).mpr (h M eqQ.rf)) (fun M1 Q hj h => s187n hn hj.1 (Or.inl hx) h) hW
theorem o111 (hn : 44 ≤ nx) (hX : IX M t e) {x y : Int32} (hW : ∀ M', IX M' t e → W M' N (P0 t e) nx) : aSem (d + 13) 111 [.ref 0, .int x, .int y] M N (P0 t e) nx (rI fun r1 M2 N2 P2 nx2 => okO nx2 31 7 ∧ aSem (d + 13) 188 [.ref 31, .int x, .int y] M2 N2 P2 nx2 (rI fun r M3 N3 P3 nx3 => (r1 = r → W M3 N3 P3 nx3) ∧ (¬ r1 = r → X M3 N3 P3 nx3))) := by
  obtain ⟨ln, is, fc, dn, u, tp, row, nd, hs, ks, kp, B, hI, hJ, hF⟩ := hX
  have c6 := hI.1.2.2.2.1
  unfold wfC at c6
  by_cases hx : vl x is
  · obtain ⟨i, hi, rfl⟩ := vl_of hx
    by_cases h0 : ln = 0
    · subst h0
      exact qq hn hI hJ hF (fun Q h => s111z hn hI.1 hi h) (fun M1 Q hj h => s188n hn hj.1 (Or.inr rfl) h) hW
    · exact qq hn hI hJ hF (fun Q h => s111 hn hI.1 hi (by omega) rfl h) (fun M1 Q hj h => s188 hn hj.1 hi (by omega) rfl h) hW
  · exact qq hn hI hJ hF (fun Q h => (s111n hn hI.1 hx).mpr (h M eqQ.rf)) (fun M1 Q hj h => s188n hn hj.1 (Or.inl hx) h) hW
theorem o113 (hn : 44 ≤ nx) (hX : IX M t e) {x : Int32} (hW : ∀ M', IX M' t e → W M' N (P0 t e) nx) : aSem (d + 13) 113 [.ref 0, .int x] M N (P0 t e) nx (rJ fun r1 M2 N2 P2 nx2 => okO nx2 31 7 ∧ aSem (d + 13) 189 [.ref 31, .int x] M2 N2 P2 nx2 (rJ fun r M3 N3 P3 nx3 => (r1 = r → W M3 N3 P3 nx3) ∧ (¬ r1 = r → X M3 N3 P3 nx3))) := by
  obtain ⟨ln, is, fc, dn, u, tp, row, nd, hs, ks, kp, B, hI, hJ, hF⟩ := hX
  have c6 := hI.1.2.2.2.1
  unfold wfC at c6
  by_cases hx : vl x 100
  · obtain ⟨v, hv, rfl⟩ := vl_of hx
    exact qqL hn hI hJ hF (fun Q h => s113 hn hI.1 hv h) (fun M1 Q hj h => s189 hn hj.1 hv h) hW
  · exact qqL hn hI hJ hF (fun Q h => (s113n hx).mpr (h M eqQ.rf)) (fun M1 Q hj h => s189n hn hj.1 hx h) hW
theorem o114 (hn : 44 ≤ nx) (hX : IX M t e) {x y : Int32} (hW : ∀ M', IX M' t e → W M' N (P0 t e) nx) : aSem (d + 13) 114 [.ref 0, .int x, .int y] M N (P0 t e) nx (rI fun r1 M2 N2 P2 nx2 => okO nx2 31 7 ∧ aSem (d + 13) 194 [.ref 31, .int x, .int y] M2 N2 P2 nx2 (rI fun r M3 N3 P3 nx3 => (r1 = r → W M3 N3 P3 nx3) ∧ (¬ r1 = r → X M3 N3 P3 nx3))) := by
  obtain ⟨ln, is, fc, dn, u, tp, row, nd, hs, ks, kp, B, hI, hJ, hF⟩ := hX
  have c6 := hI.1.2.2.2.1
  unfold wfC at c6
  by_cases hx : vl x dn ∧ vl y ln
  · obtain ⟨l, hl, rfl⟩ := vl_of hx.1
    obtain ⟨i, hi, rfl⟩ := vl_of hx.2
    exact qq hn hI hJ hF (fun Q h => s114 hn hI.1 hl hi h) (fun M1 Q hj h => s194 hn hj.1 hl hi h) hW
  · exact qq hn hI hJ hF (fun Q h => (s114n hn hI.1 hx).mpr (h M eqQ.rf)) (fun M1 Q hj h => s194n hn hj.1 hx h) hW
theorem o115 (hn : 44 ≤ nx) (hX : IX M t e) {x : Int32} (hW : ∀ M', IX M' t e → W M' N (P0 t e) nx) : aSem (d + 13) 115 [.ref 0, .int x] M N (P0 t e) nx (rI fun r1 M2 N2 P2 nx2 => okO nx2 31 7 ∧ aSem (d + 13) 195 [.ref 31, .int x] M2 N2 P2 nx2 (rI fun r M3 N3 P3 nx3 => (r1 = r → W M3 N3 P3 nx3) ∧ (¬ r1 = r → X M3 N3 P3 nx3))) := by
  obtain ⟨ln, is, fc, dn, u, tp, row, nd, hs, ks, kp, B, hI, hJ, hF⟩ := hX
  have c6 := hI.1.2.2.2.1
  unfold wfC at c6
  by_cases hx : vl x dn
  · obtain ⟨i, hi, rfl⟩ := vl_of hx
    exact qq hn hI hJ hF (fun Q h => s115 hn hI.1 hi h) (fun M1 Q hj h => s195 hn hj.1 hi h) hW
  · exact qq hn hI hJ hF (fun Q h => (s115n hn hI.1 hx).mpr (h M eqQ.rf)) (fun M1 Q hj h => s195n hn hj.1 hx h) hW
theorem o116 (hn : 44 ≤ nx) (hX : IX M t e) (hW : ∀ M', IX M' t e → W M' N (P0 t e) nx) : aSem (d + 13) 116 [.ref 0] M N (P0 t e) nx (rI fun r1 M2 N2 P2 nx2 => okO nx2 31 7 ∧ aSem (d + 13) 196 [.ref 31] M2 N2 P2 nx2 (rI fun r M3 N3 P3 nx3 => (r1 = r → W M3 N3 P3 nx3) ∧ (¬ r1 = r → X M3 N3 P3 nx3))) := by
  obtain ⟨ln, is, fc, dn, u, tp, row, nd, hs, ks, kp, B, hI, hJ, hF⟩ := hX
  have c6 := hI.1.2.2.2.1
  unfold wfC at c6
  exact qq hn hI hJ hF (fun Q h => s116 hn hI.1 h) (fun M1 Q hj h => s196 hn hj.1 h) hW
theorem o117 (hn : 44 ≤ nx) (hX : IX M t e) {x y : Int32} (hW : ∀ M', IX M' t e → W M' N (P0 t e) nx) : aSem (d + 13) 117 [.ref 0, .int x, .int y] M N (P0 t e) nx (rI fun r1 M2 N2 P2 nx2 => okO nx2 31 7 ∧ aSem (d + 13) 197 [.ref 31, .int x, .int y] M2 N2 P2 nx2 (rI fun r M3 N3 P3 nx3 => (r1 = r → W M3 N3 P3 nx3) ∧ (¬ r1 = r → X M3 N3 P3 nx3))) := by
  obtain ⟨ln, is, fc, dn, u, tp, row, nd, hs, ks, kp, B, hI, hJ, hF⟩ := hX
  have c6 := hI.1.2.2.2.1
  unfold wfC at c6
  by_cases hx : vl x dn
  · obtain ⟨i, hi, rfl⟩ := vl_of hx
    exact qq hn hI hJ hF (fun Q h => s117 hn hI.1 hi h) (fun M1 Q hj h => s197 hn hj.1 hi h) hW
  · exact qq hn hI hJ hF (fun Q h => (s117n hn hI.1 hx).mpr (h M eqQ.rf)) (fun M1 Q hj h => s197n hn hj.1 hx h) hW
theorem o118 (hn : 44 ≤ nx) (hX : IX M t e) {x : Int32} (hW : ∀ M', IX M' t e → W M' N (P0 t e) nx) : aSem (d + 13) 118 [.ref 0, .int x] M N (P0 t e) nx (rI fun r1 M2 N2 P2 nx2 => okO nx2 31 7 ∧ aSem (d + 13) 199 [.ref 31, .int x] M2 N2 P2 nx2 (rI fun r M3 N3 P3 nx3 => (r1 = r → W M3 N3 P3 nx3) ∧ (¬ r1 = r → X M3 N3 P3 nx3))) := by
  obtain ⟨ln, is, fc, dn, u, tp, row, nd, hs, ks, kp, B, hI, hJ, hF⟩ := hX
  have c6 := hI.1.2.2.2.1
  unfold wfC at c6
  by_cases hx : vl x dn
  · obtain ⟨k, hk, rfl⟩ := vl_of hx
    obtain ⟨v, hv⟩ := feV_ex (row := row) (need := nd k) (is := is) (ln := ln) (fc := fc)
    exact qq (v := v) hn hI hJ hF (fun Q h => s118 hn hI.1 hk (fun M' w he hw => by rw [feV_un hw hv]; exact h M' he)) (fun M1 Q hj h => s199 hn hj.1 hk (fun M' w he hw => by rw [feV_un hw hv]; exact h M' he)) hW
  · exact qq hn hI hJ hF (fun Q h => (s118n hn hI.1 hx).mpr (h M eqQ.rf)) (fun M1 Q hj h => s199n hn hj.1 hx h) hW
theorem o119 (hn : 44 ≤ nx) (hX : IX M t e) {x y : Int32} (hW : ∀ M', IX M' t e → W M' N (P0 t e) nx) : aSem (d + 13) 119 [.ref 0, .int x, .int y] M N (P0 t e) nx (rI fun r1 M2 N2 P2 nx2 => okO nx2 31 7 ∧ aSem (d + 13) 202 [.ref 31, .int x, .int y] M2 N2 P2 nx2 (rI fun r M3 N3 P3 nx3 => (r1 = r → W M3 N3 P3 nx3) ∧ (¬ r1 = r → X M3 N3 P3 nx3))) := by
  obtain ⟨ln, is, fc, dn, u, tp, row, nd, hs, ks, kp, B, hI, hJ, hF⟩ := hX
  have c6 := hI.1.2.2.2.1
  unfold wfC at c6
  by_cases hx : vl x fc ∧ vl y ln
  · obtain ⟨f, hf, rfl⟩ := vl_of hx.1
    obtain ⟨l, hl, rfl⟩ := vl_of hx.2
    exact qa hn hI hJ (hI.1.2.2.2.2.1.fa c6.2.2.1 hf hl) (hF.ps hI.1.2.2.2.2.1 (hF.2.1.up hI.1.2.2.2.2.1.2.2.2.2 (by omega))) (fun Q h => s119 hn hI.1 hI.2.2.2.2.1 hf hl h) (fun M1 Q hj h => s202 hn hj.1 hj.2.1 hf hl h) hW
  · exact qq hn hI hJ hF (fun Q h => (s119n hn hI.1 hx).mpr (h M eqQ.rf)) (fun M1 Q hj h => s202n hn hj.1 hx h) hW
theorem o120 (hn : 44 ≤ nx) (hX : IX M t e) {x y : Int32} (hW : ∀ M', IX M' t e → W M' N (P0 t e) nx) : aSem (d + 13) 120 [.ref 0, .int x, .int y] M N (P0 t e) nx (rI fun r1 M2 N2 P2 nx2 => okO nx2 31 7 ∧ aSem (d + 13) 203 [.ref 31, .int x, .int y] M2 N2 P2 nx2 (rI fun r M3 N3 P3 nx3 => (r1 = r → W M3 N3 P3 nx3) ∧ (¬ r1 = r → X M3 N3 P3 nx3))) := by
  obtain ⟨ln, is, fc, dn, u, tp, row, nd, hs, ks, kp, B, hI, hJ, hF⟩ := hX
  have c6 := hI.1.2.2.2.1
  unfold wfC at c6
  by_cases hx : vl x ln ∧ vl y 5
  · obtain ⟨l, hl, rfl⟩ := vl_of hx.1
    obtain ⟨y, hy, rfl⟩ := vl_of hx.2
    exact qa hn hI hJ (hI.1.2.2.2.2.1.th (by omega) (by omega) c6.2.2.1) (hF.ps hI.1.2.2.2.2.1 (hF.2.1.up hI.1.2.2.2.2.1.2.2.2.2 (by omega))) (fun Q h => s120 hn hI.1 hI.2.2.2.2.1 hl hy h) (fun M1 Q hj h => s203 hn hj.1 hj.2.1 hl hy h) hW
  · exact qq hn hI hJ hF (fun Q h => (s120n hn hI.1 hx).mpr (h M eqQ.rf)) (fun M1 Q hj h => s203n hn hj.1 hx h) hW
theorem ruN_le {fc : Nat} {x z : Int32} (hx : x = ng1 ∨ vl x fc) (h5 : fc ≤ 5) : ruN x z ≤ 2 * fc := by
  unfold ruN
  by_cases q : x = ng1
  · rw [if_pos q]; exact Nat.zero_le _
  · rw [if_neg q]
    obtain ⟨f, hf, rfl⟩ := vl_of (hx.elim (fun y => absurd y q) id)
    rw [iN_nI (by omega)]
    split <;> omega
theorem o121 (hn : 44 ≤ nx) (hX : IX M t e) {x y z v : Int32} (hv : v = nI 0 ∨ v = nI 1) (hW : ∀ M', IX M' t e → W M' N (P0 t e) nx) : aSem (d + 13) 121 [.ref 0, .int x, .int y, .int z, .int v] M N (P0 t e) nx (rI fun r1 M2 N2 P2 nx2 => okO nx2 31 7 ∧ aSem (d + 13) 204 [.ref 31, .int x, .int y, .int z, .int v] M2 N2 P2 nx2 (rI fun r M3 N3 P3 nx3 => (r1 = r → W M3 N3 P3 nx3) ∧ (¬ r1 = r → X M3 N3 P3 nx3))) := by
  obtain ⟨ln, is, fc, dn, u, tp, row, nd, hs, ks, kp, B, hI, hJ, hF⟩ := hX
  have c6 := hI.1.2.2.2.1
  unfold wfC at c6
  by_cases hx : (vl x ln ∧ vl y is) ∧ (z = ng1 ∨ vl z fc)
  · obtain ⟨l, hl, rfl⟩ := vl_of hx.1.1
    obtain ⟨i, hi, rfl⟩ := vl_of hx.1.2
    exact qa hn hI hJ (hI.1.2.2.2.2.1.ru (by omega) (by omega) (ruN_le hx.2 c6.2.2.1) c6.2.2.1) (hF.ps hI.1.2.2.2.2.1 (hF.2.1.up hI.1.2.2.2.2.1.2.2.2.2 (by omega))) (fun Q h => s121 hn hI.1 hI.2.2.2.2.1 hl hi hx.2 hv h) (fun M1 Q hj h => s204 hn hj.1 hj.2.1 hl hi hx.2 hv h) hW
  · exact qq hn hI hJ hF (fun Q h => (s121n hn hI.1 hx).mpr (h M eqQ.rf)) (fun M1 Q hj h => s204n hn hj.1 hx h) hW
theorem o122 (hn : 44 ≤ nx) (hX : IX M t e) {x y z : Int32} (hW : ∀ M', IX M' t e → W M' N (P0 t e) nx) : aSem (d + 13) 122 [.ref 0, .int x, .int y, .int z] M N (P0 t e) nx (rI fun r1 M2 N2 P2 nx2 => okO nx2 31 7 ∧ aSem (d + 13) 205 [.ref 31, .int x, .int y, .int z] M2 N2 P2 nx2 (rI fun r M3 N3 P3 nx3 => (r1 = r → W M3 N3 P3 nx3) ∧ (¬ r1 = r → X M3 N3 P3 nx3))) := by
  obtain ⟨ln, is, fc, dn, u, tp, row, nd, hs, ks, kp, B, hI, hJ, hF⟩ := hX
  have c6 := hI.1.2.2.2.1
  unfold wfC at c6
  by_cases hx : (vl x ln ∧ vl y is) ∧ vl z 100
  · obtain ⟨l, hl, rfl⟩ := vl_of hx.1.1
    obtain ⟨i, hi, rfl⟩ := vl_of hx.1.2
    obtain ⟨y, hy, rfl⟩ := vl_of hx.2
    exact qa hn hI hJ (hI.1.2.2.2.2.1.la (by omega) (by omega) (by omega) c6.2.2.1) (hF.ps hI.1.2.2.2.2.1 (hF.2.1.up hI.1.2.2.2.2.1.2.2.2.2 (by omega))) (fun Q h => s122 hn hI.1 hI.2.2.2.2.1 hl hi hy h) (fun M1 Q hj h => s205 hn hj.1 hj.2.1 hl hi hy h) hW
  · exact qq hn hI hJ hF (fun Q h => (s122n hn hI.1 hx).mpr (h M eqQ.rf)) (fun M1 Q hj h => s205n hn hj.1 hx h) hW
theorem o123 (hn : 44 ≤ nx) (hX : IX M t e) {x y : Int32} (hW : ∀ M', IX M' t e → W M' N (P0 t e) nx) : aSem (d + 13) 123 [.ref 0, .int x, .int y] M N (P0 t e) nx (rI fun r1 M2 N2 P2 nx2 => okO nx2 31 7 ∧ aSem (d + 13) 207 [.ref 31, .int x, .int y] M2 N2 P2 nx2 (rI fun r M3 N3 P3 nx3 => (r1 = r → W M3 N3 P3 nx3) ∧ (¬ r1 = r → X M3 N3 P3 nx3))) := by
  obtain ⟨ln, is, fc, dn, u, tp, row, nd, hs, ks, kp, B, hI, hJ, hF⟩ := hX
  have c6 := hI.1.2.2.2.1
  unfold wfC at c6
  have hH := hI.1.2.2.2.2.1.2.2.2.2
  by_cases hx : vl x is ∧ vl y is
  · obtain ⟨i, hi, rfl⟩ := vl_of hx.1
    obtain ⟨j, hj, rfl⟩ := vl_of hx.2
    by_cases he : row (83 + i) = row (83 + j)
    · exact qq hn hI hJ hF (fun Q h => (s123z hn hI.1 hi hj he).mpr (h M eqQ.rf)) (fun M1 Q hj' h => s207z hn hj'.1 hi hj he h) hW
    · have hw := mvR_wf (a := row (83 + i)) hI.1.2.2.2.2.1 (hH j hj) c6.2.2.1
      exact qa hn hI hJ hw (hF.ps hI.1.2.2.2.2.1 (mvR_H hF.2.1 hH (hF.2.1 j hj) (hH j hj) (fun q => he q.symm))) (fun Q h => s123 hn hI.1 hI.2.2.2.2.1 hi hj he hw h) (fun M1 Q hj' h => s207 hn hj'.1 hj'.2.1 hi hj he h) hW
  · exact qq hn hI hJ hF (fun Q h => (s123n hn hI.1 hx).mpr (h M eqQ.rf)) (fun M1 Q hj h => s207n hn hj.1 hx h) hW
theorem o124 (hn : 44 ≤ nx) (hX : IX M t e) {x : Int32} (hW : ∀ M', IX M' t e → W M' N (P0 t e) nx) : aSem (d + 13) 124 [.ref 0, .int x] M N (P0 t e) nx (rI fun r1 M2 N2 P2 nx2 => okO nx2 31 7 ∧ aSem (d + 13) 208 [.ref 31, .int x] M2 N2 P2 nx2 (rI fun r M3 N3 P3 nx3 => (r1 = r → W M3 N3 P3 nx3) ∧ (¬ r1 = r → X M3 N3 P3 nx3))) := by
  obtain ⟨ln, is, fc, dn, u, tp, row, nd, hs, ks, kp, B, hI, hJ, hF⟩ := hX
  have c6 := hI.1.2.2.2.1
  unfold wfC at c6
  have hH := hI.1.2.2.2.2.1.2.2.2.2
  by_cases hx : vl x is
  · obtain ⟨i, hi, rfl⟩ := vl_of hx
    by_cases he : 2 ≤ cntF (fun k => row (83 + k) == row (83 + i)) 0 is
    · exact qa hn hI hJ (cutR_wf hI.1.2.2.2.2.1 hi c6.2.2.1) (hF.ps hI.1.2.2.2.2.1 (cutR_H hF.2.1 hH hi)) (fun Q h => s124 hn hI.1 hI.2.2.2.2.1 hi he h) (fun M1 Q hj' h => s208 hn hj'.1 hj'.2.1 hF.2.1 hi he h) hW
    · exact qq hn hI hJ hF (fun Q h => (s124z hn hI.1 hi (by omega)).mpr (h M eqQ.rf)) (fun M1 Q hj' h => s208z hn hj'.1 hi (by omega) h) hW
  · exact qq hn hI hJ hF (fun Q h => (s124n hn hI.1 hx).mpr (h M eqQ.rf)) (fun M1 Q hj h => s208n hn hj.1 hx h) hW
theorem o125 (hn : 44 ≤ nx) (hX : IX M t e) {x y : Int32} (hW : ∀ M', IX M' t e → W M' N (P0 t e) nx) : aSem (d + 13) 125 [.ref 0, .int x, .int y] M N (P0 t e) nx (rI fun r1 M2 N2 P2 nx2 => okO nx2 31 7 ∧ aSem (d + 13) 210 [.ref 31, .int x, .int y] M2 N2 P2 nx2 (rI fun r M3 N3 P3 nx3 => (r1 = r → W M3 N3 P3 nx3) ∧ (¬ r1 = r → X M3 N3 P3 nx3))) := by
  obtain ⟨ln, is, fc, dn, u, tp, row, nd, hs, ks, kp, B, hI, hJ, hF⟩ := hX
  have c6 := hI.1.2.2.2.1
  unfold wfC at c6
  by_cases hx : (vl x ln ∧ vl y ln) ∧ ¬ x = y
  · obtain ⟨hx1, hne⟩ := hx
    obtain ⟨l, hl, rfl⟩ := vl_of hx1.1
    obtain ⟨p, hp, rfl⟩ := vl_of hx1.2
    have hlp : l ≠ p := fun q => hne (by rw [q])
    exact qa hn hI hJ (mirG_wf hI.1.2.2.2.2.1 hl hp c6.1 c6.2.2.1) (hF.ps hI.1.2.2.2.2.1 (mirG_H hF.2.1)) (fun Q h => s125 hn hI.1 hI.2.2.2.2.1 hl hp hlp h) (fun M1 Q hj' h => s210 hn hj'.1 hj'.2.1 hl hp hlp h) hW
  · exact qq hn hI hJ hF (fun Q h => (s125n hn hI.1 hx).mpr (h M eqQ.rf)) (fun M1 Q hj h => s210n hn hj.1 hx h) hW
theorem o126 (hn : 44 ≤ nx) (hX : IX M t e) (hW : ∀ M', IX M' t e → W M' N (P0 t e) nx) : aSem (d + 13) 126 [.ref 0] M N (P0 t e) nx (rI fun r1 M2 N2 P2 nx2 => okO nx2 31 7 ∧ aSem (d + 13) 211 [.ref 31] M2 N2 P2 nx2 (rI fun r M3 N3 P3 nx3 => (r1 = r → W M3 N3 P3 nx3) ∧ (¬ r1 = r → X M3 N3 P3 nx3))) := by
  obtain ⟨ln, is, fc, dn, u, tp, row, nd, hs, ks, kp, B, hI, hJ, hF⟩ := hX
  have c6 := hI.1.2.2.2.1
  unfold wfC at c6
  match u, hI, hJ, hF with
  | 0, hI, hJ, hF => exact qq hn hI hJ hF (fun Q h => (s126z hn hI.2.2.2.2.1).mpr (h M eqQ.rf)) (fun M1 Q hj h => s211z hn hj.2.1 h) hW
  | u + 1, hI, hJ, hF =>
    have g := hF.2.2.1 u (by omega)
    exact qa hn hI hJ g.1 (hs' := hs) ⟨hF.1, g.2, fun j hj => hF.2.2.1 j (by omega), hF.2.2.2⟩ (fun Q h => s126 hn hI.1 hI.2.2.2.2.1 h) (fun M1 Q hj h => s211 hn hj.1 hj.2.1 g.1 h) hW
theorem o127 (hn : 44 ≤ nx) (hX : IX M t e) {x y : Int32} (hv : y = nI 0 ∨ y = nI 1) (hW : ∀ M', IX M' t e → W M' N (P0 t e) nx) : aSem (d + 13) 127 [.ref 0, .int x, .int y] M N (P0 t e) nx (rI fun r1 M2 N2 P2 nx2 => okO nx2 31 7 ∧ aSem (d + 13) 212 [.ref 31, .int x, .int y] M2 N2 P2 nx2 (rI fun r M3 N3 P3 nx3 => (r1 = r → W M3 N3 P3 nx3) ∧ (¬ r1 = r → X M3 N3 P3 nx3))) := by
  obtain ⟨ln, is, fc, dn, u, tp, row, nd, hs, ks, kp, B, hI, hJ, hF⟩ := hX
  have c6 := hI.1.2.2.2.1
  unfold wfC at c6
  by_cases hx : vl x 2
  · obtain ⟨k, hk, rfl⟩ := vl_of hx
    rcases hv with rfl | rfl
    · rw [nI_0]
      refine qa hn hI hJ hI.1.2.2.2.2.1 (u' := u) (hs' := hs) (kp' := va_up kp k true) (ks' := va_up ks k row) ⟨hF.1, hF.2.1, hF.2.2.1, fun j hj hq => ?_⟩ (fun Q h => s127l hn hI.1 hI.2.2.2.2.1 hk h) (fun M1 Q hj h => s212l hn hj.1 hj.2.1 hk h) hW
      by_cases z : j = k
      · subst z; rw [up_eq]; exact ⟨hI.1.2.2.2.2.1, hF.2.1⟩
      · rw [up_ne z] at hq ⊢; exact hF.2.2.2 j hj hq
    · by_cases hkp : kp k = true
      · have g := hF.2.2.2 k hk hkp
        exact qa hn hI hJ g.1 (u' := 0) (hs' := hs) ⟨hF.1, g.2, fun j hj => absurd hj (Nat.not_lt_zero _), hF.2.2.2⟩ (fun Q h => s127b hn hI.1 hI.2.2.2.2.1 hk one0 hkp h) (fun M1 Q hj h => s212b hn hj.1 hj.2.1 hk one0 hkp g.1 h) hW
      · exact qq hn hI hJ hF (fun Q h => (s127z hn hI.2.2.2.2.1 hk one0 hkp).mpr (h M eqQ.rf)) (fun M1 Q hj h => s212z hn hj.2.1 hk one0 hkp h) hW
  · exact qq hn hI hJ hF (fun Q h => (s127n hn hx).mpr (h M eqQ.rf)) (fun M1 Q hj h => s212n hn hx h) hW
theorem o128 (hn : 44 ≤ nx) (hX : IX M t e) {x : Int32} (hW : ∀ M', IX M' t e → W M' N (P0 t e) nx) : aSem (d + 13) 128 [.ref 0, .int x] M N (P0 t e) nx (rI fun r1 M2 N2 P2 nx2 => okO nx2 31 7 ∧ aSem (d + 13) 215 [.ref 31, .int x] M2 N2 P2 nx2 (rI fun r M3 N3 P3 nx3 => (r1 = r → W M3 N3 P3 nx3) ∧ (¬ r1 = r → X M3 N3 P3 nx3))) := by
  obtain ⟨ln, is, fc, dn, u, tp, row, nd, hs, ks, kp, B, hI, hJ, hF⟩ := hX
  have c6 := hI.1.2.2.2.1
  unfold wfC at c6
  exact qq hn hI hJ hF (fun Q h => (s128 hn hI.1 hI.2.2.2.2.1 hI.2.2.2.2.2.2.1).mpr (h M eqQ.rf)) (fun M1 Q hj h => s215 hn hj.1 hj.2.1 hj.2.2.1 h) hW
end CAS
