/-! SOUNDNESS: what WP says of a method's body, the machine does -/
/-- facts of the start that calls need, whatever they are: they go along with the tables and with a heap that keeps what isn't A -/
def evOK (A : Nat → Prop) (Ev : State → Heap → Prop) : Prop := (∀ (s U : State) (H : Heap), s.WarmedH U.vm → Ev s H → Ev U H) ∧ ∀ (U : State) (H H' : Heap), H.size ≤ H'.size → (∀ q : Nat, q < H.size → ¬ A q → H'[q]? = H[q]?) → Ev U H → Ev U H'
def evHas (D : va_G) (cA : Nat → ClassId) (E : aE) (Ev : State → Heap → Prop) : Prop := ∀ (U : State) (H : Heap), Ev U H → va_K D vwCl (tysW cA) U ∧ (∀ w ∈ nestWs, va_Nw w U) ∧ ∀ own idx k, scon own idx = some k → vk_R (oName own) idx (sTexts.getD k "") (E.2.2 k) U
def pcA (D : va_G) (cA : Nat → ClassId) (E : aE) (Ev : State → Heap → Prop) (as : List Value) (M : aM) (N : aN) (P : aP) (nx : Nat) : Array Value → State → Prop := va_Pc (as.map (rv E)) (fun U => relH D cA E.1 M N P nx U.heap ∧ (nx ≤ 44 → U.heap.size = E.1 + nx) ∧ E.1 ≤ U.heap.size ∧ Ev U U.heap)
def qcA (D : va_G) (cA : Nat → ClassId) (E : aE) (Q : aQ) : Array Value → State → Outcome → State → Prop := fun _ st oc t => (∃ (r : Option Value) (M : aM) (N : aN) (P : aP) (nx : Nat), oc = .returned (r.map (rv E)) ∧ Q r M N P nx ∧ relH D cA E.1 M N P nx t.heap) ∧ va_F (aA E.1) st t
def rmA (d q : Nat) : Room := { frames := d, cells := mC q, slots := 1068 * mC q, locals := 128 * d }
def wsA (q : Nat) : List Cond := Cond.code (mName q) (mCode q) (mMaxL q) (mRet q) :: gtbl
def metA (l : Launch) (D : va_G) (cA : Nat → ClassId) (E : aE) (Ev : State → Heap → Prop) (d q : Nat) (as : List Value) (M : aM) (N : aN) (P : aP) (nx : Nat) (Q : aQ) : Prop :=
  Met l (mName q) (wsA q) (rmA d q) (pcA D cA E Ev as M N P nx) (qcA D cA E Q) (mC q) (1068 * mC q) (aA E.1)
theorem pcA_blind {D : va_G} {cA : Nat → ClassId} {E : aE} {Ev : State → Heap → Prop} (hE : evOK (aA E.1) Ev) {as : List Value} {M : aM} {N : aN} {P : aP} {nx : Nat} : FrameBlind (pcA D cA E Ev as M N P nx) :=
  fun _ U _ _ ⟨h1, h2, h3, h4, h5⟩ => ⟨h1, h2, h3, h4, hE.1 U _ _ (State.WarmedH.refl U) h5⟩
theorem gt_good {w : Cond} (h : w ∈ gtbl) : (w.onTables && w.keeps) = true ∨ ∃ ty, w = .arrayClass ty := good_of_word (List.mem_filter.mp h).2
theorem good_A {Ts ws : List Cond} (hT : ∀ w ∈ gtbl, w ∈ Ts) (h : ∀ w ∈ ws, w ∈ gtbl) : GoodIn Ts ws := fun w hw => ⟨hT w (h w hw), gt_good (h w hw)⟩
theorem wsA_in {q : Nat} (h : mOK q) : ∀ w ∈ wsA q, w ∈ gtbl := by
  intro w hw
  rcases List.mem_cons.mp hw with e | e
  · rw [e]; exact h.1
  · exact e
section SND
variable {p : Program} {l : Launch} {e : Env} {R : Room} {s : State} {m : MethodId} {args : Array Value} {below : List Frame} {meth : Method} {c : Code} {D : va_G} {cA : Nat → ClassId} {E : aE} {Ev : State → Heap → Prop}
/-- the machine's side of a place in a body -/
def mpA (p : Program) (l : Launch) (e : Env) (R : Room) (s : State) (m : MethodId) (args : Array Value) (below : List Frame) (meth : Method) (c : Code) (D : va_G) (cA : Nat → ClassId) (E : aE) (j lim n0 : Nat) (Z : State → Prop) : aX := fun pc lv st M N P nx =>
  ∀ (H : Heap) (locs : List Loc) (ls : Array Slot), relH D cA E.1 M N P nx H → va_S (aA E.1) s.heap H locs → lv_has ls (mMaxL j) (rl E lv) → n0 ≤ nx → nx ≤ lim → W p l e R s m args below meth c H locs (nx - n0) (1068 * (nx - n0)) Z (F0 m pc ls (st.map (rv E)))
theorem W_size {H : Heap} {locs : List Loc} {cells slots : Nat} {Z : State → Prop} {g : JFrame} (k : H.size ≤ s.heap.size + cells → W p l e R s m args below meth c H locs cells slots Z g) : W p l e R s m args below meth c H locs cells slots Z g := fun T hT X => k (by rw [← hT]; exact X.heapSize) T hT X
/-- behind a call -/
theorem am_call {pc : Nat} {ls : Array Slot} {rest st0 : List Value} {a : Array Value} {H : Heap} {locs : List Loc} {cells slots mc ms : Nat} {Z : State → Prop} {Q : aQ}
    (hr : va_Run p l e R s m args below meth c H locs cells slots mc ms (F0 m pc ls st0) rest (qcA D cA E Q a) (aA E.1)) (hS : va_S (aA E.1) s.heap H locs)
    (kk : ∀ (r : Option Value) (M : aM) (N : aN) (P : aP) (nx : Nat) (H1 : Heap) (locs1 : List Loc), Q r M N P nx → relH D cA E.1 M N P nx H1 → va_S (aA E.1) s.heap H1 locs1 → W p l e R s m args below meth c H1 locs1 (cells + mc) (slots + ms) Z (F0 m (pc + 3) ls ((r.map (rv E)).toList ++ rest))) : W p l e R s m args below meth c H locs cells slots Z (F0 m pc ls st0) := by
  intro T hT X
  obtain ⟨v, st₀, t, T', L, h0, X', hL, e1, e2, ⟨⟨r, M, N, P, nx, hv, hQ, hR⟩, hz, hk⟩, st⟩ := hr T hT X
  cases hv
  rw [h0] at hz hk
  obtain ⟨t2, a1, b1⟩ := kk r M N P nx T'.heap (locs ++ L) hQ (by rw [e1]; exact hR) ⟨Nat.le_trans hS.1 (by rw [e1]; exact hz), fun q h1 h2 => by rw [e1, hk q (Nat.lt_of_lt_of_le h1 hS.1) h2]; exact hS.2.1 q h1 h2, fun q hq => by
      rcases List.mem_append.mp hq with h | h
      · exact hS.2.2 q h
      · exact hL q h⟩ T' rfl X'
  exact ⟨t2, st t2 a1, b1⟩
theorem nar_Z {x : Int32} (h : okZ x) : narrow .boolean (.int x) = .int x := by
  rcases h with h | h <;> rw [h] <;> decide +kernel
theorem narZ' {x : Int32} (h : okZ x) : vp_nar .boolean x = x := by
  unfold vp_nar
  rw [nar_Z h]
theorem in_A {i : Int32} {k n : Nat} (hi : i = nI k) (hk : k < n) (hn : n ≤ 1068) : vp_in i n ∧ i.toNatClampNeg = k := by
  subst hi
  exact ⟨vp_in_nI hk (by omega), nI_clamp (by omega)⟩
theorem k8_eq (n : Int) : k8 n = (Int8.ofInt n).toInt32 := by
  match n with
  | .ofNat k =>
    show (bif Nat.blt k 128 then nI k else _) = _
    cases h : Nat.blt k 128 with
    | false => rfl
    | true =>
      have : ∀ k, k < 128 → nI k = (Int8.ofInt (.ofNat k)).toInt32 := by decide +kernel
      exact this k (by simpa using h)
  | .negSucc 0 => rfl
  | .negSucc 1 => decide +kernel
  | .negSucc (k + 2) => rfl
theorem k16_eq (n : Int) : k16 n = (Int16.ofInt n).toInt32 := by
  match n with
  | .ofNat k =>
    show (bif Nat.blt k 32768 then nI k else _) = _
    cases h : Nat.blt k 32768 with
    | false => rfl
    | true =>
      have hk : k < 32768 := by simpa using h
      show nI k = _
      apply Int32.toInt_inj.mp
      rw [nI_toInt (by omega), Int16.toInt_toInt32, Int16.toInt_ofInt]
      show (k : Int) = Int.bmod k _
      rw [Int.bmod_eq_of_le] <;> simp [Int16.size] <;> omega
  | .negSucc k => rfl
theorem jmp_el {pc : Nat} {off : Int} {k : Nat → Prop} (h : jmp pc off k) : ∃ t : Nat, (pc : Int) + off = (t : Int) ∧ k t := by
  unfold jmp at h
  split at h
  · rename_i t ht
    exact ⟨t, ht, h⟩
  · exact h.elim
theorem kI_toInt {n : Int} (h1 : -1000 ≤ n) (h2 : n ≤ 1000) : (kI n).toInt = n := by
  rw [kI_eq, Int32.toInt_ofInt, Int.bmod_eq_of_le] <;> simp [Int32.size] <;> omega
end SND
