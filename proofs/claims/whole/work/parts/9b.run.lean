/-! THE RUN: out of the meaning, the machine's walk of the law -/
section RUN
variable {p : Program} {e : Env} {s : State} {m : MethodId} {below : List Frame} {meth : Method} {c : Code}
theorem gt_tbl {w : Cond} (h : w ∈ gtbl) : w ∈ lw_tbl := (List.mem_filter.mp h).1
theorem whole_of (l : Launch) {b L : Nat} {xs : Nat → Int32} (hL : L ≤ 3072) (C0 : lw_At p s m meth c b L xs) {D : va_G} {cA : Nat → ClassId} {adr : Nat → Nat} {Ev : State → Heap → Prop} (hE1 : evOK (aA s.heap.size) Ev) (hE2 : evHas D cA (s.heap.size, b, adr) Ev) (hEv : Ev s s.heap)
    (hcl : clA l D cA (s.heap.size, b, adr) Ev 28 (aSem 20))
    (h216 : ∀ (X : aX), (∀ t lv st M N P nx, X t lv st M N P nx → mpA p l e room_1 s m #[Value.ref b] below meth c D cA (s.heap.size, b, adr) 217 600 0 (lw_Z below #[Value.ref b] s) t lv st M N P nx) → ∀ n pc lv st M N P nx, callOf (mOwn 217) n = some 216 → callP (aSem 20) 600 216 (fun st M N P nx => X (pc + 3) lv st M N P nx) st M N P nx → decode (mCode 217) pc = .ok (.invokestatic n, 3) → mpA p l e room_1 s m #[Value.ref b] below meth c D cA (s.heap.size, b, adr) 217 600 0 (lw_Z below #[Value.ref b] s) pc lv st M N P nx) :
    W p l e room_1 s m #[Value.ref b] below meth c s.heap [] 0 0 (lw_Z below #[Value.ref b] s) (entryFrame m ([Value.ref b] : List Value).toArray 7) := by
  obtain ⟨hx, hb, hr, hml, hown, hts, hX, hbl, hlocks, hgv⟩ := id C0
  have hcx : cxA p room_1 s m #[Value.ref b] meth c D cA (s.heap.size, b, adr) Ev (L, xs) 217 600 0 28 := ⟨hx, hb, hml, hown, fun w hw => hts w (gt_tbl hw), fun hk => absurd hk (by decide +kernel), hEv, hE1, hE2, Nat.le_refl _, Nat.le_of_ble_eq_true rfl, Nat.le_of_ble_eq_true rfl, Nat.le_of_ble_eq_true rfl, Nat.le_of_ble_eq_true rfl, fun _ => rfl, fun _ => ⟨hX, hbl, Nat.not_le.mpr hbl⟩⟩
  have hl := lv_entry ([.ref b]) (n := 7) (Nat.le_of_ble_eq_true rfl)
  rw [lg_entry_eq]
  generalize (lg_sl ([.ref b]) ++ List.replicate (7 - (lg_sl ([.ref b])).length) Slot.unset).toArray = ls at hl ⊢
  have hl : lv_has ls 7 [(0, .ref b)] := hl
  have hw := w217 (d := 7) (G := (L, xs)) (lim := 600) (Q := fun r _ _ _ _ => r = some (.int (nI 1))) (show L < 2 ^ 30 by omega) (m := 513) (show L < 6 * 513 by omega) (by decide) (fun _ _ _ _ _ => rfl)
  refine am_body (Z := lw_Z below #[Value.ref b] s) (e := e) (below := below) hcx (show L < 2 ^ 31 by omega) hcl h216 ?_ ?_ ?_ ?_ 0 _ _ _ _ _ _ hw s.heap [] ls (fun k q h => by simp [wsW] at h) va_S.rf hl (Nat.le_refl _) (by decide)
  · intro x M N P nx pc H locs ls hq hz hR hS h0 hlim hd
    have hx1 : x = 1 := by
      have : x = nI 1 := by simpa using hq
      rw [this]; exact nI1
    subst hx1
    refine va_forget hS.2.2 (W.widen (k := 601024) (n := 7293034) (by omega) (by omega) ?_)
    exact lw_ret hx hb hr hlocks hd
  · intro x M N P nx pc H locs ls hq
    exact absurd hq (by simp)
  · intro M N P nx pc H locs ls hq
    exact absurd hq (by simp)
  · intro n pc lv st M N P nx hj
    exact absurd hj (by decide)
end RUN
