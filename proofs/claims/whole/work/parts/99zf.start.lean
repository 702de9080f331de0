/-! THE LAW, from its entry -/
theorem ini_85 : mKi 85 = 2 ∧ mOw 85 = 10 ∧ 0 = mPa 85 ∧ 1 ≤ mLo 85 := by decide +kernel
theorem ini_113 : mKi 113 = 2 ∧ mOw 113 = 11 ∧ 0 = mPa 113 ∧ 1 ≤ mLo 113 := by decide +kernel
set_option maxHeartbeats 4000000 in
theorem whole_start {p : Program} {e : Env} {s : State} {m : MethodId} {below : List Frame} {meth : Method} {c : Code} (l : Launch) {b L : Nat} {xs : Nat → Int32} (hL : L ≤ 3072) (C0 : lw_At p s m meth c b L xs) : W p l e room_1 s m #[Value.ref b] below meth c s.heap [] 0 0 (lw_Z below #[Value.ref b] s) (entryFrame m ([Value.ref b] : List Value).toArray 4) := by
  have hg := good_of C0
  obtain ⟨hx, hb, hr, hml, hown, hts, hX, hbl, hlocks, hgv⟩ := id C0
  obtain ⟨D, hK⟩ := known_0 hg
  obtain ⟨φ, hrom⟩ := rom_start hts hgv
  have hw : Wld D (fun q => s.heap.size ≤ q) s hZ φ [] [] s.heap [] := ⟨rel_0 φ, hK, fun k q h => (by cases h), ⟨fun i j p q h => (by cases h), fun k q h => (by cases h)⟩, va_S.rf, hrom⟩
  obtain ⟨d0, d1, d2, d3, d4, d5, d6, d7, d8, d9⟩ := k_head
  have hl := lv_entry ([.ref b]) (n := 4) (Nat.le_of_ble_eq_true rfl)
  rw [lg_entry_eq]
  generalize (lg_sl ([.ref b]) ++ List.replicate (4 - (lg_sl ([.ref b])).length) Slot.unset).toArray = ls at hl ⊢
  have hl : lv_has ls 4 [(0, .ref b)] := hl
  refine two_new (own := "HeraldDeskLaw") (t := 10) hx hb hown hg hw hw (fun i j p q h => by cases h) (fun _ h => h) (by decide) n_10 (by decide) (by decide) (dkL_ok d0) (fun φ1 ws1 H1 e1 w1 w2 dj1 => ?_)
  refine lv_dup hx hb (dkL_ok d1) rfl ?_
  have hC : CV 60 85 [vR 10 (some 0)] cA1 (fun h' => RepC S0 h' ∧ jC h' ≤ 100 ∧ jZ h' ≤ 10000) := C85 (d := 22) (fun h' r z1 z2 => ⟨r, z1, z2⟩)
  have c0 : jC cA1 = 1 ∧ jZ cA1 = 10 ∧ jN cA1 10 = 1 := ⟨rfl, rfl, rfl⟩
  obtain ⟨i1, i2, i3, i4⟩ := ini_85
  refine two_i (own := "HeraldDeskLaw") (o := 10) (d := 60) (y := 85) hx hb hml hown hg (h := cA1) (φ := φ1) w1 w2 dj1 (fun _ h => h) (by decide) i2 i1 w_85 i3 i4 (by rw [c0.2.2]; decide) hC (by decide) (by decide) (fun h' z => ?_) hl.1 (Nat.le_of_ble_eq_true rfl) (dkL_ok d2) (fun h1 φ1' ws1' tys1' H2 locs2 z1 g1 e2 w3 w4 dj2 => ?_)
  · have z1 := z.2.1
    have z2 := z.2.2
    have hr1 : room_1.cells = 600000 := rfl
    have hr2 : room_1.slots = 7302250 := rfl
    have hn : nfl 10 = 10 := rfl
    omega
  obtain ⟨r1, b1, b2⟩ := z1
  have a1 := g1.2.1
  have a2 := g1.2.2
  have j1 : 0 < jN h1 10 := Nat.lt_of_lt_of_le (by rw [c0.2.2]; decide) (g1.1 10)
  refine W.cs (cells' := jC h1) (slots' := jZ h1) (by have hn : nfl 10 = 10 := rfl; omega) (by have hn : nfl 10 = 10 := rfl; omega) ?_
  have q1e : φ1' 10 0 = φ1 10 0 := e2 10 0 (by rw [c0.2.2]; decide)
  refine lv_astore_n (lv' := [(1, .ref (φ1 10 0)), (0, .ref b)]) hx hb (dkL_ok d3) rfl hl (by decide) rfl (fun ls hl => ?_)
  refine two_new (own := "HeraldDeskLaw") (t := 11) hx hb hown hg w4 w3 dj2.symm (fun _ h => h) (by decide) n_11 (by have hr1 : room_1.cells = 600000 := rfl; omega) (by have hr2 : room_1.slots = 7302250 := rfl; have hn : nfl 11 = 48 := rfl; omega) (dkL_ok d4) (fun φ2 ws2 H3 e3 w5 w6 dj3 => ?_)
  refine lv_dup hx hb (dkL_ok d5) rfl ?_
  have hC2 : CV 60 113 [vR 11 (some 0)] (mk hZ 11 0 48) (fun h' => RepR S0 h' ∧ jC h' = jC rM ∧ jZ h' = jZ rM) := D113 (d := 57) (fun h' r z1 z2 => ⟨r, z1, z2⟩)
  have c1 : jC (mk hZ 11 0 48) = 1 ∧ jZ (mk hZ 11 0 48) = 48 ∧ jN (mk hZ 11 0 48) 11 = 1 := ⟨rfl, rfl, rfl⟩
  obtain ⟨k1, k2, k3, k4⟩ := ini_113
  obtain ⟨m1, m2⟩ := rM_c
  refine two_i (own := "HeraldDeskLaw") (o := 11) (d := 60) (y := 113) hx hb hml hown hg (h := mk hZ 11 0 48) (φ := φ2) w5 w6 dj3 (fun _ h => h) (by decide) k2 k1 w_113 k3 k4 (by rw [c1.2.2]; decide) hC2 (by decide) (by decide) (fun h' z => ?_) hl.1 (Nat.le_of_ble_eq_true rfl) (dkL_ok d6) (fun h2 φ2' ws2' tys2' H4 locs4 z2 g2 e4 w7 w8 dj4 => ?_)
  · have z1 := z.2.1
    have z2 := z.2.2
    have hr1 : room_1.cells = 600000 := rfl
    have hr2 : room_1.slots = 7302250 := rfl
    have hn : nfl 11 = 48 := rfl
    omega
  obtain ⟨r2, b3, b4⟩ := z2
  have a3 := g2.2.1
  have a4 := g2.2.2
  have j2 : 0 < jN h2 11 := Nat.lt_of_lt_of_le (by rw [c1.2.2]; decide) (g2.1 11)
  refine W.cs (cells' := jC h1 + jC h2) (slots' := jZ h1 + jZ h2) (by have hn : nfl 11 = 48 := rfl; omega) (by have hn : nfl 11 = 48 := rfl; omega) ?_
  have q2e : φ2' 11 0 = φ2 11 0 := e4 11 0 (by rw [c1.2.2]; decide)
  refine lv_astore_n (lv' := [(2, .ref (φ2 11 0)), (1, .ref (φ1 10 0)), (0, .ref b)]) hx hb (dkL_ok d7) rfl hl (by decide) rfl (fun ls hl => ?_)
  refine lv_iconst (v := nI (6 * 0)) hx hb (dkL_ok d8) (by decide +kernel) ?_
  refine lv_istore_n (lv' := [(3, .int (nI (6 * 0))), (2, .ref (φ2 11 0)), (1, .ref (φ1 10 0)), (0, .ref b)]) hx hb (dkL_ok d9) rfl hl (by decide) rfl (fun ls hl => ?_)
  exact law_loop C0 hL 513 0 S0 h1 h2 H4 locs4 ls (by omega) (by omega) V_0 r1 r2 ⟨j1, j2, φ1', ws1', tys1', φ2', ws2', tys2', w8, w7, dj4.symm, q1e, q2e⟩ (by omega) (by omega) (by omega) (by omega) hl
