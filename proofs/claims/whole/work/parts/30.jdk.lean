/-! THE JDK's methods over String constants -/
theorem rom_all : txbL.all (fun l => l.all (fun x => decide (((x &&& 255).toUInt32 % 65536).toInt32 = x) && decide (narrow .char (.int x) = .int x))) = true := by decide +kernel
theorem rom_at (a j : Nat) : (romB a).getD j 0 = 0 ∨ ∃ l ∈ txbL, (romB a).getD j 0 ∈ l := by
  unfold romB
  rw [List.getD_eq_getElem?_getD (l := txbL)]
  cases hl : txbL[a]? with
  | none => exact Or.inl rfl
  | some l =>
    rw [List.getD_eq_getElem?_getD]
    show l[j]?.getD 0 = 0 ∨ _
    cases hj : l[j]? with
    | none => exact Or.inl rfl
    | some x =>
      refine Or.inr ⟨l, List.mem_of_getElem? hl, ?_⟩
      show l[j]?.getD 0 ∈ l
      rw [hj]
      exact List.mem_of_getElem? hj
theorem rom_ch (a j : Nat) : ((((romB a).getD j 0) &&& 255).toUInt32 % 65536).toInt32 = (romB a).getD j 0 ∧ narrow .char (.int ((romB a).getD j 0)) = .int ((romB a).getD j 0) := by
  rcases rom_at a j with h | ⟨l, h1, h2⟩
  · rw [h]; decide +kernel
  · have := List.all_eq_true.mp (List.all_eq_true.mp rom_all l h1) _ h2
    simp only [Bool.and_eq_true, decide_eq_true_eq] at this
    exact this
theorem s227 {d a : Nat} {h : Hp} {K : Int32 → Hp → Prop} (k : K 1 h) : CI (d + 1) 227 [vR 40 (some a)] h K := fun P hP => v227 hP a h ⟨_, rfl, k⟩
theorem s229 {d a : Nat} {h : Hp} {K : Int32 → Hp → Prop} (k : K 0 h) : CI (d + 1) 229 [vR 40 (some a)] h K := fun P hP => v229 hP a h ⟨_, rfl, k⟩
theorem s228 {d a : Nat} {h : Hp} {K : Int32 → Hp → Prop} (k : K (nI (romB a).length) h) : CI (d + 2) 228 [vR 40 (some a)] h K := fun P hP => v228 hP a h (s229 ⟨_, rfl, by
  have e : Int32.ofNat (romB a).length >>> ((0 : Int32) &&& 31) = nI (romB a).length := sb_shr0 _
  rw [e]; exact k⟩)
theorem s235 {d a : Nat} {i : Int32} {h : Hp} {K : Int32 → Hp → Prop} (h1 : ¬ i < 0) (h2 : i < nI (romB a).length) (h3 : vp_in i (romB a).length) (k : K ((romB a).getD (ix i) 0) h) : CI (d + 1) 235 [vR 41 (some a), vI i] h K := fun P hP => v235 hP (some a) i h ⟨⟨h1, h2⟩, h3, by
  rw [(rom_ch a (ix i)).1]
  exact ⟨(rom_ch a (ix i)).2, _, rfl, k⟩⟩
theorem s230 {d a : Nat} {i : Int32} {h : Hp} {K : Int32 → Hp → Prop} (h1 : ¬ i < 0) (h2 : i < nI (romB a).length) (h3 : vp_in i (romB a).length) (k : K ((romB a).getD (ix i) 0) h) : CI (d + 2) 230 [vR 40 (some a), vI i] h K := fun P hP => v230 hP a i h (s227 ⟨fun c => absurd c (by decide), fun _ => s235 h1 h2 h3 ⟨(rom_ch a (ix i)).2, _, rfl, k⟩⟩)
theorem s237 {d : Nat} {x : Int32} {h : Hp} {K : Int32 → Hp → Prop} (k : K (bi (inS 0 255 x)) h) : CI (d + 1) 237 [vI x] h K := by
  intro P hP
  refine v237 hP x h ⟨fun c => ⟨_, rfl, ?_⟩, fun c => ⟨fun c2 => ⟨_, rfl, ?_⟩, fun c2 => ⟨_, rfl, ?_⟩⟩⟩
  · simpa [bi, inS, c] using k
  · simpa [bi, inS, c, c2] using k
  · simpa [bi, inS, c, c2] using k
