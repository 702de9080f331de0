/-! the reference's charges -/
theorem s150 {d : Nat} {x : Int32} {h : Hp} {K : Int32 → Hp → Prop} (k : K (famS x) h) : CI (d + 1) 150 [vI x] h K := by
  intro P hP
  unfold famS at k
  refine v150 hP x h ⟨fun c0 => ⟨fun c1 => ⟨fun c2 => ⟨fun c3 => ⟨fun c4 => ⟨fun c5 => ⟨fun c6 => ⟨_, rfl, ?_⟩, fun c6 => ⟨_, rfl, ?_⟩⟩, fun c5 => ⟨_, rfl, ?_⟩⟩, fun c4 => ⟨_, rfl, ?_⟩⟩, fun c3 => ⟨_, rfl, ?_⟩⟩, fun c2 => ⟨_, rfl, ?_⟩⟩, fun c1 => ⟨_, rfl, ?_⟩⟩, fun c0 => ⟨_, rfl, ?_⟩⟩
  · rw [if_neg c0, if_pos c1, if_pos c2, if_pos c3, if_pos c4, if_pos c5, if_pos c6] at k; exact k
  · rw [if_neg c0, if_pos c1, if_pos c2, if_pos c3, if_pos c4, if_pos c5, if_neg c6] at k; exact k
  · rw [if_neg c0, if_pos c1, if_pos c2, if_pos c3, if_pos c4, if_neg c5] at k; exact k
  · rw [if_neg c0, if_pos c1, if_pos c2, if_pos c3, if_neg c4] at k; exact k
  · rw [if_neg c0, if_pos c1, if_pos c2, if_neg c3] at k; exact k
  · rw [if_neg c0, if_pos c1, if_neg c2] at k; exact k
  · rw [if_neg c0, if_neg c1] at k; exact k
  · rw [if_pos (Classical.not_not.mp c0)] at k; exact k
/-- is x in a family, along so many families -/
def inF : Nat → Int32 → Int32 → Bool
  | 0, x, f => decide (x = f)
  | m + 1, x, f => if x = -1 ∨ x = f then decide (x = f) else inF m (famS x) f
def fmN : Nat → Int32 → Int32
  | 0, x => x
  | m + 1, x => fmN m (famS x)
theorem in149 {d : Nat} {l0 f : Int32} {h : Hp} {K : Int32 → Hp → Prop} {P : Nat → List AV → List AV → Hp → Prop} (hP : Cl (Call (d + 1)) 149 (fun v h' => ∃ x, v = some (vI x) ∧ K x h') P) : ∀ (m : Nat) (x : Int32), (fmN m x = -1) → K (bi (inF m x f)) h → P 2 [vI l0, vI f, vI x] [] h
  | 0, x, hx, k => by
    have hx : x = -1 := hx
    have k : K (bi (decide (x = f))) h := k
    refine v149_2 hP l0 f x h ⟨fun _ => ⟨fun c => ⟨_, rfl, ?_⟩, fun c => ⟨_, rfl, ?_⟩⟩, fun c => absurd hx c⟩
    · rw [decide_eq_false c] at k; exact k
    · rw [decide_eq_true (Classical.not_not.mp c)] at k; exact k
  | m + 1, x, hx, k => by
    unfold inF at k
    refine v149_2 hP l0 f x h ⟨fun c0 => ⟨fun c => ⟨_, rfl, ?_⟩, fun c => ⟨_, rfl, ?_⟩⟩, fun c0 => ⟨fun c1 => ⟨fun c => absurd c1 c, fun _ => ⟨_, rfl, ?_⟩⟩, fun c1 => s150 ?_⟩⟩
    · rw [if_pos (Or.inl c0), decide_eq_false c] at k; exact k
    · rw [if_pos (Or.inl c0), decide_eq_true (Classical.not_not.mp c)] at k; exact k
    · rw [if_pos (Or.inr c1), decide_eq_true c1] at k; exact k
    · rw [if_neg (fun z => by rcases z with z | z; exact c0 z; exact c1 z)] at k
      refine in149 hP m (famS x) ?_ k
      exact hx
theorem rep_fam : (List.range 15).all (fun k => decide (fmN 4 (nI (k + 16)) = -1)) = true := by decide +kernel
theorem s149 {d k : Nat} {f : Int32} {h : Hp} {K : Int32 → Hp → Prop} (h1 : 16 ≤ k) (h2 : k ≤ 30) (kk : K (bi (inF 4 (nI k) f)) h) : CI (d + 2) 149 [vI (nI k), vI f] h K := fun P hP => v149 hP (nI k) f h (in149 hP 4 (nI k) (by
  have := of_decide_eq_true (all_r rep_fam (show k - 16 < 15 by omega))
  rw [show k - 16 + 16 = k by omega] at this
  exact this) kk)
theorem in3_all : (List.range 14).all (fun k => inF 4 (nI (k + 16)) 3 == decide (k + 16 ≤ 18)) = true := by decide +kernel
theorem in3 {k : Nat} (h1 : 16 ≤ k) (h2 : k ≤ 29) : inF 4 (nI k) 3 = decide (k ≤ 18) := by
  have := all_r in3_all (show k - 16 < 14 by omega)
  rw [show k - 16 + 16 = k by omega] at this
  exact eq_of_beq this
theorem had_all : (List.range 5).all (fun d => (List.range 14).all (fun k => haD (k + 16) d == (if d = 0 then (decide (nI (k + 16) = 16) || decide (nI (k + 16) = 17) || decide (nI (k + 16) = 19)) else if d = 1 then decide (nI (k + 16) = 18) else if d = 2 then (decide (nI (k + 16) = 16) || decide (nI (k + 16) = 19)) else if d = 3 then decide (nI (k + 16) = 21) else decide (nI (k + 16) = 29)))) = true := by decide +kernel
theorem had_eq {k d : Nat} (h1 : 16 ≤ k) (h2 : k ≤ 29) (hd : d < 5) : haD k d = (if d = 0 then (decide (nI k = 16) || decide (nI k = 17) || decide (nI k = 19)) else if d = 1 then decide (nI k = 18) else if d = 2 then (decide (nI k = 16) || decide (nI k = 19)) else if d = 3 then decide (nI k = 21) else decide (nI k = 29)) := by
  have := all_r (all_r had_all hd) (show k - 16 < 14 by omega)
  rw [show k - 16 + 16 = k by omega] at this
  exact eq_of_beq this
/-- hasDuty(kind, d) -/
theorem s153 {d k t : Nat} {h : Hp} {K : Int32 → Hp → Prop} (h1 : 16 ≤ k) (h2 : k ≤ 29) (ht : t < 5) (kk : K (bi (haD k t)) h) : CI (d + 1) 153 [vI (nI k), vI (nI t)] h K := by
  intro P hP
  rw [had_eq h1 h2 ht] at kk
  have hc : t = 0 ∨ t = 1 ∨ t = 2 ∨ t = 3 ∨ t = 4 := by omega
  rcases hc with rfl | rfl | rfl | rfl | rfl
  · refine v153 hP (nI k) 0 h ⟨fun _ => ⟨fun c => ⟨_, rfl, ?_⟩, fun c => ⟨fun c2 => ⟨_, rfl, ?_⟩, fun c2 => ⟨fun c3 => ⟨_, rfl, ?_⟩, fun c3 => ⟨_, rfl, ?_⟩⟩⟩⟩, fun z => absurd rfl z⟩
    · simpa [bi, c] using kk
    · simpa [bi, c, c2] using kk
    · simpa [bi, c, c2, c3] using kk
    · simpa [bi, c, c2, Classical.not_not.mp c3] using kk
  · refine v153 hP (nI k) 1 h ⟨fun z => absurd z (by decide), fun _ => ⟨fun _ => ⟨fun c => ⟨_, rfl, ?_⟩, fun c => ⟨_, rfl, ?_⟩⟩, fun z => absurd rfl z⟩⟩
    · simpa [bi, c] using kk
    · simpa [bi, Classical.not_not.mp c] using kk
  · refine v153 hP (nI k) 2 h ⟨fun z => absurd z (by decide), fun _ => ⟨fun z => absurd z (by decide), fun _ => ⟨fun _ => ⟨fun c => ⟨_, rfl, ?_⟩, fun c => ⟨fun c2 => ⟨_, rfl, ?_⟩, fun c2 => ⟨_, rfl, ?_⟩⟩⟩, fun z => absurd rfl z⟩⟩⟩
    · simpa [bi, c] using kk
    · simpa [bi, c, c2] using kk
    · simpa [bi, c, Classical.not_not.mp c2] using kk
  · refine v153 hP (nI k) 3 h ⟨fun z => absurd z (by decide), fun _ => ⟨fun z => absurd z (by decide), fun _ => ⟨fun z => absurd z (by decide), fun _ => ⟨fun _ => ⟨fun c => ⟨_, rfl, ?_⟩, fun c => ⟨_, rfl, ?_⟩⟩, fun z => absurd rfl z⟩⟩⟩⟩
    · simpa [bi, c] using kk
    · simpa [bi, Classical.not_not.mp c] using kk
  · refine v153 hP (nI k) 4 h ⟨fun z => absurd z (by decide), fun _ => ⟨fun z => absurd z (by decide), fun _ => ⟨fun z => absurd z (by decide), fun _ => ⟨fun z => absurd z (by decide), fun _ => ⟨fun c => ⟨_, rfl, ?_⟩, fun c => ⟨_, rfl, ?_⟩⟩⟩⟩⟩⟩
    · simpa [bi, c] using kk
    · simpa [bi, Classical.not_not.mp c] using kk
theorem RtN.part {H h : Hp} {n p k pl i : Nat} {tx : Nat → Int32} {sh r : Nat → Int32} (R : RtN (rowH H k (putS sh pl r)) h 0 1 n tx p) (v : Int32) (hpl : pl < 7) (hi : i < 9) : RtN (rowH H k (putS sh pl (st r i v))) (_root_.Jvm.Pilot.CHeraldDeskLaw_law_r4028_bc851c.wI h 21 3 (63 * k + (9 * pl + i)) v) 0 1 n tx p := by
  have R2 := R.wI (t := 21) 3 (63 * k + (9 * pl + i)) v (by decide) (by decide)
  rw [row_w3 _ _ _ _ (by omega), put_st _ _ _ _ hi] at R2
  exact R2
theorem RtN.partR {H h : Hp} {n p k pl i : Nat} {tx : Nat → Int32} {sh r : Nat → Int32} (R : RtN (rowH H k (putS sh pl r)) h 0 1 n tx p) (hpl : pl < 7) (hi : i < 9) : jI h 21 3 (63 * k + (9 * pl + i)) = r i := by
  rw [R.I (by decide), row_r3 _ _ _ (by omega), put_r _ _ _ hi]
theorem vp3843 {k pl i : Nat} {g : Hp} (hk : k ≤ 60) (hpl : pl < 7) (hi : i < 9) (e : jLen g 21 3 = 3843) : vp_in (nI (63 * k + (9 * pl + i))) (jLen g 21 3) := by
  rw [e]; exact vp_in_nI (by omega) (by decide)
