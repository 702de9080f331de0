/-! the reference's pen -/
def XV : Nat → Nat → Nat → Prop := fun t a k => (t = 22 ∧ a = 2) ∨ (t = 11 ∧ a = 0 ∧ k = 17)
def RnC (h : Hp) (acc : List Int32) : Prop := acc.length ≤ 256 ∧ jI h 11 0 17 = nI acc.length ∧ (∀ i x, acc[i]? = some x → jI h 22 2 i = x) ∧ ∀ x ∈ acc, bOk x
def WrR (h0 h : Hp) (acc : List Int32) : Prop := EqX XV h0 h ∧ RSh h0 ∧ RnC h acc
theorem WrR.put {h0 h : Hp} {acc : List Int32} {x : Int32} (W : WrR h0 h acc) (hl : acc.length < 256) (hx : bOk x) : WrR h0 (wI (wI h 22 2 acc.length x) 11 0 17 (nI acc.length + 1)) (acc ++ [x]) := by
  obtain ⟨E, S, c1, c2, c3, c4⟩ := W
  refine ⟨(E.wI _ (Or.inl ⟨rfl, rfl⟩)).wI _ (Or.inr ⟨rfl, rfl, rfl⟩), S, ?_, ?_, fun i y hy => ?_, fun y hy => ?_⟩
  · rw [List.length_append]; exact hl
  · rw [jI_same, nI_1, List.length_append]; rfl
  · rw [jI_t (by decide)]
    by_cases e : i = acc.length
    · subst e
      rw [List.getElem?_append_right (Nat.le_refl _), Nat.sub_self] at hy
      rw [jI_same]
      exact Option.some.inj hy
    · rw [jI_k e]
      refine c3 i y ?_
      rw [← hy]
      refine (List.getElem?_append_left ?_).symm
      have hi := (List.getElem?_eq_some_iff.mp hy).1
      rw [List.length_append] at hi
      have : [x].length = 1 := rfl
      omega
  · rcases List.mem_append.mp hy with z | z
    · exact c4 y z
    · rw [List.mem_singleton.mp z]; exact hx
theorem WrR.rd {h0 h : Hp} {acc : List Int32} (W : WrR h0 h acc) : jR h 11 0 16 = some 2 ∧ jLen h 22 2 = 700 ∧ jI h 11 0 17 = nI acc.length ∧ acc.length ≤ 256 := by
  have S := W.1.sh W.2.1
  exact ⟨S.r16, S.n16, W.2.2.2.1, W.2.2.1⟩
theorem s161 {d : Nat} {acc : List Int32} {h0 h : Hp} {K : Hp → Prop} (W : WrR h0 h acc) (hl : acc.length < 256) (k : ∀ h', WrR h0 h' (acc ++ [32]) → K h') : CV (d + 1) 161 [vR 11 (some 0)] h K := by
  intro P hP
  obtain ⟨r1, r2, r3, r4⟩ := W.rd
  refine v161 hP 0 h (dr_of r1 ⟨by rw [r2, r3]; exact vp_in_nI (by omega) (by decide), rfl, k _ ?_⟩)
  rw [jI_t (by decide), (nar_ok bOk32).2.2.1, r3, ix_nI (by omega)]
  exact W.put hl bOk32
theorem s164 {d : Nat} {acc : List Int32} {h0 h : Hp} {K : Hp → Prop} (W : WrR h0 h acc) (hl : (putC acc 344).length ≤ 256) (k : ∀ h', WrR h0 h' (putC acc 344) → K h') : CV (d + 1) 164 [vR 11 (some 0)] h K := by
  intro P hP
  unfold putC at hl k
  rw [if_pos rfl] at hl k
  rw [List.length_append] at hl
  obtain ⟨r1, r2, r3, r4⟩ := W.rd
  refine v164 hP 0 h (dr_of r1 ⟨by rw [r2, r3]; exact vp_in_nI (by omega) (by decide), rfl, k _ ?_⟩)
  rw [jI_t (by decide), (nar_ok bOk44).2.2.1, r3, ix_nI (by omega)]
  exact W.put hl bOk44
/-- the letters of a word in a long -/
def ltB (w : Int64) (m : Nat) : Int32 := ((w >>> ((nI (8 * m)).toInt64 &&& 63)) &&& 255).toInt32
def ltN (w : Int64) : Nat → List Int32
  | 0 => []
  | m + 1 => (if ltB w m = 0 then [] else [ltB w m]) ++ ltN w m
theorem nI_8 (m : Nat) : nI (8 * (m + 1)) + (-8) = nI (8 * m) := by
  rw [show 8 * (m + 1) = 8 * m + 8 by omega, ← nI_add, Int32.add_assoc, show nI 8 + (-8) = 0 by decide, Int32.add_zero]
theorem p160 {d : Nat} {w : Int64} {h0 : Hp} {K : Hp → Prop} {P : Nat → List AV → List AV → Hp → Prop} (hP : Cl (Call d) 160 (fun v h' => v = none ∧ K h') P) : ∀ (m : Nat) (acc : List Int32) (w4 : AV) (h : Hp), m ≤ 8 → WrR h0 h acc → (acc ++ ltN w m).length ≤ 256 → (∀ x ∈ ltN w m, bOk x) → (∀ h', WrR h0 h' (acc ++ ltN w m) → K h') → P 3 [vR 11 (some 0), vL w, un, vI (nI (8 * m) + (-8)), w4] [] h
  | 0, acc, w4, h, hm, W, hl, hx, k => by
    refine v160_3 hP 0 w (nI (8 * 0) + (-8)) w4 h ⟨fun _ => ⟨rfl, k h ?_⟩, fun c => absurd (by decide) c⟩
    show WrR h0 h (acc ++ [])
    rw [List.append_nil]; exact W
  | m + 1, acc, w4, h, hm, W, hl, hx, k => by
    unfold ltN at hl hx k
    rw [nI_8]
    obtain ⟨r1, r2, r3, r4⟩ := W.rd
    refine v160_3 hP 0 w (nI (8 * m)) w4 h ⟨fun c => absurd c (nI_pos (by omega)), fun _ => ⟨fun c => ?_, fun c => dr_of r1 ⟨by rw [r2, r3]; exact vp_in_nI (by omega) (by decide), fun h2 e2 => ?_⟩⟩⟩
    · have c : ltB w m = 0 := c
      rw [if_pos c] at hl hx k
      exact p160 hP m acc _ h (by omega) W hl hx k
    · have c : ¬ ltB w m = 0 := c
      rw [if_neg c] at hl hx k
      have hb := hx (ltB w m) (List.mem_append_left _ List.mem_cons_self)
      rw [← List.append_assoc] at hl k
      have hl2 : acc.length < 256 := by
        rw [List.length_append, List.length_append] at hl
        have : [ltB w m].length = 1 := rfl
        omega
      refine p160 hP m (acc ++ [ltB w m]) _ h2 (by omega) ?_ hl (fun x z => hx x (List.mem_append_right _ z)) k
      have e3 : vp_nar .byte ((((w >>> ((nI (8 * m)).toInt64 &&& 63)) &&& 255).toInt32).toInt8.toInt32) = ltB w m := (nar_ok hb).2.1
      rw [e2, e3, jI_t (by decide), r3, ix_nI (by omega)]
      exact W.put hl2 hb
/-- letters(w) -/
theorem s160 {d : Nat} {w : Int64} {acc X : List Int32} {h0 h : Hp} {K : Hp → Prop} (W : WrR h0 h acc) (hw : ltN w 8 = X) (hx : ∀ x ∈ X, bOk x) (hl : (acc ++ X).length ≤ 256) (k : ∀ h', WrR h0 h' (acc ++ X) → K h') : CV (d + 1) 160 [vR 11 (some 0), vL w] h K := by
  subst hw
  exact fun P hP => v160 hP 0 w h (p160 hP 8 acc un h (Nat.le_refl _) W hl hx k)
/-- says(w) -/
theorem s162 {d : Nat} {w : Int64} {acc X : List Int32} {h0 h : Hp} {K : Hp → Prop} (W : WrR h0 h acc) (hw : ltN w 8 = X) (hx : ∀ x ∈ X, bOk x) (hl : (acc ++ [32] ++ X).length ≤ 256) (k : ∀ h', WrR h0 h' (acc ++ [32] ++ X) → K h') : CV (d + 2) 162 [vR 11 (some 0), vL w] h K := by
  have hl2 : acc.length < 256 := by
    rw [List.length_append, List.length_append] at hl
    have : [(32 : Int32)].length = 1 := rfl
    omega
  exact fun P hP => v162 hP 0 w h (s161 W hl2 (fun h' W' => s160 W' hw hx hl (fun h2 W2 => ⟨rfl, k h2 W2⟩)))
/-- says a whole word -/
theorem sayW {d c : Nat} {w : Int64} {acc : List Int32} {h0 h : Hp} {K : Hp → Prop} (W : WrR h0 h acc) (hn : ¬ acc = []) (hw : ltN w 8 = wdC c) (hc : ¬ c = 344) (hl : (putC acc c).length ≤ 256) (k : ∀ h', WrR h0 h' (putC acc c) → K h') : CV (d + 2) 162 [vR 11 (some 0), vL w] h K := by
  unfold putC at hl k
  rw [if_neg hc, if_neg hn] at hl k
  exact s162 W hw (wdC_ok c) hl k
theorem sayWs {d c : Nat} {w w2 : Int64} {acc : List Int32} {h0 h : Hp} {K : Hp → Prop} (W : WrR h0 h acc) (hn : ¬ acc = []) (hw : ltN w 8 ++ ltN w2 8 = wdC c) (hc : ¬ c = 344) (hl : (putC acc c).length ≤ 256) (k : ∀ h', WrR h0 h' (putC acc c) → K h') : CV (d + 2) 162 [vR 11 (some 0), vL w] h (fun h1 => CV (d + 2) 160 [vR 11 (some 0), vL w2] h1 K) := by
  unfold putC at hl k
  rw [if_neg hc, if_neg hn, ← hw, ← List.append_assoc] at hl k
  have hx : ∀ x, (x ∈ ltN w 8 ∨ x ∈ ltN w2 8) → bOk x := fun x z => wdC_ok c x (by rw [← hw]; exact List.mem_append.mpr z)
  refine s162 W rfl (fun x z => hx x (Or.inl z)) ?_ (fun h' W' => s160 W' rfl (fun x z => hx x (Or.inr z)) hl k)
  rw [List.length_append] at hl
  omega
theorem putC_ne {acc : List Int32} {c : Nat} (h : ¬ acc = []) : ¬ putC acc c = [] := by
  intro e
  have := putC_le acc c
  rw [e] at this
  exact h (List.eq_nil_of_length_eq_zero (Nat.le_zero.mp this))
theorem renC_ne {acc : List Int32} {cs : List Nat} (h : ¬ acc = []) : ¬ renC acc cs = [] := by
  intro e
  have := renC_le cs acc
  rw [e] at this
  exact h (List.eq_nil_of_length_eq_zero (Nat.le_zero.mp this))
/-! the words of the reference -/
theorem lt_tin : (List.range 9).all (fun t => decide (ltN (tinL.getD t 0) 8 = wdC t)) = true := by decide +kernel
theorem lt_kin : (List.range 31).all (fun t => decide (ltN (kinL.getD t 0) 8 = wdC (9 + t))) = true := by decide +kernel
theorem lt_nmb : (List.range 6).all (fun t => decide (ltN (nmbL.getD (t + 1) 0) 8 = wdC (53 + (t + 1)))) = true := by decide +kernel
theorem lt_att : (List.range 5).all (fun t => decide (ltN (attL.getD (t + 1) 0) 8 ++ (if t = 3 then [100] else []) = wdC (59 + (t + 1)))) = true := by decide +kernel
theorem lt_dut : (List.range 5).all (fun t => decide (ltN (dutL.getD t 0) 8 = wdC (65 + t))) = true := by decide +kernel
theorem lt_prt : (List.range 10).all (fun t => decide (ltN (prtL.getD (t + 1) 0) 8 ++ (if t = 5 then [121] else []) = wdC (if t + 1 ≤ 5 then lnC (t + 1) else 65 + (t + 1)))) = true := by decide +kernel
theorem lt_many : (List.range 14).all (fun t => decide (t = 6) || decide (ltN (kinL.getD (t + 16) 0) 8 ++ [115] = wdC (24 + (t + 16)))) = true := by decide +kernel
theorem lt_one : ltN 119200046212467 8 = wdC 46 ∧ ltN 6385252 8 = wdC 78 ∧ ltN 7366002 8 = wdC 70 ∧ ltN 27980790434850148 8 = wdC 79 ∧ ltN 2003399784 8 = wdC 80 ∧ ltN 131294808271214 8 = wdC 76 ∧ ltN 6713202 8 = wdC 77 ∧ ltN 7235426866322105710 8 ++ ltN 25445 8 = wdC 81 ∧ ltN 97 8 = wdC 54 ∧ ltN 121 8 = [121] ∧ ltN 115 8 = [115] ∧ ltN 100 8 = [100] := by decide +kernel
theorem voc_ne : (List.range 92).all (fun c => decide (wdC c ≠ [])) = true := by decide +kernel
theorem wdC_ne {c : Nat} (h : c < 92) : wdC c ≠ [] := of_decide_eq_true (List.all_eq_true.mp voc_ne c (List.mem_range.mpr h))
theorem ltT {t : Nat} (h : t < 9) : ltN (tinL.getD t 0) 8 = wdC t := of_decide_eq_true (List.all_eq_true.mp lt_tin t (List.mem_range.mpr h))
theorem ltK {t : Nat} (h : t ≤ 30) : ltN (kinL.getD t 0) 8 = wdC (9 + t) := of_decide_eq_true (List.all_eq_true.mp lt_kin t (List.mem_range.mpr (by omega)))
theorem ltM {t : Nat} (h1 : 1 ≤ t) (h : t ≤ 6) : ltN (nmbL.getD t 0) 8 = wdC (53 + t) := by
  obtain ⟨u, rfl⟩ : ∃ u, t = u + 1 := ⟨t - 1, by omega⟩
  exact of_decide_eq_true (List.all_eq_true.mp lt_nmb u (List.mem_range.mpr (by omega)))
theorem ltD {t : Nat} (h : t < 5) : ltN (dutL.getD t 0) 8 = wdC (65 + t) := of_decide_eq_true (List.all_eq_true.mp lt_dut t (List.mem_range.mpr h))
theorem ltA {t : Nat} (h1 : 1 ≤ t) (h : t ≤ 5) : ltN (attL.getD t 0) 8 ++ (if t = 4 then [100] else []) = wdC (59 + t) := by
  obtain ⟨u, rfl⟩ : ∃ u, t = u + 1 := ⟨t - 1, by omega⟩
  have := of_decide_eq_true (List.all_eq_true.mp lt_att u (List.mem_range.mpr (by omega)))
  rw [← this]
  congr 1
  by_cases z : u = 3
  · rw [if_pos z, if_pos (by omega)]
  · rw [if_neg z, if_neg (by omega)]
theorem ltP {t : Nat} (h1 : 1 ≤ t) (h : t ≤ 10) : ltN (prtL.getD t 0) 8 ++ (if t = 6 then [121] else []) = wdC (if t ≤ 5 then lnC t else 65 + t) := by
  obtain ⟨u, rfl⟩ : ∃ u, t = u + 1 := ⟨t - 1, by omega⟩
  have := of_decide_eq_true (List.all_eq_true.mp lt_prt u (List.mem_range.mpr (by omega)))
  rw [← this]
  congr 1
  by_cases z : u = 5
  · rw [if_pos z, if_pos (by omega)]
  · rw [if_neg z, if_neg (by omega)]
theorem ltG {t : Nat} (h1 : 16 ≤ t) (h : t ≤ 29) (hn : ¬ t = 22) : ltN (kinL.getD t 0) 8 ++ ltN 115 8 = wdC (24 + t) := by
  obtain ⟨u, rfl⟩ : ∃ u, t = u + 16 := ⟨t - 16, by omega⟩
  have := List.all_eq_true.mp lt_many u (List.mem_range.mpr (by omega))
  simp only [Bool.or_eq_true, decide_eq_true_eq] at this
  rcases this with z | z
  · omega
  · rw [lt_one.2.2.2.2.2.2.2.2.2.2.1]; exact z
