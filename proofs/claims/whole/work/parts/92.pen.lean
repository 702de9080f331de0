/-! WHAT IS WRITTEN of a shield: codes of words and commas, their bytes; the class's pen -/
def wdC (c : Nat) : List Int32 := VOC.getD c []
/-- a word with a blank before it where something stands already; 344 a comma -/
def putC (acc : List Int32) (c : Nat) : List Int32 := if c = 344 then acc ++ [44] else (if acc = [] then [] else acc ++ [32]) ++ wdC c
def renC (acc : List Int32) (cs : List Nat) : List Int32 := cs.foldl putC acc
theorem renC_app (acc : List Int32) (a b : List Nat) : renC acc (a ++ b) = renC (renC acc a) b := List.foldl_append
theorem renC_cons (acc : List Int32) (c : Nat) (b : List Nat) : renC acc (c :: b) = renC (putC acc c) b := rfl
theorem renC_nil (acc : List Int32) : renC acc [] = acc := rfl
theorem putC_le (acc : List Int32) (c : Nat) : acc.length ≤ (putC acc c).length := by
  unfold putC
  split
  · rw [List.length_append]; omega
  · split
    · rename_i z; rw [z]; exact Nat.zero_le _
    · rw [List.length_append, List.length_append]; omega
theorem renC_le : ∀ (cs : List Nat) (acc : List Int32), acc.length ≤ (renC acc cs).length
  | [], _ => Nat.le_refl _
  | c :: cs, acc => Nat.le_trans (putC_le acc c) (renC_le cs (putC acc c))
/-- a byte of what is written -/
def bOk (x : Int32) : Prop := ∃ j, 32 ≤ j ∧ j ≤ 122 ∧ x = nI j
theorem voc_b122 : VOC.all (fun w => w.all (fun x => decide (32 ≤ ix x) && decide (ix x ≤ 122) && decide (x = nI (ix x)))) = true := by decide +kernel
theorem wdC_ok (c : Nat) : ∀ x ∈ wdC c, bOk x := by
  intro x hx
  unfold wdC at hx
  rw [List.getD_eq_getElem?_getD] at hx
  cases e : VOC[c]? with
  | none => rw [e] at hx; exact absurd hx List.not_mem_nil
  | some w =>
    rw [e] at hx
    have hm := List.mem_of_getElem? e
    have h1 := List.all_eq_true.mp (List.all_eq_true.mp voc_b122 w hm) x hx
    simp only [Bool.and_eq_true, decide_eq_true_eq] at h1
    exact ⟨ix x, h1.1.1, h1.1.2, h1.2⟩
theorem nar_all : (List.range 123).all (fun j => decide (vp_nar .char (nI j) = nI j) && decide (vp_nar .byte ((nI j).toInt8.toInt32) = nI j) && decide (vp_nar .byte (nI j) = nI j) && decide (nI j &&& 255 = nI j)) = true := by decide +kernel
theorem nar_ok {x : Int32} (h : bOk x) : vp_nar .char x = x ∧ vp_nar .byte x.toInt8.toInt32 = x ∧ vp_nar .byte x = x ∧ x &&& 255 = x := by
  obtain ⟨j, h1, h2, e⟩ := h
  have := List.all_eq_true.mp nar_all j (List.mem_range.mpr (by omega))
  simp only [Bool.and_eq_true, decide_eq_true_eq] at this
  rw [e]
  exact ⟨this.1.1.1, this.1.1.2, this.1.2, this.2⟩
def XW : Nat → Nat → Nat → Prop := fun t a k => (t = 23 ∧ a = 2) ∨ (t = 4 ∧ a = 0 ∧ k = 1)
def PnS (h : Hp) : Prop := jR h 4 0 0 = some 2 ∧ jLen h 23 2 = 256
def PnC (h : Hp) (acc : List Int32) : Prop := acc.length ≤ 256 ∧ jI h 4 0 1 = nI acc.length ∧ (∀ i x, acc[i]? = some x → jI h 23 2 i = x) ∧ ∀ x ∈ acc, bOk x
/-- the class's pen over the heap h0: what stands on the row -/
def WrC (h0 h : Hp) (acc : List Int32) : Prop := EqX XW h0 h ∧ PnS h0 ∧ PnC h acc
theorem EqX.fr {X : Nat → Nat → Nat → Prop} {H G : Hp} (E : EqX X H G) : Fr X 0 0 H G := by
  obtain ⟨e1, e2, e3, e4, e5, e6, e7⟩ := E
  refine ⟨fun t => by rw [e1]; exact Nat.le_refl _, fun t a _ => by rw [e2], fun t a k _ hX => ⟨e7 t a k hX, by rw [e3], by rw [e4]⟩, by rw [e5]; exact Nat.le_refl _, by rw [e6]; exact Nat.le_refl _⟩
theorem s33 {d : Nat} {acc : List Int32} {x : Int32} {h0 h : Hp} {K : Hp → Prop} (W : WrC h0 h acc) (hl : acc.length < 256) (hx : bOk x) (k : ∀ h', WrC h0 h' (acc ++ [x]) → K h') : CV (d + 1) 33 [vR 4 (some 0), vI x] h K := by
  intro P hP
  obtain ⟨E, S, c1, c2, c3, c4⟩ := W
  have r0 : jR h 4 0 0 = some 2 := by rw [E.2.2.1]; exact S.1
  have l0 : jLen h 23 2 = 256 := by rw [E.2.1]; exact S.2
  have il : ix (nI acc.length) = acc.length := nI_clamp (by omega)
  refine v33 hP 0 x h (dr_of r0 ⟨fun c => absurd c ?_, fun _ => dr_of r0 ⟨?_, rfl, k _ ?_⟩⟩)
  · rw [l0, c2]; exact nI_ge (b := 256) hl (by decide)
  · rw [l0, c2]; exact vp_in_nI hl (by decide)
  · rw [(nar_ok hx).1, c2, il]
    refine ⟨(E.wI _ (Or.inl ⟨rfl, rfl⟩)).wI _ (Or.inr ⟨rfl, rfl, rfl⟩), S, ?_, ?_, fun i y hy => ?_, fun y hy => ?_⟩
    · rw [List.length_append]; exact hl
    · rw [jI_same, jI_t (by decide), c2, nI_1, List.length_append]; rfl
    · rw [jI_t (by decide)]
      by_cases e : i = acc.length
      · subst e
        rw [List.getElem?_append_right (Nat.le_refl _), Nat.sub_self] at hy
        rw [jI_same]
        exact Option.some.inj hy
      · rw [jI_k e]
        refine c3 i y ?_
        rw [← hy]
        refine (List.getElem?_append_left ?_).symm
        have hi := (List.getElem?_eq_some_iff.mp hy).1
        rw [List.length_append] at hi
        have : [x].length = 1 := rfl
        omega
    · rcases List.mem_append.mp hy with z | z
      · exact c4 y z
      · rw [List.mem_singleton.mp z]; exact hx
/-- the letters of word i, in the rest of a list of words behind p blanks -/
def wdI (i : Nat) : Nat → List Int32 → List Int32
  | _, [] => []
  | p, c :: r => if i < p then [] else if c = 32 then wdI i (p + 1) r else if p = i then c :: wdI i p r else wdI i p r
theorem p18 {d b i : Nat} {h0 : Hp} {K : Hp → Prop} {P : Nat → List AV → List AV → Hp → Prop} (hP : Cl (Call (d + 2)) 32 (fun v h' => v = none ∧ K h') P) (hb : (romB b).length < 2 ^ 20) (hi : i < 2 ^ 20) : ∀ (r : List Int32) (j p : Nat) (acc : List Int32) (h : Hp), (romB b).drop j = r → j ≤ (romB b).length → p ≤ j → WrC h0 h acc → (acc ++ wdI i p r).length ≤ 256 → (∀ x ∈ wdI i p r, bOk x) → (∀ h', WrC h0 h' (acc ++ wdI i p r) → K h') → P 18 [vR 4 (some 0), vR 40 (some b), vI (nI i), vI (nI p), vI (nI j)] [] h := by
  intro r
  induction r with
  | nil =>
    intro j p acc h hd hj hp W hl hx k
    have hlen : (romB b).length ≤ j := by
      have := congrArg List.length hd
      rw [List.length_drop] at this
      have e0 : ([] : List Int32).length = 0 := rfl
      omega
    refine v32_18 hP 0 (some b) (nI i) (nI p) (nI j) h (dr_of rfl (s228 ⟨fun _ => ⟨rfl, k h ?_⟩, fun c => absurd (nI_le hlen (by omega)) c⟩))
    show WrC h0 h (acc ++ [])
    rw [List.append_nil]; exact W
  | cons c r ih =>
    intro j p acc h hd hj hp W hl hx k
    have hlt : j < (romB b).length := by
      rcases Nat.lt_or_ge j (romB b).length with z | z
      · exact z
      · rw [List.drop_eq_nil_of_le z] at hd; cases hd
    have hc : (romB b).getD (ix (nI j)) 0 = c := by
      rw [show ix (nI j) = j from nI_clamp (by omega), List.getD_eq_getElem?_getD]
      have := congrArg (fun l => l[0]?) hd
      simp only [List.getElem?_drop, Nat.add_zero, List.getElem?_cons_zero] at this
      rw [this]
      rfl
    have hd2 : (romB b).drop (j + 1) = r := by
      have := congrArg List.tail hd
      rw [List.tail_drop] at this
      exact this
    unfold wdI at hl hx k
    refine v32_18 hP 0 (some b) (nI i) (nI p) (nI j) h (dr_of rfl (s228 ⟨fun z => absurd z (nI_ge hlt (by omega)), fun _ => ⟨fun c1 => ⟨rfl, k h ?_⟩, fun c1 => dr_of rfl (s230 (nI_pos (by omega)) (nI_lt hlt (by omega)) (vp_in_nI hlt (by omega)) ?_)⟩⟩))
    · rw [if_pos ((nI_ltI (by omega) (by omega)).mp c1), List.append_nil]; exact W
    · have c1 : ¬ i < p := fun z => c1 ((nI_ltI (by omega) (by omega)).mpr z)
      rw [hc]
      rw [if_neg c1] at hl hx k
      refine ⟨fun c2 => ⟨fun c3 => ?_, fun c3 => dr_of rfl (s230 (nI_pos (by omega)) (nI_lt hlt (by omega)) (vp_in_nI hlt (by omega)) ?_)⟩, fun c2 => ?_⟩
      · rw [if_neg c2, if_neg (fun e => c3 (by rw [e]))] at hl hx k
        rw [nI_1]
        exact ih (j + 1) p acc h hd2 (by omega) (by omega) W hl hx k
      · have c3 : p = i := (nI_eq (by omega) (by omega)).mp (Classical.not_not.mp c3)
        rw [if_neg c2, if_pos c3] at hl hx k
        rw [hc]
        have hl2 : acc.length < 256 := by
          rw [List.length_append, List.length_cons] at hl
          omega
        refine s33 W hl2 (hx c List.mem_cons_self) (fun h' W' => ?_)
        have e : acc ++ c :: wdI i p r = (acc ++ [c]) ++ wdI i p r := by rw [List.append_assoc]; rfl
        rw [e] at hl k
        rw [nI_1]
        exact ih (j + 1) p (acc ++ [c]) h' hd2 (by omega) (by omega) W' hl (fun x hx2 => hx x (List.mem_cons_of_mem _ hx2)) k
      · rw [if_pos (Classical.not_not.mp c2)] at hl hx k
        rw [nI_1, nI_1]
        exact ih (j + 1) (p + 1) acc h hd2 (by omega) (by omega) W hl hx k
theorem bOk32 : bOk 32 := ⟨32, by decide, by decide, rfl⟩
theorem bOk44 : bOk 44 := ⟨44, by decide, by decide, rfl⟩
theorem s32 {d b i c : Nat} {acc : List Int32} {h0 h : Hp} {K : Hp → Prop} (W : WrC h0 h acc) (hw : wdI i 0 (romB b) = wdC c) (hc : ¬ c = 344) (hi : i < 2 ^ 20) (hl : (putC acc c).length ≤ 256) (k : ∀ h', WrC h0 h' (putC acc c) → K h') : CV (d + 3) 32 [vR 4 (some 0), vR 40 (some b), vI (nI i)] h K := by
  intro P hP
  unfold putC at hl k
  rw [if_neg hc] at hl k
  have e1 := W.2.2.2.1
  have e0 := W.2.2.1
  refine v32 hP 0 (some b) (nI i) h ⟨fun c1 => ?_, fun c1 => ?_⟩
  · have z : acc = [] := by
      rw [e1] at c1
      have := (nI_leI (b := 0) (by omega) (by decide)).mp c1
      exact List.eq_nil_of_length_eq_zero (by omega)
    rw [if_pos z, ← z] at hl k
    exact p18 hP (rom_len b) hi (romB b) 0 0 acc h rfl (Nat.zero_le _) (Nat.le_refl _) W (by rw [hw]; exact hl) (by rw [hw]; exact wdC_ok c) (by rw [hw]; exact k)
  · have z : ¬ acc = [] := by
      intro z
      rw [e1, z] at c1
      exact c1 (by decide)
    rw [if_neg z] at hl k
    have hl2 : acc.length < 256 := by
      rw [List.length_append, List.length_append] at hl
      have : [(32 : Int32)].length = 1 := rfl
      omega
    exact s33 W hl2 bOk32 (fun h' W' => p18 hP (rom_len b) hi (romB b) 0 0 _ h' rfl (Nat.zero_le _) (Nat.le_refl _) W' (by rw [hw]; exact hl) (by rw [hw]; exact wdC_ok c) (by rw [hw]; exact k))
theorem s33c {d : Nat} {acc : List Int32} {h0 h : Hp} {K : Hp → Prop} (W : WrC h0 h acc) (hl : (putC acc 344).length ≤ 256) (k : ∀ h', WrC h0 h' (putC acc 344) → K h') : CV (d + 1) 33 [vR 4 (some 0), vI 44] h K := by
  unfold putC at hl k
  rw [if_pos rfl] at hl k
  refine s33 W ?_ bOk44 k
  rw [List.length_append] at hl
  exact hl
/-- the words that the pen takes out of its lists -/
theorem wd_all : ((List.range 9).all (fun i => decide (wdI i 0 (romB 6) = wdC i)) && (List.range 6).all (fun i => decide (wdI i 0 (romB 4) = wdC (70 + i))) && (List.range 6).all (fun i => decide (wdI i 0 (romB 11) = wdC (54 + i))) && (List.range 5).all (fun i => decide (wdI i 0 (romB 12) = wdC (60 + i))) && (List.range 31).all (fun i => decide (wdI i 0 (romB 13) = wdC (9 + i))) && (List.range 14).all (fun i => decide (wdI i 0 (romB 14) = wdC (40 + i))) && (List.range 5).all (fun i => decide (wdI i 0 (romB 15) = wdC (65 + i)))) = true := by decide +kernel
theorem wd_one : wdI 0 0 (romB 7) = wdC 78 ∧ wdI 0 0 (romB 8) = wdC 79 ∧ wdI 1 0 (romB 8) = wdC 80 ∧ wdI 0 0 (romB 9) = wdC 76 ∧ wdI 0 0 (romB 10) = wdC 77 ∧ wdI 1 0 (romB 10) = wdC 81 ∧ wdI 0 0 (romB 5) = wdC 17 ∧ wdI 1 0 (romB 5) = wdC 18 ∧ wdI 2 0 (romB 5) = wdC 19 ∧ wdI 3 0 (romB 5) = wdC 20 ∧ wdI 4 0 (romB 5) = wdC 22 := by decide +kernel
