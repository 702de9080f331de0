/-! letters of a word as one number -/
theorem inS_ix {c : Int32} (h : inS 97 122 c = true) : 97 ≤ ix c ∧ ix c ≤ 122 ∧ c = nI (ix c) := by
  unfold inS at h
  simp only [Bool.and_eq_true, Bool.not_eq_true', decide_eq_false_iff_not] at h
  have h1 := h.1
  have h2 := h.2
  simp only [Int32.lt_iff_toInt_lt, Int32.reduceToInt] at h1 h2
  have e : c = nI c.toInt.toNat := by
    rw [← Int32.toInt_inj, nI_toInt (by omega)]
    omega
  have e2 : ix c = c.toInt.toNat := by
    rw [e, nI_toInt (by omega)]
    show ix (nI _) = _
    rw [show ix (nI c.toInt.toNat) = c.toInt.toNat from nI_clamp (by omega)]
    omega
  rw [e2]
  exact ⟨by omega, by omega, e⟩
def bvR : List Int32 → Nat
  | [] => 0
  | c :: r => bvR r * 256 + ix c
def ltrs (l : List Int32) : Prop := ∀ c ∈ l, inS 97 122 c = true
theorem bvR_inj : ∀ (l1 l2 : List Int32), ltrs l1 → ltrs l2 → bvR l1 = bvR l2 → l1 = l2
  | [], [], _, _, _ => rfl
  | [], c :: r, _, h2, e => by
    have := inS_ix (h2 c List.mem_cons_self)
    have e : 0 = bvR r * 256 + ix c := e
    omega
  | c :: r, [], h1, _, e => by
    have := inS_ix (h1 c List.mem_cons_self)
    have e : bvR r * 256 + ix c = 0 := e
    omega
  | c :: r, c' :: r', h1, h2, e => by
    have a1 := inS_ix (h1 c List.mem_cons_self)
    have a2 := inS_ix (h2 c' List.mem_cons_self)
    have e : bvR r * 256 + ix c = bvR r' * 256 + ix c' := e
    have e1 : ix c = ix c' := by omega
    have e2 : bvR r = bvR r' := by omega
    rw [bvR_inj r r' (fun x hx => h1 x (List.mem_cons_of_mem _ hx)) (fun x hx => h2 x (List.mem_cons_of_mem _ hx)) e2, a1.2.2, a2.2.2, e1]
theorem bvR_lt : ∀ (l : List Int32), ltrs l → bvR l < 256 ^ l.length
  | [], _ => by decide
  | c :: r, h => by
    have a := inS_ix (h c List.mem_cons_self)
    have ih := bvR_lt r (fun x hx => h x (List.mem_cons_of_mem _ hx))
    show bvR r * 256 + ix c < 256 ^ (r.length + 1)
    rw [Nat.pow_succ]
    omega
theorem bvR_lt8 {l : List Int32} (h : ltrs l) (h8 : l.length ≤ 8) : bvR l < 2 ^ 64 := by
  have h1 := bvR_lt l h
  have h2 : 256 ^ l.length ≤ 256 ^ 8 := Nat.pow_le_pow_right (by decide) h8
  have h3 : 256 ^ 8 = 2 ^ 64 := by decide
  omega
theorem lN_inj {a b : Nat} (ha : a < 2 ^ 64) (hb : b < 2 ^ 64) (e : lN a = lN b) : a = b := by
  rw [← wb_tn ha, ← wb_tn hb, e]
def hdW (w : List Int32) : Int64 := lN (bvR (w.take 8).reverse)
def tlW (w : List Int32) : Int64 := lN (bvR (w.drop 8).reverse)
theorem ltrs_rev {w : List Int32} (h : ltrs w) : ltrs w.reverse := fun c hc => h c (List.mem_reverse.mp hc)
theorem wd_eq {w u : List Int32} (hw : ltrs w) (hu : ltrs u) (lw : w.length ≤ 16) (lu : u.length ≤ 16) (e1 : hdW w = hdW u) (e2 : tlW w = tlW u) : w = u := by
  have q1 : ∀ {v : List Int32}, ltrs v → v.length ≤ 16 → (bvR (v.take 8).reverse < 2 ^ 64 ∧ bvR (v.drop 8).reverse < 2 ^ 64) := by
    intro v hv lv
    refine ⟨bvR_lt8 (ltrs_rev (fun c hc => hv c (List.mem_of_mem_take hc))) ?_, bvR_lt8 (ltrs_rev (fun c hc => hv c (List.mem_of_mem_drop hc))) ?_⟩
    · rw [List.length_reverse, List.length_take]; omega
    · rw [List.length_reverse, List.length_drop]; omega
  have a1 := lN_inj (q1 hw lw).1 (q1 hu lu).1 e1
  have a2 := lN_inj (q1 hw lw).2 (q1 hu lu).2 e2
  have b1 := bvR_inj _ _ (ltrs_rev (fun c hc => hw c (List.mem_of_mem_take hc))) (ltrs_rev (fun c hc => hu c (List.mem_of_mem_take hc))) a1
  have b2 := bvR_inj _ _ (ltrs_rev (fun c hc => hw c (List.mem_of_mem_drop hc))) (ltrs_rev (fun c hc => hu c (List.mem_of_mem_drop hc))) a2
  have c1 := congrArg List.reverse b1
  have c2 := congrArg List.reverse b2
  rw [List.reverse_reverse, List.reverse_reverse] at c1 c2
  rw [← List.take_append_drop 8 w, ← List.take_append_drop 8 u, c1, c2]
theorem voc_ltr : VOC.all (fun w => decide (w.length ≤ 12) && w.all (fun c => inS 97 122 c)) = true := by decide +kernel
theorem voc_l {w : List Int32} (h : w ∈ VOC) : ltrs w ∧ w.length ≤ 12 := by
  have := List.all_eq_true.mp voc_ltr w h
  simp only [Bool.and_eq_true, decide_eq_true_eq, List.all_eq_true] at this
  exact ⟨fun c hc => this.2 c hc, this.1⟩
theorem voc_nodup : (List.range 92).all (fun i => decide (cdW (VOC.getD i []) = i)) = true := by decide +kernel
theorem cdW_get {i : Nat} (h : i < 92) : cdW (VOC.getD i []) = i := of_decide_eq_true (List.all_eq_true.mp voc_nodup i (List.mem_range.mpr h))
theorem voc_mem {i : Nat} (h : i < 92) : VOC.getD i [] ∈ VOC := by
  have h2 : i < VOC.length := by rw [voc_len]; exact h
  rw [List.getD_eq_getElem?_getD, List.getElem?_eq_getElem h2]
  exact List.getElem_mem h2
/-- a word of at most 12 letters has the code i just if its letters are the word's -/
theorem cdW_hd {w : List Int32} {i : Nat} (hw : ltrs w) (lw : w.length ≤ 12) (hi : i < 92) : (hdW w = hdW (VOC.getD i []) ∧ tlW w = tlW (VOC.getD i [])) ↔ cdW w = i := by
  have hv := voc_l (voc_mem hi)
  refine ⟨fun e => ?_, fun e => ?_⟩
  · rw [wd_eq hw hv.1 (by omega) (by omega) e.1 e.2, cdW_get hi]
  · by_cases z : w ∈ VOC
    · have := (cdW_in z).2
      rw [e] at this
      rw [this]
      exact ⟨rfl, rfl⟩
    · have := cdW_out z
      omega
/-- the letters of a run, as the reference gathers them -/
def hdX (tx : Nat → Int32) (s : Nat) : Nat → Int64
  | 0 => 0
  | m + 1 => if m < 8 then (hdX tx s m <<< ((8 : Int32).toInt64 &&& 63)) ||| (tx (s + m)).toInt64 else hdX tx s m
def tlX (tx : Nat → Int32) (s : Nat) : Nat → Int64
  | 0 => 0
  | m + 1 => if m < 8 then tlX tx s m else (tlX tx s m <<< ((8 : Int32).toInt64 &&& 63)) ||| (tx (s + m)).toInt64
theorem bv_step {l : List Int32} {c : Int32} (h : ltrs l) (hc : inS 97 122 c = true) (h7 : l.length ≤ 7) : (lN (bvR l) <<< ((8 : Int32).toInt64 &&& 63)) ||| c.toInt64 = lN (bvR (c :: l)) := by
  have a := inS_ix hc
  have h1 := bvR_lt l h
  have h2 : 256 ^ l.length ≤ 256 ^ 7 := Nat.pow_le_pow_right (by decide) h7
  have h3 : 256 ^ 7 = 2 ^ 56 := by decide
  have e1 : lN (bvR l) <<< ((8 : Int32).toInt64 &&& 63) = lN (bvR l * 256) := wb_shl (bvR l) (k := 8) (by decide)
  have e2 : c.toInt64 = lN (ix c) := by exact (congrArg Int32.toInt64 a.2.2).trans (nI_l (by have := a.2.1; omega))
  rw [e1, e2]
  exact g_or (k := 8) (by decide) (by omega) (by omega)
theorem wdG_ltr {tx : Nat → Int32} {s : Nat} : ∀ {m : Nat}, (∀ j, j < m → inS 97 122 (tx (s + j)) = true) → ltrs (wdG tx m s)
  | 0, _ => fun c hc => absurd hc List.not_mem_nil
  | m + 1, h => by
    rw [wdG_snoc]
    intro c hc
    rcases List.mem_append.mp hc with z | z
    · exact wdG_ltr (fun j hj => h j (by omega)) c z
    · rw [List.mem_singleton.mp z]; exact h m (by omega)
theorem hdX_W {tx : Nat → Int32} {s : Nat} : ∀ {m : Nat}, (∀ j, j < m → inS 97 122 (tx (s + j)) = true) → m ≤ 16 → hdX tx s m = hdW (wdG tx m s) ∧ tlX tx s m = tlW (wdG tx m s)
  | 0, _, _ => ⟨rfl, rfl⟩
  | m + 1, h, h16 => by
    have ih := hdX_W (m := m) (fun j hj => h j (by omega)) (by omega)
    have hl := wdG_ltr (m := m) (tx := tx) (s := s) (fun j hj => h j (by omega))
    have hlen := wdG_len tx m s
    unfold hdX tlX hdW tlW
    rw [ih.1, ih.2, wdG_snoc]
    unfold hdW tlW
    by_cases z : m < 8
    · rw [if_pos z, if_pos z]
      have t1 : (wdG tx m s).take 8 = wdG tx m s := List.take_of_length_le (by omega)
      have t2 : (wdG tx m s ++ [tx (s + m)]).take 8 = wdG tx m s ++ [tx (s + m)] := List.take_of_length_le (by rw [List.length_append, hlen]; show m + 1 ≤ 8; omega)
      have t3 : (wdG tx m s).drop 8 = [] := List.drop_eq_nil_of_le (by omega)
      have t4 : (wdG tx m s ++ [tx (s + m)]).drop 8 = [] := List.drop_eq_nil_of_le (by rw [List.length_append, hlen]; show m + 1 ≤ 8; omega)
      rw [t1, t2, t3, t4, List.reverse_append]
      exact ⟨bv_step (ltrs_rev hl) (h m (by omega)) (by rw [List.length_reverse]; omega), rfl⟩
    · rw [if_neg z, if_neg z]
      have t2 : (wdG tx m s ++ [tx (s + m)]).take 8 = (wdG tx m s).take 8 := List.take_append_of_le_length (by omega)
      have t4 : (wdG tx m s ++ [tx (s + m)]).drop 8 = (wdG tx m s).drop 8 ++ [tx (s + m)] := List.drop_append_of_le_length (by omega)
      rw [t2, t4, List.reverse_append]
      exact ⟨rfl, bv_step (ltrs_rev (fun c hc => hl c (List.mem_of_mem_drop hc))) (h m (by omega)) (by rw [List.length_reverse, List.length_drop]; omega)⟩
