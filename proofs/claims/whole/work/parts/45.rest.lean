/-! writes beside the token fields -/
theorem up3_cr {α : Type} (f : Nat → Nat → Nat → α) {t t' : Nat} (a k a' k' : Nat) (v w : α) (ht : t ≠ t') : up3 (up3 f t a k v) t' a' k' w = up3 (up3 f t' a' k' w) t a k v := by
  funext r b j
  unfold up3
  by_cases e1 : r = t ∧ b = a ∧ j = k
  · have e2 : ¬ (r = t' ∧ b = a' ∧ j = k') := fun z => ht (e1.1.symm.trans z.1)
    rw [if_neg e2, if_pos e1, if_pos e1]
  · rw [if_neg e1, if_neg e1]
theorem tokH_wI (H : Hp) (o : Nat) (q : Nat × Nat × Nat) {t : Nat} (a k : Nat) (v : Int32) (ht : 9 ≠ t) : wI (tokH H o q) t a k v = tokH (wI H t a k v) o q := by
  show (jN H, jLen H, up3 (up3 (up3 (up3 (jI H) 9 o 3 (nI q.2.1)) 9 o 4 (nI q.2.2)) 9 o 2 (nI q.1)) t a k v, jL H, jR H, jC H, jZ H) = (jN H, jLen H, up3 (up3 (up3 (up3 (jI H) t a k v) 9 o 3 (nI q.2.1)) 9 o 4 (nI q.2.2)) 9 o 2 (nI q.1), jL H, jR H, jC H, jZ H)
  rw [up3_cr _ _ _ _ _ _ _ ht, up3_cr _ _ _ _ _ _ _ ht, up3_cr _ _ _ _ _ _ _ ht]
theorem TkN.wI {H h : Hp} {o a n p : Nat} {tx : Nat → Int32} (R : TkN H h o a n tx p) {t : Nat} (b k : Nat) (v : Int32) (h9 : 9 ≠ t) (h23 : 23 ≠ t) : TkN (_root_.Jvm.Pilot.CHeraldDeskLaw_law_r4028_bc851c.wI H t b k v) (_root_.Jvm.Pilot.CHeraldDeskLaw_law_r4028_bc851c.wI h t b k v) o a n tx p := by
  obtain ⟨⟨q, e⟩, ⟨⟨t1, t2, t3, t4, t5, t6⟩, u2, u3, u4, u5⟩, hp⟩ := R
  refine ⟨⟨q, by rw [e, tokH_wI _ _ _ _ _ _ h9]⟩, ⟨⟨t1, ?_, t3, t4, t5, fun j hj => ?_⟩, ?_, ?_, ?_, u5⟩, hp⟩
  · rw [jI_t h9]; exact t2
  · rw [jI_t h23]; exact t6 j hj
  · rw [jI_t h9]; exact u2
  · rw [jI_t h9]; exact u3
  · rw [jI_t h9]; exact u4
theorem jR_t {h : Hp} {t a k t' a' j : Nat} {v : Option Nat} (ht : t' ≠ t) : jR (wR h t a k v) t' a' j = jR h t' a' j := up3_ne (fun e => ht e.1)
theorem TkN.wR {H h : Hp} {o a n p : Nat} {tx : Nat → Int32} (R : TkN H h o a n tx p) {t : Nat} (b k : Nat) (v : Option Nat) (h9 : 9 ≠ t) : TkN (_root_.Jvm.Pilot.CHeraldDeskLaw_law_r4028_bc851c.wR H t b k v) (_root_.Jvm.Pilot.CHeraldDeskLaw_law_r4028_bc851c.wR h t b k v) o a n tx p := by
  obtain ⟨⟨q, e⟩, ⟨⟨t1, t2, t3, t4, t5, t6⟩, u2, u3, u4, u5⟩, hp⟩ := R
  refine ⟨⟨q, by rw [e]; rfl⟩, ⟨⟨t1, t2, ?_, t4, t5, t6⟩, u2, u3, u4, u5⟩, hp⟩
  rw [jR_t h9]; exact t3
theorem mkT_I {h : Hp} {t n sl t' a k : Nat} (ht : t' ≠ t) : jI (mk h t n sl) t' a k = jI h t' a k := if_neg (fun e => ht e.1)
theorem mkT_R {h : Hp} {t n sl t' a k : Nat} (ht : t' ≠ t) : jR (mk h t n sl) t' a k = jR h t' a k := if_neg (fun e => ht e.1)
theorem mkT_n {h : Hp} {t n sl t' a : Nat} (ht : t' ≠ t) : jLen (mk h t n sl) t' a = jLen h t' a := if_neg (fun e => ht e.1)
theorem mkO_I {h : Hp} {t n sl a k : Nat} (ha : a < jN h t) : jI (mk h t n sl) t a k = jI h t a k := if_neg (fun e => by have := e.2; omega)
theorem mkO_R {h : Hp} {t n sl a k : Nat} (ha : a < jN h t) : jR (mk h t n sl) t a k = jR h t a k := if_neg (fun e => by have := e.2; omega)
theorem mkO_n {h : Hp} {t n sl a : Nat} (ha : a < jN h t) : jLen (mk h t n sl) t a = jLen h t a := if_neg (fun e => by have := e.2; omega)
theorem up3_mk (f : Nat → Nat → Nat → Int32) {t t' : Nat} (a k b : Nat) (v : Int32) (ht : t' ≠ t) : (fun r c j => if r = t' ∧ c = b then (0 : Int32) else up3 f t a k v r c j) = up3 (fun r c j => if r = t' ∧ c = b then (0 : Int32) else f r c j) t a k v := by
  funext r c j
  unfold up3
  by_cases e : r = t' ∧ c = b
  · rw [if_pos e, if_neg (fun z => ht (e.1.symm.trans z.1))]
    exact (if_pos e).symm
  · rw [if_neg e]
    show _ = (if r = t ∧ c = a ∧ j = k then v else (if r = t' ∧ c = b then (0 : Int32) else f r c j))
    rw [if_neg e]
theorem tokH_mk (H : Hp) (o : Nat) (q : Nat × Nat × Nat) {t : Nat} (m sl : Nat) (ht : t ≠ 9) : mk (tokH H o q) t m sl = tokH (mk H t m sl) o q := by
  show ((fun t' => if t' = t then jN H t + 1 else jN H t'), (fun t' a' => if t' = t ∧ a' = jN H t then m else jLen H t' a'), (fun r c j => if r = t ∧ c = jN H t then (0 : Int32) else up3 (up3 (up3 (jI H) 9 o 3 (nI q.2.1)) 9 o 4 (nI q.2.2)) 9 o 2 (nI q.1) r c j), (fun t' a' k => if t' = t ∧ a' = jN H t then 0 else jL H t' a' k), (fun t' a' k => if t' = t ∧ a' = jN H t then none else jR H t' a' k), jC H + 1, jZ H + sl) = _
  rw [up3_mk _ _ _ _ _ ht, up3_mk _ _ _ _ _ ht, up3_mk _ _ _ _ _ ht]
  rfl
theorem TkN.mk {H h : Hp} {o a n p : Nat} {tx : Nat → Int32} (R : TkN H h o a n tx p) {t : Nat} (m sl : Nat) (h9 : 9 ≠ t) (h23 : 23 ≠ t) : TkN (_root_.Jvm.Pilot.CHeraldDeskLaw_law_r4028_bc851c.mk H t m sl) (_root_.Jvm.Pilot.CHeraldDeskLaw_law_r4028_bc851c.mk h t m sl) o a n tx p := by
  obtain ⟨⟨q, e⟩, ⟨⟨t1, t2, t3, t4, t5, t6⟩, u2, u3, u4, u5⟩, hp⟩ := R
  refine ⟨⟨q, by rw [e, tokH_mk _ _ _ _ _ (Ne.symm h9)]⟩, ⟨⟨t1, ?_, ?_, ?_, ?_, fun j hj => ?_⟩, ?_, ?_, ?_, u5⟩, hp⟩
  · rw [mkT_I h9]; exact t2
  · rw [mkT_R h9]; exact t3
  · rw [mkT_n h23]; exact t4
  · rw [mkT_n h23]; exact t5
  · rw [mkT_I h23]; exact t6 j hj
  · rw [mkT_I h9]; exact u2
  · rw [mkT_I h9]; exact u3
  · rw [mkT_I h9]; exact u4
/-- what is read beside the tokens is the rest's -/
theorem TkN.I {H h : Hp} {o a n p : Nat} {tx : Nat → Int32} (R : TkN H h o a n tx p) {t b k : Nat} (h9 : t ≠ 9) : jI h t b k = jI H t b k := by
  obtain ⟨⟨q, e⟩, -⟩ := R
  rw [e]
  show jI (_root_.Jvm.Pilot.CHeraldDeskLaw_law_r4028_bc851c.wI (_root_.Jvm.Pilot.CHeraldDeskLaw_law_r4028_bc851c.wI (_root_.Jvm.Pilot.CHeraldDeskLaw_law_r4028_bc851c.wI H 9 o 3 _) 9 o 4 _) 9 o 2 _) t b k = _
  rw [jI_t h9, jI_t h9, jI_t h9]
theorem TkN.R {H h : Hp} {o a n p : Nat} {tx : Nat → Int32} (R : TkN H h o a n tx p) : jR h = jR H := by
  obtain ⟨⟨q, e⟩, -⟩ := R
  rw [e]; rfl
theorem TkN.len {H h : Hp} {o a n p : Nat} {tx : Nat → Int32} (R : TkN H h o a n tx p) : jLen h = jLen H := by
  obtain ⟨⟨q, e⟩, -⟩ := R
  rw [e]; rfl
theorem TkN.N {H h : Hp} {o a n p : Nat} {tx : Nat → Int32} (R : TkN H h o a n tx p) : jN h = jN H := by
  obtain ⟨⟨q, e⟩, -⟩ := R
  rw [e]; rfl
/-! the same for the reference: writes into its int arrays -/
theorem rtH_w (H : Hp) (o : Nat) (b vl t x dg : Int32) (hd tl : Int64) {r : Nat} (a k : Nat) (v : Int32) (ht : 11 ≠ r) : wI (rtH H o b vl t x dg hd tl) r a k v = rtH (wI H r a k v) o b vl t x dg hd tl := by
  refine Hp_ext rfl rfl ?_ rfl rfl rfl rfl
  rw [I_wI, rtH_I, rtH_I, I_wI, up3_cr _ _ _ _ _ _ _ ht, up3_cr _ _ _ _ _ _ _ ht, up3_cr _ _ _ _ _ _ _ ht, up3_cr _ _ _ _ _ _ _ ht, up3_cr _ _ _ _ _ _ _ ht]
theorem RtN.wI {H h : Hp} {o a n p : Nat} {tx : Nat → Int32} (R : RtN H h o a n tx p) {t : Nat} (b k : Nat) (v : Int32) (h11 : 11 ≠ t) (h22 : 22 ≠ t) : RtN (_root_.Jvm.Pilot.CHeraldDeskLaw_law_r4028_bc851c.wI H t b k v) (_root_.Jvm.Pilot.CHeraldDeskLaw_law_r4028_bc851c.wI h t b k v) o a n tx p := by
  obtain ⟨⟨b0, vl, tk, x, dg, hd, tl, e⟩, ⟨t1, t2, t3, t4, t5⟩, hp, hv⟩ := R
  refine ⟨⟨b0, vl, tk, x, dg, hd, tl, by rw [e, rtH_w _ _ _ _ _ _ _ _ _ _ _ _ h11]⟩, ⟨t1, ?_, t3, t4, fun j hj => ?_⟩, hp, ?_⟩
  · rw [jI_t h11]; exact t2
  · rw [jI_t h22]; exact t5 j hj
  · rw [jI_t h11, jI_t h11, jI_t h11, jI_t h11, jI_t h11]; exact hv
theorem RtN.I {H h : Hp} {o a n p : Nat} {tx : Nat → Int32} (R : RtN H h o a n tx p) {t b k : Nat} (h11 : t ≠ 11) : jI h t b k = jI H t b k := by
  obtain ⟨⟨b0, vl, tk, x, dg, hd, tl, e⟩, -⟩ := R
  rw [e]
  show jI (_root_.Jvm.Pilot.CHeraldDeskLaw_law_r4028_bc851c.wI (_root_.Jvm.Pilot.CHeraldDeskLaw_law_r4028_bc851c.wI (_root_.Jvm.Pilot.CHeraldDeskLaw_law_r4028_bc851c.wI (_root_.Jvm.Pilot.CHeraldDeskLaw_law_r4028_bc851c.wI (_root_.Jvm.Pilot.CHeraldDeskLaw_law_r4028_bc851c.wI H 11 o 5 b0) 11 o 7 vl) 11 o 4 tk) 11 o 6 x) 11 o 10 dg) t b k = _
  rw [jI_t h11, jI_t h11, jI_t h11, jI_t h11, jI_t h11]
theorem RtN.Io {H h : Hp} {o a n p : Nat} {tx : Nat → Int32} (R : RtN H h o a n tx p) {k : Nat} (hk : k = 1 ∨ k = 3 ∨ 10 < k) : jI h 11 o k = jI H 11 o k := by
  obtain ⟨⟨b0, vl, tk, x, dg, hd, tl, e⟩, -⟩ := R
  rw [e]
  show jI (_root_.Jvm.Pilot.CHeraldDeskLaw_law_r4028_bc851c.wI (_root_.Jvm.Pilot.CHeraldDeskLaw_law_r4028_bc851c.wI (_root_.Jvm.Pilot.CHeraldDeskLaw_law_r4028_bc851c.wI (_root_.Jvm.Pilot.CHeraldDeskLaw_law_r4028_bc851c.wI (_root_.Jvm.Pilot.CHeraldDeskLaw_law_r4028_bc851c.wI H 11 o 5 b0) 11 o 7 vl) 11 o 4 tk) 11 o 6 x) 11 o 10 dg) 11 o k = _
  rw [jI_k (by omega), jI_k (by omega), jI_k (by omega), jI_k (by omega), jI_k (by omega)]
theorem RtN.R {H h : Hp} {o a n p : Nat} {tx : Nat → Int32} (R : RtN H h o a n tx p) : jR h = jR H := by
  obtain ⟨⟨b0, vl, tk, x, dg, hd, tl, e⟩, -⟩ := R
  rw [e]; rfl
theorem RtN.len {H h : Hp} {o a n p : Nat} {tx : Nat → Int32} (R : RtN H h o a n tx p) : jLen h = jLen H := by
  obtain ⟨⟨b0, vl, tk, x, dg, hd, tl, e⟩, -⟩ := R
  rw [e]; rfl
