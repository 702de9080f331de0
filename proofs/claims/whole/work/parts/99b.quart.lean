/-! the class's quarterings of one person -/
def EqY (X : Nat → Nat → Nat → Prop) (H G : Hp) : Prop := jN G = jN H ∧ jLen G = jLen H ∧ jR G = jR H ∧ jC G = jC H ∧ jZ G = jZ H ∧ ∀ t a k, ¬ X t a k → jI G t a k = jI H t a k ∧ jL G t a k = jL H t a k
theorem EqY.refl (X : Nat → Nat → Nat → Prop) (H : Hp) : EqY X H H := ⟨rfl, rfl, rfl, rfl, rfl, fun _ _ _ _ => ⟨rfl, rfl⟩⟩
theorem EqY.wI {X : Nat → Nat → Nat → Prop} {H G : Hp} (E : EqY X H G) {t a k : Nat} (v : Int32) (h : X t a k) : EqY X H (_root_.Jvm.Pilot.CHeraldDeskLaw_law_r4028_bc851c.wI G t a k v) := by
  obtain ⟨e1, e2, e3, e4, e5, e6⟩ := E
  refine ⟨e1, e2, e3, e4, e5, fun t' a' k' hn => ⟨?_, (e6 t' a' k' hn).2⟩⟩
  show up3 (jI G) t a k v t' a' k' = _
  unfold up3
  rw [if_neg (fun z => hn (by obtain ⟨z1, z2, z3⟩ := z; rw [z1, z2, z3]; exact h))]
  exact (e6 t' a' k' hn).1
theorem EqY.wL {X : Nat → Nat → Nat → Prop} {H G : Hp} (E : EqY X H G) {t a k : Nat} (v : Int64) (h : X t a k) : EqY X H (_root_.Jvm.Pilot.CHeraldDeskLaw_law_r4028_bc851c.wL G t a k v) := by
  obtain ⟨e1, e2, e3, e4, e5, e6⟩ := E
  refine ⟨e1, e2, e3, e4, e5, fun t' a' k' hn => ⟨(e6 t' a' k' hn).1, ?_⟩⟩
  show up3 (jL G) t a k v t' a' k' = _
  unfold up3
  rw [if_neg (fun z => hn (by obtain ⟨z1, z2, z3⟩ := z; rw [z1, z2, z3]; exact h))]
  exact (e6 t' a' k' hn).2
theorem EqY.trans {X Y Z : Nat → Nat → Nat → Prop} {H G J : Hp} (E : EqY X H G) (F : EqY Y G J) (h1 : ∀ t a k, X t a k → Z t a k) (h2 : ∀ t a k, Y t a k → Z t a k) : EqY Z H J := by
  obtain ⟨e1, e2, e3, e4, e5, e6⟩ := E
  obtain ⟨f1, f2, f3, f4, f5, f6⟩ := F
  refine ⟨f1.trans e1, f2.trans e2, f3.trans e3, f4.trans e4, f5.trans e5, fun t a k hn => ⟨?_, ?_⟩⟩
  · rw [(f6 t a k (fun z => hn (h2 t a k z))).1, (e6 t a k (fun z => hn (h1 t a k z))).1]
  · rw [(f6 t a k (fun z => hn (h2 t a k z))).2, (e6 t a k (fun z => hn (h1 t a k z))).2]
theorem EqY.fr {X : Nat → Nat → Nat → Prop} {H G : Hp} (E : EqY X H G) : Fr X 0 0 H G := by
  obtain ⟨e1, e2, e3, e4, e5, e6⟩ := E
  refine ⟨fun t => by rw [e1]; exact Nat.le_refl _, fun t a _ => by rw [e2], fun t a k _ hn => ⟨(e6 t a k hn).1, by rw [e3], (e6 t a k hn).2⟩, by omega, by omega⟩
/-- person i's quarterings, in the row q -/
def QstC (h : Hp) (i q : Nat) (l : List Nat) : Prop := l.length ≤ 32 ∧ jI h 5 i 11 = nI l.length ∧ ∀ j x, l[j]? = some x → jI h 21 q j = nI x
def QstM (h : Hp) (i q : Nat) (l : List Nat) : Prop := QstC h i q l ∧ ∃ m, m < 2 ^ 64 ∧ jL h 5 i 12 = lN m ∧ ∀ s, s < 60 → (m.testBit s = true ↔ s ∈ l)
def XQ (i q : Nat) : Nat → Nat → Nat → Prop := fun t a k => (t = 5 ∧ a = i ∧ (k = 11 ∨ k = 12)) ∨ (t = 21 ∧ a = q)
theorem lN_0 {a : Nat} (ha : a < 2 ^ 64) : lN a = 0 ↔ a = 0 := by
  refine ⟨fun z => ?_, fun z => by rw [z]; rfl⟩
  have h1 := wb_tn ha
  rw [z] at h1
  exact h1.symm
theorem and_bit (m s : Nat) : m &&& 2 ^ s = 0 ↔ m.testBit s = false := by
  refine ⟨fun z => ?_, fun z => ?_⟩
  · have h1 := congrArg (fun x => Nat.testBit x s) z
    simp only [Nat.testBit_and, Nat.testBit_two_pow_self, Bool.and_true, Nat.zero_testBit] at h1
    exact h1
  · refine Nat.eq_of_testBit_eq (fun i => ?_)
    rw [Nat.testBit_and, Nat.zero_testBit]
    by_cases y : s = i
    · rw [← y, z]; rfl
    · rw [Nat.testBit_two_pow_of_ne y, Bool.and_false]
theorem one_lN : (1 : Int64) = lN 1 := by decide +kernel
theorem shl1 {s : Nat} (hs : s < 60) : (1 : Int64) <<< ((nI s).toInt64 &&& 63) = lN (2 ^ s) := by
  rw [one_lN, wb_shl 1 (by omega), Nat.one_mul]
theorem p2_lt {s : Nat} (hs : s < 60) : 2 ^ s < 2 ^ 64 := wb_lt2 (by omega)
/-- addQuartering(added) -/
theorem s41 {d i q s : Nat} {l : List Nat} {h : Hp} {K : Hp → Prop} (M : QstM h i q l) (r10 : jR h 5 i 10 = some q) (n10 : jLen h 21 q = 32) (hs : s < 60) (k : ∀ h', EqY (XQ i q) h h' → QstM h' i q (adQ l s) → K h') : CV (d + 1) 41 [vR 5 (some i), vI (nI s)] h K := by
  intro P hP
  obtain ⟨⟨q1, q2, q3⟩, m, m1, m2, m3⟩ := id M
  have e1 : (jL h 5 i 12 &&& ((1 : Int64) <<< ((nI s).toInt64 &&& 63))) = lN (m &&& 2 ^ s) := by
    rw [shl1 hs, m2, wb_and m1 (p2_lt hs)]
  have e0 : lg_cmp (jL h 5 i 12 &&& ((1 : Int64) <<< ((nI s).toInt64 &&& 63))) 0 = 0 ↔ ¬ s ∈ l := by
    rw [lg_cmp_eq, e1, lN_0 (Nat.and_lt_two_pow m (p2_lt hs)), and_bit, ← m3 s hs]
    exact (Bool.not_eq_true _).symm.to_iff
  unfold adQ at k
  refine v41 hP i (nI s) h ⟨fun c => ⟨rfl, ?_⟩, fun c => ⟨fun c2 => ⟨rfl, ?_⟩, fun c2 => dr_of r10 ⟨?_, fun h2 e2 => ⟨rfl, ?_⟩⟩⟩⟩
  · have hin : s ∈ l := Classical.not_not.mp (fun z => c (e0.mpr z))
    have := k h (EqY.refl _ h)
    rw [if_pos (Or.inl hin)] at this
    exact this M
  · have hge : 32 ≤ l.length := by
      rw [q2] at c2
      rcases Nat.lt_or_ge l.length 32 with z | z
      · exact absurd c2 (nI_ge (b := 32) z (by decide))
      · exact z
    have := k h (EqY.refl _ h)
    rw [if_pos (Or.inr hge)] at this
    exact this M
  · have hnin : ¬ s ∈ l := e0.mp (Classical.not_not.mp c)
    have hlt : l.length < 32 := by
      rw [q2] at c2
      rcases Nat.lt_or_ge l.length 32 with z | z
      · exact z
      · exact absurd (nI_le (a := 32) z (by omega)) c2
    rw [q2, n10]
    exact vp_in_nI hlt (by decide)
  · have hnin : ¬ s ∈ l := e0.mp (Classical.not_not.mp c)
    have hlt : l.length < 32 := by
      rw [q2] at c2
      rcases Nat.lt_or_ge l.length 32 with z | z
      · exact z
      · exact absurd (nI_le (a := 32) z (by omega)) c2
    have il : ix (nI l.length) = l.length := nI_clamp (by omega)
    rw [q2, il, jI_t (by decide), q2, nI_1] at e2
    have k2 := k h2
    rw [if_neg (fun z => by rcases z with z | z; exact hnin z; omega)] at k2
    have lA : (l ++ [s]).length = l.length + 1 := by rw [List.length_append]; rfl
    subst e2
    refine k2 ((((EqY.refl _ h).wI _ (Or.inr ⟨rfl, rfl⟩)).wI _ (Or.inl ⟨rfl, rfl, Or.inl rfl⟩)).wL _ (Or.inl ⟨rfl, rfl, Or.inr rfl⟩)) ⟨⟨by omega, ?_, fun j x e => ?_⟩, m ||| 2 ^ s, Nat.or_lt_two_pow m1 (p2_lt hs), ?_, fun u hu => ?_⟩
    · show jI (wI (wI h 21 q l.length (nI s)) 5 i 11 (nI (l.length + 1))) 5 i 11 = _
      rw [jI_same, lA]
    · show jI (wI (wI h 21 q l.length (nI s)) 5 i 11 (nI (l.length + 1))) 21 q j = _
      rw [jI_t (by decide)]
      by_cases z : j = l.length
      · subst z
        rw [jI_same]
        rw [List.getElem?_append_right (Nat.le_refl _), Nat.sub_self] at e
        have := Option.some.inj e
        rw [this]
      · rw [jI_k z]
        have hj : j < l.length := by
          have := (List.getElem?_eq_some_iff.mp e).1
          omega
        rw [List.getElem?_append_left hj] at e
        exact q3 j x e
    · show up3 (jL h) 5 i 12 (jL h 5 i 12 ||| ((1 : Int64) <<< ((nI s).toInt64 &&& 63))) 5 i 12 = _
      unfold up3
      rw [if_pos ⟨rfl, rfl, rfl⟩, shl1 hs, m2, wb_or m1 (p2_lt hs)]
    · rw [Nat.testBit_or, Bool.or_eq_true, m3 u hu, List.mem_append, List.mem_singleton]
      refine or_congr Iff.rfl ?_
      rw [Nat.testBit_two_pow, decide_eq_true_eq]
      exact ⟨fun z => z.symm, fun z => z.symm⟩
/-- addQuarteringsOf(parent) -/
theorem c42 {d i q f qf : Nat} {l0 a : List Nat} {h0 : Hp} {K : Hp → Prop} {P : Nat → List AV → List AV → Hp → Prop} (hP : Cl (Call (d + 1)) 42 (fun v h' => v = none ∧ K h') P) (r10 : jR h0 5 i 10 = some q) (n10 : jLen h0 21 q = 32) (rf : jR h0 5 f 10 = some qf) (nf : jLen h0 21 qf = 32) (A : QstC h0 f qf a) (hif : f ≠ i) (hq : qf ≠ q) (ha : ∀ x ∈ a, x < 60) (k : ∀ h', EqY (XQ i q) h0 h' → QstM h' i q (joQ l0 a) → K h') : ∀ (b : List Nat) (t : Nat) (h : Hp), a.drop t = b → t ≤ a.length → EqY (XQ i q) h0 h → QstM h i q (joQ l0 (a.take t)) → P 2 [vR 5 (some i), vR 5 (some f), vI (nI t)] [] h
  | [], t, h, e, ht, E, M => by
    have hte : a.length = t := by
      have := congrArg List.length e
      rw [List.length_drop] at this
      have e0 : ([] : List Nat).length = 0 := rfl
      omega
    rw [List.take_of_length_le (by omega)] at M
    have e11 : jI h 5 f 11 = nI a.length := by
      rw [(E.2.2.2.2.2 5 f 11 (fun z => by rcases z with z | z; exact hif z.2.1; cases z.1)).1]; exact A.2.1
    refine v42_2 hP i (some f) (nI t) h ⟨fun _ => ⟨rfl, k h E M⟩, fun c => absurd ?_ c⟩
    rw [e11, hte]; exact nI_le (Nat.le_refl _) (by have := A.1; omega)
  | x :: b, t, h, e, ht, E, M => by
    have hlt : t < a.length := by
      rcases Nat.lt_or_ge t a.length with z | z
      · exact z
      · rw [List.drop_eq_nil_of_le z] at e; cases e
    have eb : a[t]? = some x := by
      have := congrArg (fun l => l[0]?) e
      simp only [List.getElem?_drop, Nat.add_zero, List.getElem?_cons_zero] at this
      exact this
    have ed : a.drop (t + 1) = b := by
      have := congrArg List.tail e
      rw [List.tail_drop] at this
      exact this
    have hal := A.1
    have it : ix (nI t) = t := nI_clamp (by omega)
    have e11 : jI h 5 f 11 = nI a.length := by
      rw [(E.2.2.2.2.2 5 f 11 (fun z => by rcases z with z | z; exact hif z.2.1; cases z.1)).1]; exact A.2.1
    have ev : jI h 21 qf t = nI x := by
      rw [(E.2.2.2.2.2 21 qf t (fun z => by rcases z with z | z; cases z.1; exact hq z.2)).1]; exact A.2.2 t x eb
    have hx : x < 60 := ha x (List.mem_of_getElem? eb)
    refine v42_2 hP i (some f) (nI t) h ⟨fun c => absurd (by rw [e11] at c; exact c) (nI_ge hlt (by omega)), fun _ => dr_of rfl (dr_of (by rw [E.2.2.1]; exact rf) ⟨by rw [E.2.1, nf]; exact vp_in_nI (by omega) (by decide), ?_⟩)⟩
    rw [it, ev]
    refine s41 M (by rw [E.2.2.1]; exact r10) (by rw [E.2.1]; exact n10) hx (fun h' E' M' => ?_)
    rw [nI_1]
    refine c42 hP r10 n10 rf nf A hif hq ha k b (t + 1) h' ed hlt (E.trans E' (fun _ _ _ z => z) (fun _ _ _ z => z)) ?_
    rw [List.take_add_one, eb]
    show QstM h' i q (joQ l0 (a.take t ++ [x]))
    rw [joQ_snoc]
    exact M'
theorem s42 {d i q f qf : Nat} {l0 a : List Nat} {h : Hp} {K : Hp → Prop} (M : QstM h i q l0) (r10 : jR h 5 i 10 = some q) (n10 : jLen h 21 q = 32) (rf : jR h 5 f 10 = some qf) (nf : jLen h 21 qf = 32) (A : QstC h f qf a) (hif : f ≠ i) (hq : qf ≠ q) (ha : ∀ x ∈ a, x < 60) (k : ∀ h', EqY (XQ i q) h h' → QstM h' i q (joQ l0 a) → K h') : CV (d + 2) 42 [vR 5 (some i), vR 5 (some f)] h K :=
  fun P hP => v42 hP i (some f) h (c42 hP r10 n10 rf nf A hif hq ha k a 0 h rfl (Nat.zero_le _) (EqY.refl _ h) M)
