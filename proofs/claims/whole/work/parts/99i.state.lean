/-! THE DESK's STATE, and how the class's heap and the reference's hold it -/
abbrev Pst : Type := Nat × (Nat → Bool) × (Nat → Option (Nat × Nat)) × (Nat → Nat) × (Nat → Option Nat)
/-- bytes on the tape; shields; the offices' bodies; what is written; bodies begun; persons -/
abbrev Sta : Type := (Nat × (Nat → Int32)) × List (Nat → Int32) × (Nat → List Bod) × List Int32 × Int32 × Pst
abbrev tT (S : Sta) : Nat := S.1.1
abbrev tX (S : Sta) : Nat → Int32 := S.1.2
abbrev tL (S : Sta) : List (Nat → Int32) := S.2.1
abbrev tD (S : Sta) : Nat → List Bod := S.2.2.1
abbrev tW (S : Sta) : List Int32 := S.2.2.2.1
abbrev tR (S : Sta) : Int32 := S.2.2.2.2.1
abbrev tP (S : Sta) : Pst := S.2.2.2.2.2
/-- the common bodies -/
def Dcm : List Bod := [(0, 0, [10000, 10000, 10001, 20003, 20002]), (1, 2, [10003, 3, 20005]), (2, 0, [0]), (2, 15, [10001, 1, 20004]), (3, 0, [1]), (3, 1, [10008, 1, 20000])]
theorem Dcm_v : ∀ b ∈ Dcm, BoV b := by
  have h1 : Dcm.all (fun b => decide (b.1 < 4) && decide (b.2.1 < 31) && decide (dpt b.2.2 = some 1) && b.2.2.all (fun x => decide (x < 10000 ∨ (10000 ≤ x ∧ x < 10009) ∨ (20000 ≤ x ∧ x < 20006)))) = true := by decide +kernel
  intro b hb
  have h2 := List.all_eq_true.mp h1 b hb
  simp only [Bool.and_eq_true, decide_eq_true_eq, List.all_eq_true] at h2
  exact ⟨h2.1.1.1, h2.1.1.2, h2.1.2, h2.2⟩
def PsT (p : Pst) (ns : Nat) : Prop := PsV p.1 p.2.1 p.2.2.1 p.2.2.2.1 p.2.2.2.2 ns
def StV (S : Sta) : Prop := tT S ≤ 240 ∧ Byt (tX S) ∧ (tL S).length ≤ 60 ∧ (∀ sh ∈ tL S, Acc sh) ∧ (∀ o, o < 4 → ∀ b ∈ tD S o, BoV b) ∧ PsT (tP S) (tL S).length
/-! the class -/
def CsH (h : Hp) : Prop := (0 < jN h 10 ∧ 0 < jN h 9 ∧ 0 < jN h 4 ∧ 3 < jN h 23 ∧ 0 < jN h 37 ∧ 31 ≤ jN h 21) ∧ Bs h ∧ Bp h ∧ (jR h 10 0 0 = some 0 ∧ jR h 10 0 2 = some 0 ∧ jR h 10 0 4 = some 0 ∧ jR h 10 0 5 = some 0 ∧ jR h 10 0 6 = some 0 ∧ jR h 10 0 7 = some 0 ∧ jR h 10 0 8 = some 0 ∧ jR h 10 0 9 = some 0) ∧ jLen h 23 0 = 240 ∧ jLen h 37 0 = 60
def TaC (h : Hp) (T : Nat) (tx : Nat → Int32) : Prop := jI h 10 0 1 = nI T ∧ ∀ j, j < T → jI h 23 0 j = tx j
def PoC (h : Hp) (s : Nat) (sh : Nat → Int32) : Prop := jR h 7 s 4 = none ∨ ∃ q, jR h 7 s 4 = some q ∧ 31 ≤ q ∧ q < jN h 21 ∧ jLen h 21 q = 9 ∧ ∀ t, t < 9 → jI h 21 q t = nI (cY sh t 72)
def ShC (h : Hp) (L : List (Nat → Int32)) (si : Nat → Nat) : Prop := jI h 10 0 3 = nI L.length ∧ (∀ k sh, L[k]? = some sh → jR h 37 0 k = some (si k) ∧ ∃ pa, ShOK h (si k) pa sh ∧ PoC h (si k) sh) ∧ ∀ i j, i < j → j < L.length → si i < si j
def BeC (h : Hp) (D : Nat → List Bod) (pk : Nat → Nat) (dr : Nat) : Prop := BnS h pk dr ∧ (∀ o, o < 4 → PkC h (pk o) (D o)) ∧ PkC h 0 Dcm
def ReC (h : Hp) (p : Pst) (qa : Nat → Nat) (g : Nat) : Prop := RegC h p.1 p.2.1 p.2.2.1 p.2.2.2.1 p.2.2.2.2 qa g
def RepC (S : Sta) (h : Hp) : Prop := CsH h ∧ TaC h (tT S) (tX S) ∧ (∃ si, ShC h (tL S) si) ∧ (∃ pk dr, BeC h (tD S) pk dr) ∧ jI h 0 0 4 = tR S ∧ PnS h ∧ PnC h (tW S) ∧ ∃ qa g, ReC h (tP S) qa g
/-- little is made -/
def Gr (h h' : Hp) : Prop := jC h' ≤ jC h + 20 ∧ jZ h' ≤ jZ h + 100
theorem Gr.rf (h : Hp) : Gr h h := ⟨by omega, by omega⟩
theorem Fr.gr {X : Nat → Nat → Nat → Prop} {c z : Nat} {h h' : Hp} (F : Fr X c z h h') (hc : c ≤ 20) (hz : z ≤ 100) : Gr h h' := ⟨by have := F.2.2.2.1; omega, by have := F.2.2.2.2; omega⟩
section
variable {X : Nat → Nat → Nat → Prop} {c z : Nat} {h h' : Hp}
theorem CsH.fr (Q : CsH h) (F : Fr X c z h h') (x10 : ∀ k, k ≠ 1 → k ≠ 3 → ¬ X 10 0 k) (x8 : ∀ k, ¬ X 8 0 k) (x2 : ∀ k, ¬ X 2 0 k) : CsH h' := by
  obtain ⟨⟨a1, a2, a3, a4, a5, a6⟩, b, p, ⟨r0, r2, r4, r5, r6, r7, r8, r9⟩, l1, l2⟩ := Q
  have f := fun k h1 h2 => (F.2.2.1 10 0 k a1 (x10 k h1 h2)).2.1
  have m := F.1
  refine ⟨⟨Nat.lt_of_lt_of_le a1 (m 10), Nat.lt_of_lt_of_le a2 (m 9), Nat.lt_of_lt_of_le a3 (m 4), Nat.lt_of_lt_of_le a4 (m 23), Nat.lt_of_lt_of_le a5 (m 37), Nat.le_trans a6 (m 21)⟩, ⟨Nat.lt_of_lt_of_le b.1 (m 8), ?_⟩, ⟨Nat.lt_of_lt_of_le p.1 (m 2), ?_⟩, ⟨?_, ?_, ?_, ?_, ?_, ?_, ?_, ?_⟩, ?_, ?_⟩
  · rw [(F.2.2.1 8 0 0 b.1 (x8 0)).2.1]; exact b.2
  · rw [(F.2.2.1 2 0 0 p.1 (x2 0)).2.1]; exact p.2
  · rw [f 0 (by decide) (by decide)]; exact r0
  · rw [f 2 (by decide) (by decide)]; exact r2
  · rw [f 4 (by decide) (by decide)]; exact r4
  · rw [f 5 (by decide) (by decide)]; exact r5
  · rw [f 6 (by decide) (by decide)]; exact r6
  · rw [f 7 (by decide) (by decide)]; exact r7
  · rw [f 8 (by decide) (by decide)]; exact r8
  · rw [f 9 (by decide) (by decide)]; exact r9
  · rw [F.2.1 23 0 (by omega)]; exact l1
  · rw [F.2.1 37 0 a5]; exact l2
theorem TaC.fr {T : Nat} {tx : Nat → Int32} (Q : TaC h T tx) (H : CsH h) (F : Fr X c z h h') (x10 : ¬ X 10 0 1) (x23 : ∀ j, ¬ X 23 0 j) : TaC h' T tx := by
  obtain ⟨⟨a1, a2, a3, a4, a5, a6⟩, -⟩ := H
  refine ⟨by rw [(F.2.2.1 10 0 1 a1 x10).1]; exact Q.1, fun j hj => ?_⟩
  rw [(F.2.2.1 23 0 j (by omega) (x23 j)).1]; exact Q.2 j hj
theorem ShOK.fr2 {s pa : Nat} {sh : Nat → Int32} (Q : ShOK h s pa sh) (F : Fr X c z h h') (x3 : ∀ a k, ¬ X 3 a k) (x21 : ∀ a k, 31 ≤ a → jLen h 21 a = 5 → ¬ X 21 a k) (x7 : ∀ k, k < 4 → ¬ X 7 s k) (x33 : ∀ k, ¬ X 33 pa k) : ShOK h' s pa sh := by
  obtain ⟨q1, q2, q3, q4, q5, q6, q7, q8⟩ := Q
  have f1 := F.1
  have f3 := F.2.2.1
  refine ⟨Nat.lt_of_lt_of_le q1 (f1 7), Nat.lt_of_lt_of_le q2 (f1 33), ?_, ?_, ?_, ?_, ?_, fun pl hpl => ?_⟩
  · rw [(f3 7 s 0 q1 (x7 0 (by decide))).1]; exact q3
  · rw [(f3 7 s 1 q1 (x7 1 (by decide))).1]; exact q4
  · rw [(f3 7 s 2 q1 (x7 2 (by decide))).1]; exact q5
  · rw [(f3 7 s 3 q1 (x7 3 (by decide))).2.1]; exact q6
  · rw [F.2.1 33 pa q2]; exact q7
  · have e := (f3 33 pa pl q2 (x33 pl)).2.1
    rcases q8 pl hpl with y | ⟨pt, da, y1, y2, y3, y4, y5⟩
    · exact Or.inl ⟨e.trans y.1, y.2⟩
    · exact Or.inr ⟨pt, da, e.trans y1, Nat.lt_of_lt_of_le y2 (f1 3), ⟨Nat.lt_of_lt_of_le y3.1 (f1 21), y3.2⟩, y4, y5.fr F y2 y3.1 (fun k => ⟨x3 pt k, x21 da k y3.2 y5.2.2.2.2.2.2.1⟩)⟩
theorem PoC.fr {s : Nat} {sh : Nat → Int32} (Q : PoC h s sh) (hs : s < jN h 7) (F : Fr X c z h h') (x21 : ∀ a k, 31 ≤ a → jLen h 21 a = 9 → ¬ X 21 a k) (x7 : ¬ X 7 s 4) : PoC h' s sh := by
  have e := (F.2.2.1 7 s 4 hs x7).2.1
  rcases Q with y | ⟨q, y1, y2, y3, y4, y5⟩
  · exact Or.inl (e.trans y)
  · refine Or.inr ⟨q, e.trans y1, y2, Nat.lt_of_lt_of_le y3 (F.1 21), ?_, fun t ht => ?_⟩
    · rw [F.2.1 21 q y3]; exact y4
    · rw [(F.2.2.1 21 q t y3 (x21 q t y2 y4)).1]; exact y5 t ht
theorem ShC.fr {L : List (Nat → Int32)} {si : Nat → Nat} (Q : ShC h L si) (H : CsH h) (F : Fr X c z h h') (x10 : ¬ X 10 0 3) (x37 : ∀ k, ¬ X 37 0 k) (x3 : ∀ a k, ¬ X 3 a k) (x21 : ∀ a k, 31 ≤ a → jLen h 21 a = 5 ∨ jLen h 21 a = 9 → ¬ X 21 a k) (x7 : ∀ a k, ¬ X 7 a k) (x33 : ∀ a k, ¬ X 33 a k) : ShC h' L si := by
  obtain ⟨⟨a1, a2, a3, a4, a5, a6⟩, -⟩ := H
  refine ⟨by rw [(F.2.2.1 10 0 3 a1 x10).1]; exact Q.1, fun k sh e => ?_, Q.2.2⟩
  obtain ⟨q1, pa, q2, q3⟩ := Q.2.1 k sh e
  refine ⟨?_, pa, q2.fr2 F x3 (fun a k h1 h2 => x21 a k h1 (Or.inl h2)) (fun k _ => x7 _ k) (x33 pa), q3.fr q2.1 F (fun a k h1 h2 => x21 a k h1 (Or.inr h2)) (x7 _ 4)⟩
  rw [(F.2.2.1 37 0 k a5 (x37 k)).2.1]; exact q1
theorem pb31 {k i : Nat} (hk : k < 6) (hi : i < 5) : pb k + i < 31 := by
  unfold pb
  split <;> omega
theorem BeC.fr {D : Nat → List Bod} {pk : Nat → Nat} {dr : Nat} (Q : BeC h D pk dr) (F : Fr X c z h h') (x0 : ∀ j, j < 4 → ¬ X 0 0 j) (x31 : ∀ j, ¬ X 31 0 j) (x1 : ∀ a j, ¬ X 1 a j) (x21 : ∀ a j, a < 31 → a ≠ 10 → ¬ X 21 a j) : BeC h' D pk dr := by
  obtain ⟨b, d1, d2⟩ := Q
  have sp := b.2.2.2.2.2.2.2.1
  have s0 := b.2.2.2.2.2.2.2.2.2.1
  exact ⟨b.fr F x0 x31 x1, fun o ho => (d1 o ho).fr (sp o ho) F (x1 _) (fun i j hi => x21 _ j (pb31 (sp o ho).1 hi) (pb10 hi)), d2.fr s0 F (x1 _) (fun i j hi => x21 _ j (pb31 s0.1 hi) (pb10 hi))⟩
theorem PnS.fr (Q : PnS h) (H : CsH h) (F : Fr X c z h h') (x4 : ∀ k, ¬ X 4 0 k) : PnS h' := by
  obtain ⟨⟨a1, a2, a3, a4, a5, a6⟩, -⟩ := H
  refine ⟨by rw [(F.2.2.1 4 0 0 a3 (x4 0)).2.1]; exact Q.1, ?_⟩
  rw [F.2.1 23 2 (by omega)]; exact Q.2
theorem PnC.fr {W : List Int32} (Q : PnC h W) (H : CsH h) (F : Fr X c z h h') (x4 : ∀ k, ¬ X 4 0 k) (x23 : ∀ k, ¬ X 23 2 k) : PnC h' W := by
  obtain ⟨⟨a1, a2, a3, a4, a5, a6⟩, -⟩ := H
  obtain ⟨q1, q2, q3, q4⟩ := Q
  refine ⟨q1, by rw [(F.2.2.1 4 0 1 a3 (x4 1)).1]; exact q2, fun i x e => ?_, q4⟩
  rw [(F.2.2.1 23 2 i (by omega) (x23 i)).1]; exact q3 i x e
theorem PerOK.fr {n : Nat} {mn : Nat → Bool} {pr : Nat → Option (Nat × Nat)} {sd : Nat → Nat} {mr : Nat → Option Nat} {i q : Nat} (Q : PerOK h n mn pr sd mr i q) (hi : i < jN h 5) (hq : q < jN h 21) (F : Fr X c z h h') (x5 : ∀ k, ¬ X 5 i k) : PerOK h' n mn pr sd mr i q := by
  obtain ⟨q0, q1, q2, q3, q4, q5, q6, q7, q8, q9, q10, q11⟩ := Q
  have f := fun k => F.2.2.1 5 i k hi (x5 k)
  refine ⟨?_, ?_, ?_, ?_, fun e => ?_, ?_, ?_, ?_, ?_, ?_, ?_, ?_⟩
  · rw [(f 0).1]; exact q0
  · rw [(f 1).1]; exact q1
  · rw [(f 2).2.1]; exact q2
  · rw [(f 3).2.1]; exact q3
  · rw [(f 4).1]; exact q4 e
  · rw [(f 5).1]; exact q5
  · rw [(f 6).1]; exact q6
  · rw [(f 7).2.1]; exact q7
  · rw [(f 8).1]; exact q8
  · rw [(f 9).1]; exact q9
  · rw [(f 10).2.1]; exact q10
  · rw [F.2.1 21 q hq]; exact q11
theorem ReC.fr {p : Pst} {qa : Nat → Nat} {g : Nat} (Q : ReC h p qa g) (F : Fr X c z h h') (hN : jN h' 5 = jN h 5) (x6 : ∀ k, ¬ X 6 0 k) (x35 : ∀ k, ¬ X 35 0 k) (x5 : ∀ a k, ¬ X 5 a k) (x21 : ∀ a k, 31 ≤ a → jLen h 21 a = 32 → ¬ X 21 a k) : ReC h' p qa g := by
  obtain ⟨⟨r0, r1, r2, r3, r4, r5, r6, r7, r8, r9⟩, g1, g2, g3⟩ := Q
  have f6 := fun k => F.2.2.1 6 0 k r8 (x6 k)
  refine ⟨⟨?_, ?_, ?_, ?_, fun i hi => ?_, fun i hi => ?_, fun i hi => ?_, r7, Nat.lt_of_lt_of_le r8 (F.1 6), Nat.lt_of_lt_of_le r9 (F.1 35)⟩, ?_, g2, fun e i hi => ?_⟩
  · rw [(f6 0).2.1]; exact r0
  · rw [F.2.1 35 0 r9]; exact r1
  · rw [(f6 1).1]; exact r2
  · rw [hN]; exact r3
  · rw [(F.2.2.1 35 0 i r9 (x35 i)).2.1]; exact r4 i hi
  · exact (r5 i hi).fr (by rw [r3]; exact hi) (r6 i hi).2 F (x5 i)
  · exact ⟨(r6 i hi).1, Nat.lt_of_lt_of_le (r6 i hi).2 (F.1 21)⟩
  · rw [(f6 2).1]; exact g1
  · obtain ⟨q1, q2, q3⟩ := g3 e i hi
    refine ⟨q1, ?_, fun j x e => ?_⟩
    · rw [(F.2.2.1 5 i 11 (by rw [r3]; exact hi) (x5 i 11)).1]; exact q2
    · rw [(F.2.2.1 21 (qa i) j (r6 i hi).2 (x21 _ j (r6 i hi).1 (r5 i hi).2.2.2.2.2.2.2.2.2.2.2)).1]; exact q3 j x e
end
/-! the reference -/
def RepR (S : Sta) (h : Hp) : Prop := RSh h ∧ jI h 11 0 1 = nI (tT S) ∧ (∀ j, j < tT S → jI h 22 0 j = vp_nar .byte (jI h 22 0 j) ∧ jI h 22 0 j &&& 255 = tX S j) ∧ jI h 11 0 11 = nI (tL S).length ∧ (∀ k sh, (tL S)[k]? = some sh → RsK h k sh) ∧ (∀ o, o < 4 → RpG h o (tD S o) (tD S o).length) ∧ RpG h 4 Dcm Dcm.length ∧ RnC h (tW S) ∧ jI h 11 0 32 = tR S ∧ PeR h (tP S).1 (tP S).2.1 (tP S).2.2.1 (tP S).2.2.2.1 (tP S).2.2.2.2
theorem PsT.mono {p : Pst} {a b : Nat} (V : PsT p a) (h : a ≤ b) (hb : b ≤ 60) : PsT p b := ⟨V.1, hb, V.2.2.1, fun i hi e => Nat.lt_of_lt_of_le (V.2.2.2.1 i hi e) h, V.2.2.2.2⟩
