/-! feed on both sides; the reference's takes -/
theorem bp_b (x : Int32) : x.toInt8.toInt32 &&& 255 = x &&& 255 := by
  apply Int32.toBitVec_inj.mp
  rw [Int32.toBitVec_and, Int32.toBitVec_and, Int8.toBitVec_toInt32, Int32.toBitVec_toInt8]
  apply BitVec.eq_of_getLsbD_eq
  intro i hi
  rw [BitVec.getLsbD_and, BitVec.getLsbD_and]
  have hm : ∀ i < 32, 8 ≤ i → (255 : Int32).toBitVec.getLsbD i = false := by decide
  rcases Nat.lt_or_ge i 8 with z | z
  · rw [BitVec.getLsbD_signExtend, BitVec.getLsbD_signExtend, if_pos z, if_pos hi]
    simp only [z, hi, decide_true, Bool.true_and]
  · rw [hm i hi z]; simp
theorem and255 (x : Int32) : ∃ j, j < 256 ∧ x &&& 255 = nI j := by
  refine ⟨x.toBitVec.toNat % 256, Nat.mod_lt _ (by decide), ?_⟩
  apply Int32.toBitVec_inj.mp
  apply BitVec.eq_of_toNat_eq
  rw [Int32.toBitVec_and, BitVec.toNat_and]
  have e1 : (255 : Int32).toBitVec.toNat = 2 ^ 8 - 1 := by decide
  rw [e1, Nat.and_two_pow_sub_one_eq_mod]
  show x.toBitVec.toNat % 256 = (BitVec.ofNat 32 (x.toBitVec.toNat % 256)).toNat
  rw [BitVec.toNat_ofNat]
  exact (Nat.mod_eq_of_lt (by have := Nat.mod_lt x.toBitVec.toNat (show 256 > 0 by decide); omega)).symm
theorem chr_all : (List.range 256).all (fun j => decide (vp_nar .char (((nI j).toUInt32 % 65536).toInt32) = nI j) && inS 0 255 (nI j)) = true := by decide +kernel
theorem chr255 (x : Int32) : vp_nar .char (((x &&& 255).toUInt32 % 65536).toInt32) = x &&& 255 ∧ inS 0 255 (x &&& 255) = true := by
  obtain ⟨j, hj, e⟩ := and255 x
  have h := List.all_eq_true.mp chr_all j (List.mem_range.mpr hj)
  simp only [Bool.and_eq_true, decide_eq_true_eq] at h
  rw [e]
  exact h
theorem shb {v b : Int32} {c : UInt32} {s : Nat} (hs : s ≤ 24) (hb : (b.toBitVec.smod 32).toNat = s) (hc : c.toNat = s) : (v >>> b) &&& 255 = ((v.toUInt32 >>> c).toInt32) &&& 255 := by
  have e : (v.toUInt32 >>> c).toInt32.toBitVec = v.toBitVec >>> s := by
    apply BitVec.eq_of_toNat_eq
    show (v.toUInt32 >>> c).toNat = _
    rw [UInt32.toNat_shiftRight, hc, Nat.mod_eq_of_lt (by omega), BitVec.toNat_ushiftRight]
    rfl
  have e2 : (v >>> b).toBitVec = v.toBitVec.sshiftRight s := by
    rw [Int32.toBitVec_shiftRight]
    show v.toBitVec.sshiftRight (b.toBitVec.smod 32).toNat = _
    rw [hb]
  apply Int32.toBitVec_inj.mp
  rw [Int32.toBitVec_and, Int32.toBitVec_and, e, e2]
  apply BitVec.eq_of_getLsbD_eq
  intro i hi
  rw [BitVec.getLsbD_and, BitVec.getLsbD_and]
  have hm : ∀ i < 32, 8 ≤ i → (255 : Int32).toBitVec.getLsbD i = false := by decide
  rcases Nat.lt_or_ge i 8 with z | z
  · rw [BitVec.getLsbD_sshiftRight, BitVec.getLsbD_ushiftRight, if_pos (by omega), decide_eq_false (by omega)]
    simp only [Bool.not_false, Bool.true_and]
  · rw [hm i hi z]; simp
/-- a byte of an int: the one that stands m bytes above the lowest -/
def by4 (v : Int32) (m : Nat) : Int32 := ((v.toUInt32 >>> ((nI (8 * m)).toUInt32 &&& Int32.toUInt32 31)).toInt32) &&& 255
def lay (tx : Nat → Int32) (T : Nat) (v : Int32) : Nat → Int32 := fun j => if j < T then tx j else by4 v (3 - (j - T))
theorem lay_b {tx : Nat → Int32} {T : Nat} {v : Int32} (h : Byt tx) : Byt (lay tx T v) := fun j => by
  unfold lay
  split
  · exact h j
  · exact (chr255 _).2
def XF : Nat → Nat → Nat → Prop := fun t a k => (t = 23 ∧ a = 0) ∨ (t = 10 ∧ a = 0 ∧ k = 1)
theorem c88 {d T : Nat} {v : Int32} {tx : Nat → Int32} {h0 : Hp} {K : Hp → Prop} {P : Nat → List AV → List AV → Hp → Prop} (hP : Cl (Call d) 88 (fun v h' => v = none ∧ K h') P) (r0 : jR h0 10 0 0 = some 0) (n0 : jLen h0 23 0 = 240) (hT : T + 4 ≤ 240) (k : ∀ h', EqX XF h0 h' → TaC h' (T + 4) (lay tx T v) → K h') : ∀ (m : Nat) (h : Hp), m ≤ 4 → EqX XF h0 h → TaC h (T + (4 - m)) (lay tx T v) → P 3 [vR 10 (some 0), vI v, vI (nI (8 * m) + (-8))] [] h
  | 0, h, hm, E, Q => v88_3 hP 0 v _ h ⟨fun _ => ⟨rfl, k h E Q⟩, fun c => absurd (by decide) c⟩
  | m + 1, h, hm, E, Q => by
    have it : ix (nI (T + (4 - (m + 1)))) = T + (4 - (m + 1)) := nI_clamp (by omega)
    have e1 := Q.1
    rw [nI_8]
    refine v88_3 hP 0 v _ h ⟨fun c => absurd c (nI_pos (by omega)), fun _ => ⟨fun c => absurd (by rw [e1] at c; exact c) (nI_ge (b := 240) (by omega) (by decide)), fun _ => dr_of (by rw [E.2.2.1]; exact r0) ⟨by rw [e1, E.2.1, n0]; exact vp_in_nI (by omega) (by decide), fun h2 e2 => ?_⟩⟩⟩
    rw [e1, it, (chr255 _).1, jI_t (by decide), e1, nI_1] at e2
    have hp : T + (4 - m) = T + (4 - (m + 1)) + 1 := by omega
    subst e2
    refine c88 hP r0 n0 hT k m _ (by omega) ((E.wI _ (Or.inl ⟨rfl, rfl⟩)).wI _ (Or.inr ⟨rfl, rfl, rfl⟩)) ⟨?_, fun j hj => ?_⟩
    · rw [jI_same, hp]
    · rw [jI_t (by decide)]
      by_cases z : j = T + (4 - (m + 1))
      · rw [z, jI_same]
        unfold lay
        rw [if_neg (by omega), show 3 - (T + (4 - (m + 1)) - T) = m by omega]
        rfl
      · rw [jI_k z]
        exact Q.2 j (by omega)
theorem s88 {d T : Nat} {v : Int32} {tx : Nat → Int32} {h : Hp} {K : Hp → Prop} (r0 : jR h 10 0 0 = some 0) (n0 : jLen h 23 0 = 240) (hT : T + 4 ≤ 240) (Q : TaC h T tx) (k : ∀ h', EqX XF h h' → TaC h' (T + 4) (lay tx T v) → K h') : CV (d + 1) 88 [vR 10 (some 0), vI v] h K := by
  intro P hP
  refine v88 hP 0 v h (c88 hP r0 n0 hT k 4 h (by decide) (EqX.refl _ h) ⟨Q.1, fun j hj => ?_⟩)
  unfold lay
  rw [if_pos (by omega)]
  exact Q.2 j (by omega)
def lay5 (tx : Nat → Int32) (T : Nat) (a b c d e : Int32) : Nat → Int32 := lay (lay (lay (lay (lay tx T a) (T + 4) b) (T + 4 + 4) c) (T + 4 + 4 + 4) d) (T + 4 + 4 + 4 + 4) e
def setT (S : Sta) (T : Nat) (tx : Nat → Int32) : Sta := ((T, tx), S.2)
def feedA (S : Sta) (a b c d e : Int32) : Int32 × Sta := if tT S + 20 ≤ 240 then (nI (tT S + 20), setT S (tT S + 20) (lay5 (tX S) (tT S) a b c d e)) else (-1, S)
theorem V_feed {S : Sta} {a b c d e : Int32} (V : StV S) : StV (feedA S a b c d e).2 := by
  obtain ⟨v1, v2, v3, v4, v5, v6⟩ := id V
  unfold feedA
  split
  · rename_i h
    exact ⟨h, lay_b (lay_b (lay_b (lay_b (lay_b v2)))), v3, v4, v5, v6⟩
  · exact V
theorem C87 {dd : Nat} {S : Sta} {K : Int32 → Hp → Prop} {h : Hp} {a b c d e : Int32} (V : StV S) (R : RepC S h) (k : ∀ h', RepC (feedA S a b c d e).2 h' → Gr h h' → K (feedA S a b c d e).1 h') : CI (dd + 2) 87 [vR 10 (some 0), vI a, vI b, vI c, vI d, vI e] h K := by
  intro P hP
  obtain ⟨H, T, ⟨si, Q⟩, ⟨pk, dr, B⟩, er, p1, p2, qa, g, G⟩ := id R
  have hv := V.1
  have e20 : jI h 10 0 1 + 20 = nI (tT S + 20) := by rw [T.1]; exact nI_add _ 20
  unfold feedA at k
  refine v87 hP 0 a b c d e h ⟨fun cc => ?_, fun cc => ⟨_, rfl, ?_⟩⟩
  · have hT : tT S + 20 ≤ 240 := by
      rw [e20] at cc
      rcases Nat.lt_or_ge 240 (tT S + 20) with z | z
      · exact absurd cc (nI_ge (a := 240) z (by omega))
      · exact z
    rw [if_pos hT] at k
    have r0 := H.2.2.2.1.1
    have n0 := H.2.2.2.2.1
    refine s88 r0 n0 (by omega) T (fun h1 E1 T1 => s88 (by rw [E1.2.2.1]; exact r0) (by rw [E1.2.1]; exact n0) (by omega) T1 (fun h2 E2 T2 => ?_))
    have E12 := E1.trans E2
    refine s88 (by rw [E12.2.2.1]; exact r0) (by rw [E12.2.1]; exact n0) (by omega) T2 (fun h3 E3 T3 => ?_)
    have E13 := E12.trans E3
    refine s88 (by rw [E13.2.2.1]; exact r0) (by rw [E13.2.1]; exact n0) (by omega) T3 (fun h4 E4 T4 => ?_)
    have E14 := E13.trans E4
    refine s88 (by rw [E14.2.2.1]; exact r0) (by rw [E14.2.1]; exact n0) (by omega) T4 (fun h5 E5 T5 => ?_)
    have E := E14.trans E5
    have F := E.fr
    have x : ∀ t a k, t ≠ 23 → t ≠ 10 → ¬ XF t a k := fun t a k h1 h2 z => by
      rcases z with z | z
      · exact h1 z.1
      · exact h2 z.1
    have x10 : ∀ k, k ≠ 1 → ¬ XF 10 0 k := fun k h1 z => by
      rcases z with z | z
      · cases z.1
      · exact h1 z.2.2
    have x23 : ∀ k, ¬ XF 23 2 k := fun k z => by
      rcases z with z | z
      · cases z.2
      · cases z.1
    refine ⟨_, rfl, ?_⟩
    rw [T5.1]
    refine k h5 ⟨H.fr F (fun k h1 _ => x10 k h1) (fun k => x _ _ _ (by decide) (by decide)) (fun k => x _ _ _ (by decide) (by decide)), T5, ⟨si, Q.fr H F (x10 3 (by decide)) (fun k => x _ _ _ (by decide) (by decide)) (fun a k => x _ _ _ (by decide) (by decide)) (fun a k _ _ => x _ _ _ (by decide) (by decide)) (fun a k => x _ _ _ (by decide) (by decide)) (fun a k => x _ _ _ (by decide) (by decide))⟩, ⟨pk, dr, B.fr F (fun j _ => x _ _ _ (by decide) (by decide)) (fun j => x _ _ _ (by decide) (by decide)) (fun a j => x _ _ _ (by decide) (by decide)) (fun a j _ _ => x _ _ _ (by decide) (by decide))⟩, by rw [E.I (x _ _ _ (by decide) (by decide))]; exact er, p1.fr H F (fun k => x _ _ _ (by decide) (by decide)), p2.fr H F (fun k => x _ _ _ (by decide) (by decide)) x23, qa, g, G.fr F (by rw [E.1]) (fun k => x _ _ _ (by decide) (by decide)) (fun k => x _ _ _ (by decide) (by decide)) (fun a k => x _ _ _ (by decide) (by decide)) (fun a k _ _ => x _ _ _ (by decide) (by decide))⟩ (F.gr (by decide) (by decide))
  · have hT : ¬ tT S + 20 ≤ 240 := fun z => cc (by rw [e20]; exact nI_le (b := 240) z (by decide))
    rw [if_neg hT] at k
    exact k h R (Gr.rf h)
/-! the reference -/
def TaR (h : Hp) (T : Nat) (tx : Nat → Int32) : Prop := jI h 11 0 1 = nI T ∧ ∀ j, j < T → jI h 22 0 j = vp_nar .byte (jI h 22 0 j) ∧ jI h 22 0 j &&& 255 = tx j
def XFr : Nat → Nat → Nat → Prop := fun t a k => (t = 22 ∧ a = 0) ∨ (t = 11 ∧ a = 0 ∧ k = 1)
theorem sh_m : ∀ m, m ≤ 3 → ((((8 : Int32) * nI m) &&& 31).toBitVec.smod 32).toNat = 8 * m ∧ ((nI (8 * m)).toUInt32 &&& Int32.toUInt32 31).toNat = 8 * m := by decide +kernel
theorem by4_r (v : Int32) {m : Nat} (hm : m ≤ 3) : vp_nar .byte ((v >>> (((8 : Int32) * nI m) &&& 31)).toInt8.toInt32) = vp_nar .byte (vp_nar .byte ((v >>> (((8 : Int32) * nI m) &&& 31)).toInt8.toInt32)) ∧ vp_nar .byte ((v >>> (((8 : Int32) * nI m) &&& 31)).toInt8.toInt32) &&& 255 = by4 v m := by
  rw [pk_vb]
  refine ⟨(pk_vb _).symm, ?_⟩
  rw [bp_b]
  exact shb (s := 8 * m) (by omega) (sh_m m hm).1 (sh_m m hm).2
theorem c119 {d T : Nat} {v : Int32} {tx : Nat → Int32} {h0 : Hp} {K : Hp → Prop} {P : Nat → List AV → List AV → Hp → Prop} (hP : Cl (Call d) 119 (fun v h' => v = none ∧ K h') P) (S : RSh h0) (hT : T + 4 ≤ 240) (k : ∀ h', EqX XFr h0 h' → TaR h' (T + 4) (lay tx T v) → K h') : ∀ (m : Nat) (h : Hp), m ≤ 4 → EqX XFr h0 h → TaR h (T + (4 - m)) (lay tx T v) → P 2 [vR 11 (some 0), vI v, vI (nI m + (-1))] [] h
  | 0, h, hm, E, Q => v119_2 hP 0 v _ h ⟨fun _ => ⟨rfl, k h E Q⟩, fun c => absurd (by decide) c⟩
  | m + 1, h, hm, E, Q => by
    have it : ix (nI (T + (4 - (m + 1)))) = T + (4 - (m + 1)) := nI_clamp (by omega)
    have e1 := Q.1
    have S1 := E.sh S
    rw [pk_m1]
    refine v119_2 hP 0 v _ h ⟨fun c => absurd c (nI_pos (by omega)), fun _ => dr_of S1.r0 ⟨by rw [e1, S1.n0]; exact vp_in_nI (by omega) (by decide), fun h2 e2 => ?_⟩⟩
    rw [e1, it, jI_t (by decide), e1, nI_1] at e2
    have hp : T + (4 - m) = T + (4 - (m + 1)) + 1 := by omega
    have hb := by4_r v (show m ≤ 3 by omega)
    subst e2
    refine c119 hP S hT k m _ (by omega) ((E.wI _ (Or.inl ⟨rfl, rfl⟩)).wI _ (Or.inr ⟨rfl, rfl, rfl⟩)) ⟨?_, fun j hj => ?_⟩
    · rw [jI_same, hp]
    · rw [jI_t (by decide)]
      by_cases z : j = T + (4 - (m + 1))
      · rw [z, jI_same]
        unfold lay
        rw [if_neg (by omega), show 3 - (T + (4 - (m + 1)) - T) = m by omega]
        exact hb
      · rw [jI_k z]
        exact Q.2 j (by omega)
theorem s119 {d T : Nat} {v : Int32} {tx : Nat → Int32} {h : Hp} {K : Hp → Prop} (S : RSh h) (hT : T + 4 ≤ 240) (Q : TaR h T tx) (k : ∀ h', EqX XFr h h' → TaR h' (T + 4) (lay tx T v) → K h') : CV (d + 1) 119 [vR 11 (some 0), vI v] h K := by
  intro P hP
  refine v119 hP 0 v h (c119 hP S hT k 4 h (by decide) (EqX.refl _ h) ⟨Q.1, fun j hj => ?_⟩)
  unfold lay
  rw [if_pos (by omega)]
  exact Q.2 j (by omega)
theorem RepR.f {S : Sta} {h h' : Hp} {X : Nat → Nat → Nat → Prop} {T : Nat} {tx : Nat → Int32} (R : RepR S h) (E : EqX X h h') (Q : TaR h' T tx) (x11 : ∀ k, k = 11 ∨ k = 17 ∨ k = 32 ∨ k = 40 → ¬ X 11 0 k) (x22 : ∀ j, ¬ X 22 2 j) (x24 : ∀ j, ¬ X 24 0 j) (x21 : ∀ a k, ¬ X 21 a k) : RepR (setT S T tx) h' := by
  obtain ⟨r1, r2, r3, r4, r5, r6, r7, r8, r9, r10⟩ := R
  refine ⟨E.sh r1, Q.1, Q.2, ?_, fun k sh e => ?_, fun o ho => ?_, ?_, ?_, ?_, ?_⟩
  · rw [E.I (x11 11 (by decide))]; exact r4
  · exact (r5 k sh e).eqX E (fun a k _ => x21 a k)
  · exact (r6 o ho).eqX E (fun a k _ _ => x21 a k)
  · exact r7.eqX E (fun a k _ _ => x21 a k)
  · exact r8.eqX E (x11 17 (by decide)) x22
  · rw [E.I (x11 32 (by decide))]; exact r9
  · exact r10.eq E (x11 40 (by decide)) x24 (fun a i _ _ => x21 a i)
theorem D118 {dd : Nat} {S : Sta} {K : Int32 → Hp → Prop} {h : Hp} {a b c d e : Int32} (V : StV S) (R : RepR S h) (k : ∀ h', RepR (feedA S a b c d e).2 h' → jC h' = jC h → jZ h' = jZ h → K (feedA S a b c d e).1 h') : CI (dd + 2) 118 [vR 11 (some 0), vI a, vI b, vI c, vI d, vI e] h K := by
  intro P hP
  obtain ⟨r1, r2, r3, -⟩ := id R
  have hv := V.1
  have e20 : jI h 11 0 1 + 20 = nI (tT S + 20) := by rw [r2]; exact nI_add _ 20
  unfold feedA at k
  refine v118 hP 0 a b c d e h ⟨fun cc => ?_, fun cc => ⟨_, rfl, ?_⟩⟩
  · have hT : tT S + 20 ≤ 240 := by
      rw [e20] at cc
      rcases Nat.lt_or_ge 240 (tT S + 20) with z | z
      · exact absurd cc (nI_ge (a := 240) z (by omega))
      · exact z
    rw [if_pos hT] at k
    refine s119 r1 (by omega) ⟨r2, r3⟩ (fun h1 E1 T1 => s119 (E1.sh r1) (by omega) T1 (fun h2 E2 T2 => ?_))
    have E12 := E1.trans E2
    refine s119 (E12.sh r1) (by omega) T2 (fun h3 E3 T3 => ?_)
    have E13 := E12.trans E3
    refine s119 (E13.sh r1) (by omega) T3 (fun h4 E4 T4 => ?_)
    have E14 := E13.trans E4
    refine s119 (E14.sh r1) (by omega) T4 (fun h5 E5 T5 => ?_)
    have E := E14.trans E5
    refine ⟨_, rfl, ?_⟩
    rw [T5.1]
    refine k h5 (R.f E T5 (fun k hk z => ?_) (fun j z => ?_) (fun j z => ?_) (fun a k z => ?_)) E.2.2.2.2.1 E.2.2.2.2.2.1
    · rcases z with z | z
      · cases z.1
      · omega
    · rcases z with z | z
      · cases z.2
      · cases z.1
    · rcases z with z | z <;> cases z.1
    · rcases z with z | z <;> cases z.1
  · have hT : ¬ tT S + 20 ≤ 240 := fun z => cc (by rw [e20]; exact nI_le (b := 240) z (by decide))
    rw [if_neg hT] at k
    exact k h R rfl rfl
