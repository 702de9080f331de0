/-! the class's numberOf, choice -/
theorem BnS.fr {X : Nat → Nat → Nat → Prop} {c z dr : Nat} {pk : Nat → Nat} {G G' : Hp} (B : BnS G pk dr) (F : Fr X c z G G') (h0 : ∀ j, j < 4 → ¬ X 0 0 j) (h31 : ∀ j, ¬ X 31 0 j) (h1 : ∀ a j, ¬ X 1 a j) : BnS G' pk dr := by
  obtain ⟨b1, b2, b3, b4, b5, b6, b7, b8, b9, b10, b11⟩ := B
  have f0 := fun j (hj : j < 4) => (F.2.2.1 0 0 j b1.1 (h0 j hj)).2.1
  refine ⟨⟨Nat.lt_of_lt_of_le b1.1 (F.1 0), Nat.lt_of_lt_of_le b1.2.1 (F.1 21), (f0 3 (by decide)).trans b1.2.2.1, (F.2.1 21 10 b1.2.1).trans b1.2.2.2⟩, Nat.lt_of_lt_of_le b2 (F.1 31), (f0 0 (by decide)).trans b3, (f0 1 (by decide)).trans b4, (F.2.1 31 0 b2).trans b5, fun o ho => ((F.2.2.1 31 0 o b2 (h31 o)).2.1).trans (b6 o ho), (f0 2 (by decide)).trans b7, fun o ho => (b8 o ho).fr F (fun j => h1 _ j), b9.fr F (fun j => h1 _ j), b10.fr F (fun j => h1 _ j), b11⟩
theorem BnS.x10 {dr : Nat} {pk : Nat → Nat} {G G' : Hp} (B : BnS G pk dr) (F : Fr X10 0 0 G G') : BnS G' pk dr := B.fr F (fun j _ z => absurd z.1 (by decide)) (fun j z => absurd z.1 (by decide)) (fun a j z => absurd z.1 (by decide))
theorem ShOK.x10 {s pa : Nat} {sh : Nat → Int32} {G G' : Hp} (Q : ShOK G s pa sh) (F : Fr X10 0 0 G G') : ShOK G' s pa sh := Q.fr F ⟨fun a k z => absurd z.1 (by decide), fun a k h31 z => by have := z.2; omega, fun k _ z => absurd z.1 (by decide), fun k z => absurd z.1 (by decide)⟩
def l7S (m : Nat) : Int32 := if m = 8 then -1 else nI (7 - m)
theorem n10 {d s pa pt da pl r o kind dr : Nat} {pk : Nat → Nat} {sh : Nat → Int32} {Do Dc : List Bod} {h0 : Hp} {K : Int32 → Hp → Prop} {P : Nat → List AV → List AV → Hp → Prop} (hP : Cl (Call (d + 5)) 3 (fun v h' => ∃ x, v = some (vI x) ∧ K x h') P) (B : BnS h0 pk dr) (Qo : PkC h0 (pk o) Do) (Qc : PkC h0 0 Dc) (Vo : ∀ b ∈ Do, BoV b) (Vc : ∀ b ∈ Dc, BoV b) (Q : ShOK h0 s pa sh) (V : OnV sh) (hpl : pl < 7) (hn : ¬ sh (3 + 9 * pl) = 0) (h3 : pt < jN h0 3) (h21 : da < jN h0 21 ∧ 31 ≤ da) (Qp : PtOK h0 pt da pl (fun i => sh (3 + 9 * pl + i))) (ek : sh (3 + 9 * pl + 0) = nI kind) (hk : kind < 31) (ho : o < 4) (kk : ∀ h', Fr X10 0 0 h0 h' → K (nvM (sfS Do Dc r kind) (vlS sh pl) 8).1 (wI h' 0 0 4 (jI h' 0 0 4 + (nvM (sfS Do Dc r kind) (vlS sh pl) 8).2))) : ∀ (mm m : Nat) (w8 w9 : AV) (h : Hp), m + mm = 8 → Fr X10 0 0 h0 h → P 10 [vR 0 (some 0), vR 7 (some s), vR 3 (some pt), vI (nI r), vI (nI o), vI (nvM (sfS Do Dc r kind) (vlS sh pl) m).1, vI (nvM (sfS Do Dc r kind) (vlS sh pl) m).2, vI (l7S m), w8, w9] [] h
  | 0, m, w8, w9, h, hm, F => by
    have e : m = 8 := by omega
    subst e
    exact v3_10 hP 0 (some s) (some pt) (nI r) (nI o) _ _ (-1) w8 w9 h ⟨fun _ => ⟨_, rfl, kk h F⟩, fun c => absurd (by decide) c⟩
  | mm + 1, m, w8, w9, h, hm, F => by
    have e7 : l7S m = nI (7 - m) := if_neg (by omega)
    have e8 : nI (7 - m) + (-1) = l7S (m + 1) := by
      unfold l7S
      by_cases z : m + 1 = 8
      · rw [if_pos z, show 7 - m = 0 by omega]; decide
      · rw [if_neg z, show 7 - m = (7 - (m + 1)) + 1 by omega]; exact pk_m1 _
    have B1 := B.x10 F
    have Q1 := Q.x10 F
    have Qp1 := Qp.fr F h3 h21.1 (fun k => ⟨fun z => absurd z.1 (by decide), fun z => by have := z.2; omega⟩)
    have ekh : jI h 3 pt 1 = nI kind := by rw [Qp1.2.1]; exact ek
    have Qoh := Qo.fr (B.2.2.2.2.2.2.2.1 o ho) F x10p.1 x10p.2
    have Qch := Qc.fr B.2.2.2.2.2.2.2.2.2.1 F x10p.1 x10p.2
    rw [e7]
    refine v3_10 hP 0 (some s) (some pt) (nI r) (nI o) _ _ (nI (7 - m)) w8 w9 h ⟨fun c => absurd c (nI_pos (by omega)), fun _ => s4 B1 (by omega) ho (dr_of rfl ?_)⟩
    rw [ekh]
    refine s5 hk (by omega) (dr_of rfl ?_)
    -- the pack of the seat
    have hD : ∃ D, D = (if (7 - m) % 2 = 0 then Do else Dc) ∧ PkS h (if (7 - m) % 2 = 0 then pk o else 0) ∧ PkC h (if (7 - m) % 2 = 0 then pk o else 0) D ∧ ∀ b ∈ D, BoV b := by
      by_cases z : (7 - m) % 2 = 0
      · rw [if_pos z, if_pos z]; exact ⟨Do, rfl, B1.2.2.2.2.2.2.2.1 o ho, Qoh, Vo⟩
      · rw [if_neg z, if_neg z]; exact ⟨Dc, rfl, B1.2.2.2.2.2.2.2.2.2.1, Qch, Vc⟩
    obtain ⟨D, eD, SD, QD, VD⟩ := hD
    generalize (if (7 - m) % 2 = 0 then pk o else 0) = pp at SD QD ⊢
    refine s13 SD QD ?_
    have esf : sfS Do Dc r kind (7 - m) = (fnd D (nI r) (tnI (fmI ((7 - m) / 2) kind)) 0).bind (fun i => D[i]?) := by
      unfold sfS
      rw [← eD]
    rw [e8]
    cases hf : fnd D (nI r) (tnI (fmI ((7 - m) / 2) kind)) 0 with
    | none =>
      refine ⟨fun _ => ?_, fun z => absurd rfl z⟩
      have es : sfS Do Dc r kind (7 - m) = none := by rw [esf, hf]; rfl
      have ih := n10 hP B Qo Qc Vo Vc Q V hpl hn h3 h21 Qp ek hk ho kk mm (m + 1) (vR 1 (some pp)) (vI (-1)) h (by omega) F
      have en : nvM (sfS Do Dc r kind) (vlS sh pl) (m + 1) = nvM (sfS Do Dc r kind) (vlS sh pl) m := by
        show (match sfS Do Dc r kind (7 - m) with
          | none => nvM (sfS Do Dc r kind) (vlS sh pl) m
          | some b => _) = _
        rw [es]
      rw [en] at ih
      exact ih
    | some i =>
      obtain ⟨t, b, e1, e2, e3, e4⟩ := fnd_at hf
      have ei : i = t := by omega
      subst ei
      have hi : i < D.length := by
        have := fnd_lt hf
        omega
      have h12 := QD.1
      have es : sfS Do Dc r kind (7 - m) = some b := by rw [esf, hf]; exact e2
      have bv := VD b (List.mem_of_getElem? e2)
      have en : nvM (sfS Do Dc r kind) (vlS sh pl) (m + 1) = (evB (vlS sh pl) (nvM (sfS Do Dc r kind) (vlS sh pl) m).1 b.2.2, 1 + nI (b.2.2.count 10008) * (nvM (sfS Do Dc r kind) (vlS sh pl) m).2) := by
        show (match sfS Do Dc r kind (7 - m) with
          | none => nvM (sfS Do Dc r kind) (vlS sh pl) m
          | some b => (evB (vlS sh pl) (nvM (sfS Do Dc r kind) (vlS sh pl) m).1 b.2.2, 1 + nI (b.2.2.count 10008) * (nvM (sfS Do Dc r kind) (vlS sh pl) m).2)) = _
        rw [es]
      refine ⟨fun z => absurd z (nI_m1 (by omega)), fun _ => ?_⟩
      refine s6 (val := vlS sh pl) B1.1 SD QD e2 bv.2.2.1 bv.2.2.2 (fun h' F' w hw K2 kw => s8 (Q1.x10 F') V hpl hn (Qp1.fr F' (Nat.lt_of_lt_of_le h3 (F.1 3)) (Nat.lt_of_lt_of_le h21.1 (F.1 21)) (fun k => ⟨fun z => absurd z.1 (by decide), fun z => by have := z.2; omega⟩)) hw kw) (fun h' F' => ?_)
      have SD' := SD.fr F' x10p.1
      have QD' := QD.fr SD F' x10p.1 x10p.2
      refine dr_of rfl (dr_of SD'.2.2.2.2.2.2.1 ⟨by rw [SD'.2.2.2.2.2.2.2.2.2.2.2.1]; exact vp_in_nI (by omega) (by decide), ?_⟩)
      have ih := n10 hP B Qo Qc Vo Vc Q V hpl hn h3 h21 Qp ek hk ho kk mm (m + 1) (vR 1 (some pp)) (vI (nI i)) h' (by omega) (fr00 F F')
      rw [en] at ih
      have im : ix (mR (some i)) = i := nI_clamp (by omega)
      rw [im, (QD'.2.2.2.2.2.1 i b e2).2.2]
      exact ih
/-- numberOf(shield, piece, rule, office) -/
theorem s3 {d s pa pt da pl r o kind dr : Nat} {pk : Nat → Nat} {sh : Nat → Int32} {Do Dc : List Bod} {h : Hp} {K : Int32 → Hp → Prop} (B : BnS h pk dr) (Qo : PkC h (pk o) Do) (Qc : PkC h 0 Dc) (Vo : ∀ b ∈ Do, BoV b) (Vc : ∀ b ∈ Dc, BoV b) (Q : ShOK h s pa sh) (V : OnV sh) (hpl : pl < 7) (hn : ¬ sh (3 + 9 * pl) = 0) (h3 : pt < jN h 3) (h21 : da < jN h 21 ∧ 31 ≤ da) (Qp : PtOK h pt da pl (fun i => sh (3 + 9 * pl + i))) (ek : sh (3 + 9 * pl + 0) = nI kind) (hk : kind < 31) (ho : o < 4) (kk : ∀ h', Fr X10 0 0 h h' → K (nvM (sfS Do Dc r kind) (vlS sh pl) 8).1 (wI h' 0 0 4 (jI h' 0 0 4 + (nvM (sfS Do Dc r kind) (vlS sh pl) 8).2))) : CI (d + 6) 3 [vR 0 (some 0), vR 7 (some s), vR 3 (some pt), vI (nI r), vI (nI o)] h K := fun P hP => v3 hP 0 (some s) (some pt) (nI r) (nI o) h (n10 hP B Qo Qc Vo Vc Q V hpl hn h3 h21 Qp ek hk ho kk 8 0 un un h rfl (Fr.refl _ _))
/-- which kind's body is taken, from a seat on, over m seats -/
def chsS (Do Dc : List Bod) (r k : Nat) : Nat → Nat → Int32
  | _, 0 => -1
  | s, m + 1 => match sfS Do Dc r k s with
    | none => chsS Do Dc r k (s + 1) m
    | some _ => tnI (fmI (s / 2) k) + (if s % 2 = 0 then 32 else 0)
theorem c3 {d r o kind dr : Nat} {pk : Nat → Nat} {Do Dc : List Bod} {h : Hp} {K : Int32 → Hp → Prop} {P : Nat → List AV → List AV → Hp → Prop} (hP : Cl (Call (d + 3)) 9 (fun v h' => ∃ x, v = some (vI x) ∧ K x h') P) (B : BnS h pk dr) (Qo : PkC h (pk o) Do) (Qc : PkC h 0 Dc) (hk : kind < 31) (ho : o < 4) : ∀ (mm t : Nat) (w5 : AV), t + mm = 8 → K (chsS Do Dc r kind t mm) h → P 3 [vR 0 (some 0), vI (nI kind), vI (nI r), vI (nI o), vI (nI t), w5] [] h
  | 0, t, w5, ht, kk => v9_3 hP 0 (nI kind) (nI r) (nI o) (nI t) w5 h ⟨fun _ => ⟨_, rfl, kk⟩, fun c => absurd (nI_le (a := 8) (by omega) (by omega)) c⟩
  | mm + 1, t, w5, ht, kk => by
    refine v9_3 hP 0 (nI kind) (nI r) (nI o) (nI t) w5 h ⟨fun c => absurd c (nI_ge (b := 8) (by omega) (by omega)), fun _ => s5 hk (by omega) (s4 B (by omega) ho (dr_of rfl ?_))⟩
    have hD : ∃ D, D = (if t % 2 = 0 then Do else Dc) ∧ PkS h (if t % 2 = 0 then pk o else 0) ∧ PkC h (if t % 2 = 0 then pk o else 0) D := by
      by_cases z : t % 2 = 0
      · rw [if_pos z, if_pos z]; exact ⟨Do, rfl, B.2.2.2.2.2.2.2.1 o ho, Qo⟩
      · rw [if_neg z, if_neg z]; exact ⟨Dc, rfl, B.2.2.2.2.2.2.2.2.2.1, Qc⟩
    obtain ⟨D, eD, SD, QD⟩ := hD
    generalize (if t % 2 = 0 then pk o else 0) = pp at SD QD ⊢
    refine s13 SD QD ?_
    have esf : sfS Do Dc r kind t = (fnd D (nI r) (tnI (fmI (t / 2) kind)) 0).bind (fun i => D[i]?) := by
      unfold sfS
      rw [← eD]
    have kk : K (match sfS Do Dc r kind t with
      | none => chsS Do Dc r kind (t + 1) mm
      | some _ => tnI (fmI (t / 2) kind) + (if t % 2 = 0 then 32 else 0)) h := kk
    cases hf : fnd D (nI r) (tnI (fmI (t / 2) kind)) 0 with
    | none =>
      have es : sfS Do Dc r kind t = none := by rw [esf, hf]; rfl
      rw [es] at kk
      refine ⟨fun _ => ?_, fun z => absurd rfl z⟩
      rw [nI_1]
      exact c3 hP B Qo Qc hk ho mm (t + 1) _ (by omega) kk
    | some i =>
      obtain ⟨t2, b, e1, e2, e3, e4⟩ := fnd_at hf
      have ei : i = t2 := by omega
      subst ei
      have es : sfS Do Dc r kind t = some b := by rw [esf, hf]; exact e2
      rw [es] at kk
      have hi := fnd_lt hf
      have h12 := QD.1
      have e : nI t - nI t / 2 * 2 = nI (t % 2) := pk_rem (d := 2) (by omega) (by decide) (by decide)
      rw [e]
      refine ⟨fun z => absurd z (nI_m1 (by omega)), fun _ => ⟨fun z => ⟨_, rfl, ?_⟩, fun z => ⟨_, rfl, ?_⟩⟩⟩
      · have z : ¬ t % 2 = 0 := fun y => z (by rw [y]; rfl)
        rw [if_neg z, Int32.add_zero] at kk
        exact kk
      · have z : t % 2 = 0 := (nI_eq (a := t % 2) (b := 0) (by omega) (by omega)).mp (Classical.not_not.mp z)
        rw [if_pos z] at kk
        exact kk
/-- choice(kind, rule, office) -/
theorem s9 {d r o kind dr : Nat} {pk : Nat → Nat} {Do Dc : List Bod} {h : Hp} {K : Int32 → Hp → Prop} (B : BnS h pk dr) (Qo : PkC h (pk o) Do) (Qc : PkC h 0 Dc) (hk : kind < 31) (ho : o < 4) (kk : K (chsS Do Dc r kind 0 8) h) : CI (d + 4) 9 [vR 0 (some 0), vI (nI kind), vI (nI r), vI (nI o)] h K := fun P hP => v9 hP 0 (nI kind) (nI r) (nI o) h (c3 (t := 0) hP B Qo Qc hk ho 8 un rfl kk)
