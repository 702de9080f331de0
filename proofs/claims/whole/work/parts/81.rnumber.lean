/-! the reference's numberOf -/
def XJ : Nat → Nat → Nat → Prop := fun t a k => (t = 21 ∧ 13 ≤ a ∧ a ≤ 17) ∨ (t = 11 ∧ a = 0 ∧ (k = 29 ∨ k = 30 ∨ k = 31 ∨ k = 32 ∨ k = 34 ∨ k = 39))
theorem xj21 {a k : Nat} (h : a < 13) : ¬ XJ 21 a k := fun z => by
  rcases z with z | z
  · omega
  · exact absurd z.1 (by decide)
theorem RpG.eq {h0 h : Hp} {o m : Nat} {D : List Bod} (E : EqX XJ h0 h) (Q : RpG h0 o D m) : RpG h o D m := by
  obtain ⟨q1, q2, q3, q4, q5, q6⟩ := Q
  have e := fun a k (ha : a < 13) => E.2.2.2.2.2.2 21 a k (xj21 ha)
  refine ⟨q1, q2, ?_, ?_, fun i b eb => ?_, fun j x ex => ?_⟩
  · rw [e 4 _ (by decide)]; exact q3
  · rw [e 5 _ (by decide)]; exact q4
  · rw [e 6 _ (by decide), e 7 _ (by decide), e 8 _ (by decide), e 9 _ (by decide)]; exact q5 i b eb
  · rw [e 10 _ (by decide), e 11 _ (by decide)]; exact q6 j x ex
theorem RsK.eq {h0 h : Hp} {k : Nat} {sh : Nat → Int32} (E : EqX XJ h0 h) (Q : RsK h0 k sh) : RsK h k sh := by
  obtain ⟨q1, q2, q3, q4, q5⟩ := Q
  have e := fun a k (ha : a < 13) => E.2.2.2.2.2.2 21 a k (xj21 ha)
  refine ⟨q1, ?_, ?_, ?_, fun i hi => ?_⟩
  · rw [e 0 _ (by decide)]; exact q2
  · rw [e 1 _ (by decide)]; exact q3
  · rw [e 2 _ (by decide)]; exact q4
  · rw [e 3 _ (by decide)]; exact q5 i hi
def MS (h0 h : Hp) (f : Nat) (st : List Int32) : Prop := EqX XJ h0 h ∧ jI h 11 0 39 = nI f ∧ jI h 11 0 34 = nI st.length ∧ ∀ j x, st.reverse[j]? = some x → jI h 21 13 j = x
def FrO (h : Hp) (j po pc en s : Nat) : Prop := jI h 21 14 j = nI pc ∧ jI h 21 15 j = nI en ∧ jI h 21 16 j = nI po ∧ jI h 21 17 j = nI s
/-- a value pushed -/
theorem MS.push {h0 h : Hp} {f : Nat} {st : List Int32} (M : MS h0 h f st) (v : Int32) : MS h0 (wI (wI h 21 13 st.length v) 11 0 34 (nI (st.length + 1))) f (v :: st) := by
  obtain ⟨E, m1, m2, m3⟩ := M
  refine ⟨(E.wI _ (Or.inl ⟨rfl, by decide, by decide⟩)).wI _ (Or.inr ⟨rfl, rfl, by decide⟩), ?_, jI_same _ _ _ _ _, fun j x e => ?_⟩
  · rw [jI_k (by decide), jI_t (by decide)]; exact m1
  · rw [jI_t (by decide)]
    rw [List.reverse_cons] at e
    by_cases z : j = st.length
    · rw [z, List.getElem?_append_right (by rw [List.length_reverse]; exact Nat.le_refl _), List.length_reverse, Nat.sub_self] at e
      have e := Option.some.inj e
      rw [z, jI_same, e]
    · rw [jI_k z]
      have hlt : j < st.reverse.length := by
        rcases Nat.lt_or_ge j (st.reverse ++ [v]).length with y | y
        · rw [List.length_append, List.length_reverse] at y
          rw [List.length_reverse]
          have : [v].length = 1 := rfl
          omega
        · rw [List.getElem?_eq_none y] at e; cases e
      rw [List.getElem?_append_left hlt] at e
      exact m3 j x e
theorem MS.w14 {h0 h : Hp} {f j : Nat} {st : List Int32} {v : Int32} (M : MS h0 h f st) : MS h0 (wI h 21 14 j v) f st := by
  obtain ⟨E, m1, m2, m3⟩ := M
  refine ⟨E.wI _ (Or.inl ⟨rfl, by decide, by decide⟩), ?_, ?_, fun j x e => ?_⟩
  · rw [jI_t (by decide)]; exact m1
  · rw [jI_t (by decide)]; exact m2
  · rw [jI_a (by decide)]; exact m3 j x e
theorem RF {d k pl r o kind : Nat} {sh : Nat → Int32} {Do Dc : List Bod} {l6 : Int32} {h0 : Hp} {K : Int32 → Hp → Prop} {P : Nat → List AV → List AV → Hp → Prop} (hP : Cl (Call (d + 3)) 186 (fun v h' => ∃ x, v = some (vI x) ∧ K x h') P) (S : RSh h0) (Q : RsK h0 k sh) (V : FdV sh) (hpl : pl < 7) (ho : o < 4) (Qo : RpG h0 o Do Do.length) (Qc : RpG h0 4 Dc Dc.length) (Vo : ∀ b ∈ Do, BoV b) (Vc : ∀ b ∈ Dc, BoV b) (hk : kind < 31) : ∀ (u s : Nat), s + u = 8 → s < 8 → ∀ (R : List Nat) (i : Nat) (b : Bod) (t f dd : Nat) (st : List Int32) (ran : Int32) (h : Hp) (w7 w8 w9 w10 : AV), (if s % 2 = 0 then Do else Dc)[i]? = some b → b.2.2.drop t = R → t ≤ b.2.2.length → f ≤ s → MS h0 h (f + 1) st → FrO h f (if s % 2 = 0 then o else 4) ((fl ((if s % 2 = 0 then Do else Dc).take i)).length + t) ((fl ((if s % 2 = 0 then Do else Dc).take i)).length + b.2.2.length) s → jI h 11 0 32 = ran → dd ≤ st.length → dd ≤ 32 → st.length ≤ dd + 32 * f → dpF (some dd) R = some 1 → (∀ (h' : Hp) (w7 w8 w9 w10 : AV), MS h0 h' f (exE (vlS sh pl) (nvA (sfS Do Dc r kind) (vlS sh pl) (s + 1)).1 R st) → jI h' 11 0 32 = ran + nI (R.count 10008) * (nvA (sfS Do Dc r kind) (vlS sh pl) (s + 1)).2 → (∀ j a, j < f → 14 ≤ a → a ≤ 17 → jI h' 21 a j = jI h 21 a j) → P 50 [vR 11 (some 0), vI (nI k), vI (nI pl), vI (nI r), vI (nI o), vI (nI kind), vI l6, w7, w8, w9, w10] [] h') → P 50 [vR 11 (some 0), vI (nI k), vI (nI pl), vI (nI r), vI (nI o), vI (nI kind), vI l6, w7, w8, w9, w10] [] h := by
  intro u
  induction u using Nat.strongRecOn with
  | ind u ihu =>
  intro s hsu hs8 R
  have hD : ∃ D po, D = (if s % 2 = 0 then Do else Dc) ∧ po = (if s % 2 = 0 then o else 4) ∧ RpG h0 po D D.length ∧ (∀ b ∈ D, BoV b) ∧ po < 6 := by
    by_cases z : s % 2 = 0
    · rw [if_pos z, if_pos z]; exact ⟨Do, o, rfl, rfl, Qo, Vo, by omega⟩
    · rw [if_neg z, if_neg z]; exact ⟨Dc, 4, rfl, rfl, Qc, Vc, by omega⟩
  obtain ⟨D, po, eD, epo, QD, VD, hpo⟩ := hD
  rw [← eD, ← epo]
  generalize hnv : nvA (sfS Do Dc r kind) (vlS sh pl) (s + 1) = nv
  have h12 := QD.1
  have h240 := QD.2.1
  induction R with
  | nil =>
    intro i b t f dd st ran h w7 w8 w9 w10 hb hR ht hf M F hran hd1 hd2 hd3 hd cont
    have hi : i < D.length := by
      rcases Nat.lt_or_ge i D.length with z | z
      · exact z
      · rw [List.getElem?_eq_none z] at hb; cases hb
    have et : t = b.2.2.length := by
      have := congrArg List.length hR
      rw [List.length_drop] at this
      have e0 : ([] : List Nat).length = 0 := rfl
      omega
    have Sh : RSh h := M.1.sh S
    have e1 : nI (f + 1) - 1 = nI f := nI_pred _
    have if' : ix (nI f) = f := nI_clamp (by omega)
    have vf : ∀ {a : Nat}, jLen h 21 a = 12 → vp_in (nI f) (jLen h 21 a) := fun e => by rw [e]; exact vp_in_nI (by omega) (by decide)
    refine v186_50 hP 0 _ _ _ _ _ l6 w7 w8 w9 w10 h ?_
    rw [M.2.1, e1, if']
    refine ⟨fun c => absurd c (nI_nle (by omega) (by omega)), fun _ => dr_of Sh.r35 ⟨vf Sh.n35, dr_of Sh.r36 ⟨vf Sh.n36, fun c => absurd (by rw [F.1, F.2.1, et]) c, fun _ => ?_⟩⟩⟩
    refine cont _ _ _ _ _ ⟨M.1.wI _ (Or.inr ⟨rfl, rfl, by decide⟩), jI_same _ _ _ _ _, ?_, fun j x e => ?_⟩ ?_ (fun j a _ _ _ => jI_t (by decide))
    · rw [jI_k (by decide)]; exact M.2.2.1
    · rw [jI_t (by decide)]; exact M.2.2.2 j x e
    · rw [jI_k (by decide), hran]
      show ran = ran + nI 0 * nv.2
      rw [nI_0, Int32.zero_mul, Int32.add_zero]
  | cons x R ih =>
    intro i b t f dd st ran h w7 w8 w9 w10 hb hR ht hf M F hran hd1 hd2 hd3 hd cont
    have hi : i < D.length := by
      rcases Nat.lt_or_ge i D.length with z | z
      · exact z
      · rw [List.getElem?_eq_none z] at hb; cases hb
    have htl : t < b.2.2.length := by
      rcases Nat.lt_or_ge t b.2.2.length with z | z
      · exact z
      · rw [List.drop_eq_nil_of_le z] at hR; cases hR
    have ex : b.2.2[t]? = some x := by
      have := congrArg (fun l => l[0]?) hR
      simp only [List.getElem?_drop, Nat.add_zero, List.getElem?_cons_zero] at this
      exact this
    have ed : b.2.2.drop (t + 1) = R := by
      have := congrArg List.tail hR
      rw [List.tail_drop] at this
      exact this
    have bv := VD b (List.mem_of_getElem? hb)
    have hx := bv.2.2.2 x (List.mem_of_getElem? ex)
    have fs := fl_split hb
    have fl1 : (fl D).length = (fl (D.take i)).length + (b.2.2.length + (fl (D.drop (i + 1))).length) := by rw [fs.1, List.length_append, List.length_append]
    generalize hBB : (fl (D.take i)).length = BB at *
    have Sh : RSh h := M.1.sh S
    have e1 : nI (f + 1) - 1 = nI f := nI_pred _
    have if' : ix (nI f) = f := nI_clamp (by omega)
    have vf : ∀ {g : Hp} {a : Nat}, jLen g 21 a = 12 → vp_in (nI f) (jLen g 21 a) := fun e => by rw [e]; exact vp_in_nI (by omega) (by decide)
    have ic : ix (nI (240 * po + (BB + t))) = 240 * po + (BB + t) := nI_clamp (by omega)
    have vc : ∀ {g : Hp} {a : Nat}, jLen g 21 a = 1440 → vp_in (nI (240 * po + (BB + t))) (jLen g 21 a) := fun e => by rw [e]; exact vp_in_nI (by omega) (by decide)
    have QDh := QD.eq M.1
    have oc := QDh.2.2.2.2.2 (BB + t) x (by rw [← hBB, fl_at hb htl]; exact ex)
    have M1 : MS h0 (wI h 21 14 f (nI (BB + t + 1))) (f + 1) st := M.w14
    have S1 : RSh (wI h 21 14 f (nI (BB + t + 1))) := Sh.of rfl rfl
    have F1 : FrO (wI h 21 14 f (nI (BB + t + 1))) f po (BB + (t + 1)) (BB + b.2.2.length) s := by
      refine ⟨jI_same _ _ _ _ _, ?_, ?_, ?_⟩
      · rw [jI_a (by decide)]; exact F.2.1
      · rw [jI_a (by decide)]; exact F.2.2.1
      · rw [jI_a (by decide)]; exact F.2.2.2
    have hd' : dpF (stD (some dd) x) R = some 1 := hd
    unfold stD at hd'
    dsimp only at hd'
    -- behind a push
    have push : ∀ v (w7 w8 w9 w10 : AV), x < 20000 → ¬ x = 10008 → (∀ T, stE (vlS sh pl) nv.1 T x = v :: T) → CV (d + 3) 188 [vR 11 (some 0), vI v] (wI h 21 14 f (nI (BB + t + 1))) (fun h2 => P 50 [vR 11 (some 0), vI (nI k), vI (nI pl), vI (nI r), vI (nI o), vI (nI kind), vI l6, w7, w8, w9, w10] [] h2) := by
      intro v w7 w8 w9 w10 hx2 nx ev
      rw [if_pos hx2] at hd'
      have l32 : dd < 32 := by
        rcases Nat.lt_or_ge dd 32 with z | z
        · exact z
        · rw [if_neg (by omega), dpF_none] at hd'; cases hd'
      rw [if_pos l32] at hd'
      refine s188 S1 M1.2.2.1 (by omega) (ih i b (t + 1) f (dd + 1) (v :: st) ran _ w7 w8 w9 w10 hb ed htl hf (M1.push v) ⟨?_, ?_, ?_, ?_⟩ ?_ (by show dd + 1 ≤ st.length + 1; omega) (by omega) (by show st.length + 1 ≤ _; omega) hd' (fun h' v7 v8 v9 v10 M' r' f' => cont h' v7 v8 v9 v10 ?_ ?_ (fun j a hj h14 h17 => ?_)))
      · rw [jI_t (by decide), jI_a (by decide), hBB]; exact F1.1
      · rw [jI_t (by decide), jI_a (by decide), hBB]; exact F1.2.1
      · rw [jI_t (by decide), jI_a (by decide)]; exact F1.2.2.1
      · rw [jI_t (by decide), jI_a (by decide)]; exact F1.2.2.2
      · rw [jI_k (by decide), jI_t (by decide), jI_t (by decide)]; exact hran
      · show MS h0 h' f (exE (vlS sh pl) nv.1 R (stE (vlS sh pl) nv.1 st x))
        rw [ev]; exact M'
      · rw [r', List.count_cons_of_ne nx]
      · rw [f' j a hj h14 h17, jI_t (by decide), jI_a (by omega), jI_k (by omega)]
    refine v186_50 hP 0 _ _ _ _ _ l6 w7 w8 w9 w10 h ?_
    rw [M.2.1, e1, if']
    refine ⟨fun c => absurd c (nI_nle (by omega) (by omega)), fun _ => dr_of Sh.r35 ⟨vf Sh.n35, dr_of Sh.r36 ⟨vf Sh.n36, fun _ => dr_of Sh.r37 ⟨vf Sh.n37, dr_of Sh.r35 ⟨vf Sh.n35, dr_of Sh.r35 ⟨vf Sh.n35, dr_of Sh.r35 ⟨vf Sh.n35, ?_⟩⟩⟩⟩, fun c => absurd ?_ c⟩⟩⟩
    · rw [F.1, F.2.2.1, x240, nI_1, ic]
      refine dr_of S1.r24 ?_
      rw [jI_a (by decide), oc.1]
      refine ⟨vc S1.n24, fun c10 => ⟨fun c1 => ⟨fun c9 => ?_, fun c9 => ?_⟩, fun c1 => ?_⟩, fun c10 => ?_⟩
      · -- a sign
        have hx2 : 20000 ≤ x := by
          rcases hx with z | z | z
          · exact absurd (if_pos z) c1
          · exfalso
            have e : opN x = nI (x - 10000 + 2) := by unfold opN; rw [if_neg (by omega), if_pos (by omega)]
            rw [e] at c9 c10
            have := (nI_ltI (a := 9) (by omega) (by omega)).mp c9
            exact c10 (by rw [show x - 10000 + 2 = 10 by omega]; rfl)
          · exact z.1
        have hx6 : x < 20006 := by unfold cdV at hx; omega
        have eo : opN x = chC (x - 20000) := by unfold opN; rw [if_neg (by omega), if_neg (by omega)]
        rw [if_neg (show ¬ x < 20000 by omega)] at hd'
        have d2 : 2 ≤ dd := by
          rcases Nat.lt_or_ge dd 2 with z | z
          · rw [if_neg (by omega), dpF_none] at hd'; cases hd'
          · exact z
        rw [if_pos d2] at hd'
        obtain ⟨bb, aa, rr, rfl⟩ : ∃ bb aa rr, st = bb :: aa :: rr := by
          cases st with
          | nil =>
            have hd1 : dd ≤ 0 := hd1
            omega
          | cons v rr =>
            cases rr with
            | nil =>
              have hd1 : dd ≤ 1 := hd1
              omega
            | cons w rr => exact ⟨v, w, rr, rfl⟩
        have ll : (bb :: aa :: rr).length = rr.length + 1 + 1 := rfl
        rw [ll] at hd1 hd3
        have m34 : jI (wI h 21 14 f (nI (BB + t + 1))) 11 0 34 = nI (rr.length + 1 + 1) := M1.2.2.1
        have e34 : nI (rr.length + 1 + 1) - 1 = nI (rr.length + 1) := nI_pred _
        have e33 : nI (rr.length + 1) - 1 = nI rr.length := nI_pred _
        have ia : ix (nI rr.length) = rr.length := nI_clamp (by omega)
        have ib : ix (nI (rr.length + 1)) = rr.length + 1 := nI_clamp (by omega)
        rw [m34, e34]
        intro h9 e9
        have S9 : RSh h9 := by rw [e9]; exact S1.of rfl rfl
        have q34 : jI h9 11 0 34 = nI (rr.length + 1) := by rw [e9]; exact jI_same _ _ _ _ _
        have q13 : ∀ j, jI h9 21 13 j = jI (wI h 21 14 f (nI (BB + t + 1))) 21 13 j := fun j => by rw [e9, jI_t (by decide)]
        have va : jI h9 21 13 rr.length = aa := by rw [q13]; exact M1.2.2.2 _ _ (rev_cI (rev_tI rr aa))
        have vb : jI h9 21 13 (rr.length + 1) = bb := by rw [q13]; exact M1.2.2.2 _ _ (rev_tI (aa :: rr) bb)
        have v22 : ∀ j, j < 2200 → ∀ {g : Hp}, jLen g 21 13 = 2200 → vp_in (nI j) (jLen g 21 13) := fun j hj g e => by rw [e]; exact vp_in_nI hj (by decide)
        rw [q34, e33, ia, ib, eo]
        refine dr_of S9.r33 ⟨v22 _ (by omega) S9.n33, dr_of S9.r33 ⟨v22 _ (by omega) S9.n33, ?_⟩⟩
        rw [va, vb]
        refine s192 (by omega) (dr_of S9.r33 ⟨v22 _ (by omega) S9.n33, ?_⟩)
        have ev : stE (vlS sh pl) nv.1 (bb :: aa :: rr) x = cmb (x - 20000) aa bb :: rr := by
          unfold stE
          rw [if_neg (by omega), if_neg (by omega)]
        refine ih i b (t + 1) f (dd - 1) (cmb (x - 20000) aa bb :: rr) ran _ _ _ _ _ hb ed htl hf ?_ ⟨?_, ?_, ?_, ?_⟩ ?_ (by show dd - 1 ≤ rr.length + 1; omega) (by omega) (by show rr.length + 1 ≤ _; omega) hd' (fun h' v7 v8 v9 v10 M' r' f' => cont h' v7 v8 v9 v10 ?_ ?_ (fun j a hj h14 h17 => ?_))
        · refine ⟨by rw [e9]; exact (M1.1.wI _ (Or.inr ⟨rfl, rfl, by decide⟩)).wI _ (Or.inl ⟨rfl, by decide, by decide⟩), ?_, ?_, fun j y e => ?_⟩
          · rw [jI_t (by decide), e9, jI_k (by decide)]; exact M1.2.1
          · rw [jI_t (by decide), q34]; rfl
          · rw [List.reverse_cons] at e
            by_cases z : j = rr.length
            · rw [z, List.getElem?_append_right (by rw [List.length_reverse]; exact Nat.le_refl _), List.length_reverse, Nat.sub_self] at e
              have e := Option.some.inj e
              rw [z, jI_same, e]
            · rw [jI_k z, q13]
              have hlt : j < rr.reverse.length := by
                rcases Nat.lt_or_ge j (rr.reverse ++ [cmb (x - 20000) aa bb]).length with y | y
                · rw [List.length_append, List.length_reverse] at y
                  rw [List.length_reverse]
                  have : [cmb (x - 20000) aa bb].length = 1 := rfl
                  omega
                · rw [List.getElem?_eq_none y] at e; cases e
              rw [List.getElem?_append_left hlt] at e
              exact M1.2.2.2 j y (rev_cI (rev_cI e))
        · rw [jI_a (by decide), e9, jI_t (by decide), hBB]; exact F1.1
        · rw [jI_a (by decide), e9, jI_t (by decide), hBB]; exact F1.2.1
        · rw [jI_a (by decide), e9, jI_t (by decide)]; exact F1.2.2.1
        · rw [jI_a (by decide), e9, jI_t (by decide)]; exact F1.2.2.2
        · rw [jI_t (by decide), e9, jI_k (by decide), jI_t (by decide)]; exact hran
        · show MS h0 h' f (exE (vlS sh pl) nv.1 R (stE (vlS sh pl) nv.1 (bb :: aa :: rr) x))
          rw [ev]; exact M'
        · rw [r', List.count_cons_of_ne (by omega)]
        · rw [f' j a hj h14 h17, jI_a (by omega), e9, jI_t (by decide), jI_k (by omega)]
      · -- a word
        have hx1 : 10000 ≤ x ∧ x < 10009 := by
          rcases hx with z | z | z
          · exact absurd (if_pos z) c1
          · exact z
          · exfalso
            have e : opN x = chC (x - 20000) := by unfold opN; rw [if_neg (by omega), if_neg (by omega)]
            rw [e] at c9
            have hc : x - 20000 = 0 ∨ x - 20000 = 1 ∨ x - 20000 = 2 ∨ x - 20000 = 3 ∨ x - 20000 = 4 ∨ x - 20000 = 5 := by omega
            rcases hc with y | y | y | y | y | y <;> (rw [y] at c9; exact c9 (by decide))
        have eo : opN x = nI (x - 10000 + 2) := by unfold opN; rw [if_neg (by omega), if_pos (by omega)]
        have n8 : ¬ x = 10008 := fun z => c10 (by rw [eo, z]; rfl)
        rw [eo]
        refine s189 S1 (Q.eq M1.1) V hpl (by omega) ?_
        refine push _ _ _ _ _ (by omega) n8 (fun T => ?_)
        unfold stE
        rw [if_neg (by omega), if_pos (by omega), if_neg n8]
      · -- a number
        have hx1 : x < 10000 := by
          rcases hx with z | z | z
          · exact z
          · exfalso
            have e : opN x = nI (x - 10000 + 2) := by unfold opN; rw [if_neg (by omega), if_pos (by omega)]
            have y := Classical.not_not.mp c1
            rw [e] at y
            have := (nI_eq (a := x - 10000 + 2) (b := 1) (by omega) (by decide)).mp y
            omega
          · exfalso
            have e : opN x = chC (x - 20000) := by unfold opN; rw [if_neg (by omega), if_neg (by omega)]
            rw [e] at c1
            have hc : x - 20000 = 0 ∨ x - 20000 = 1 ∨ x - 20000 = 2 ∨ x - 20000 = 3 ∨ x - 20000 = 4 ∨ x - 20000 = 5 := by omega
            rcases hc with y | y | y | y | y | y <;> (rw [y] at c1; exact c1 (by decide))
        refine dr_of S1.r25 ?_
        rw [jI_a (by decide), oc.2 hx1]
        refine ⟨vc S1.n25, push _ _ _ _ _ (by omega) (by omega) (fun T => ?_)⟩
        unfold stE
        rw [if_pos hx1]
      · -- next
        have hx8 : x = 10008 := by
          have y := Classical.not_not.mp c10
          rcases hx with z | z | z
          · exfalso
            have e : opN x = 1 := if_pos z
            rw [e] at y
            exact absurd y (by decide)
          · have e : opN x = nI (x - 10000 + 2) := by unfold opN; rw [if_neg (by omega), if_pos (by omega)]
            rw [e] at y
            have := (nI_eq (a := x - 10000 + 2) (b := 10) (by omega) (by decide)).mp y
            omega
          · exfalso
            have e : opN x = chC (x - 20000) := by unfold opN; rw [if_neg (by omega), if_neg (by omega)]
            rw [e] at y
            have hc : x - 20000 = 0 ∨ x - 20000 = 1 ∨ x - 20000 = 2 ∨ x - 20000 = 3 ∨ x - 20000 = 4 ∨ x - 20000 = 5 := by omega
            rcases hc with w | w | w | w | w | w <;> (rw [w] at y; exact absurd y (by decide))
        subst hx8
        rw [if_pos (by decide)] at hd'
        have l32 : dd < 32 := by
          rcases Nat.lt_or_ge dd 32 with z | z
          · exact z
          · rw [if_neg (by omega), dpF_none] at hd'; cases hd'
        rw [if_pos l32] at hd'
        have ev : ∀ T, stE (vlS sh pl) nv.1 T 10008 = nv.1 :: T := fun T => by
          unfold stE
          rw [if_neg (by decide), if_pos (by decide), if_pos rfl]
        have cnt : ∀ rn, rn = ran + nv.2 → rn + nI (R.count 10008) * nv.2 = ran + nI ((10008 :: R).count 10008) * nv.2 := by
          intro rn e
          rw [e, List.count_cons_self, ← nI_1, Int32.add_mul, Int32.one_mul, Int32.add_assoc, Int32.add_comm nv.2]
        refine dr_of S1.r38 ?_
        rw [F1.2.2.2, nI_1]
        refine ⟨vf S1.n38, s184 S1 ho (Qo.eq M1.1) (Qc.eq M1.1) Vo Vc hk (by omega) ⟨fun hno => ?_, fun s' i' b' h1 h2 h3 h4 h5 => ?_⟩⟩
        · -- nothing above
          have e0 : nv = (0, 0) := by
            rw [← hnv, nvA_skip (m := 7 - s) (by omega) (fun t z1 z2 => hno t z1 (by omega)), show s + 1 + (7 - s) = 8 by omega]
            rfl
          refine ⟨fun z => absurd rfl z, fun _ => ?_⟩
          refine s188 S1 M1.2.2.1 (by omega) (ih i b (t + 1) f (dd + 1) (0 :: st) ran _ _ _ _ _ hb ed htl hf (M1.push 0) ⟨?_, ?_, ?_, ?_⟩ ?_ (by show dd + 1 ≤ st.length + 1; omega) (by omega) (by show st.length + 1 ≤ _; omega) hd' (fun h' v7 v8 v9 v10 M' r' f' => cont h' v7 v8 v9 v10 ?_ ?_ (fun j a hj h14 h17 => ?_)))
          · rw [jI_t (by decide), jI_a (by decide), hBB]; exact F1.1
          · rw [jI_t (by decide), jI_a (by decide), hBB]; exact F1.2.1
          · rw [jI_t (by decide), jI_a (by decide)]; exact F1.2.2.1
          · rw [jI_t (by decide), jI_a (by decide)]; exact F1.2.2.2
          · rw [jI_k (by decide), jI_t (by decide), jI_t (by decide)]; exact hran
          · show MS h0 h' f (exE (vlS sh pl) nv.1 R (stE (vlS sh pl) nv.1 st 10008))
            rw [ev, e0]
            rw [e0] at M'
            exact M'
          · rw [r']
            exact cnt ran (by rw [e0, Int32.add_zero])
          · rw [f' j a hj h14 h17, jI_t (by decide), jI_a (by omega), jI_k (by omega)]
        · -- a body above
          have hD' : ∃ D' po', D' = (if s' % 2 = 0 then Do else Dc) ∧ po' = (if s' % 2 = 0 then o else 4) ∧ RpG h0 po' D' D'.length ∧ (∀ b ∈ D', BoV b) ∧ ((if s' % 2 = 0 then (1 : Int32) else 0) = 0 ∧ po' = 4 ∨ ¬ (if s' % 2 = 0 then (1 : Int32) else 0) = 0 ∧ po' = o) := by
            by_cases z : s' % 2 = 0
            · rw [if_pos z, if_pos z, if_pos z]; exact ⟨Do, o, rfl, rfl, Qo, Vo, Or.inr ⟨by decide, rfl⟩⟩
            · rw [if_neg z, if_neg z, if_neg z]; exact ⟨Dc, 4, rfl, rfl, Qc, Vc, Or.inl ⟨rfl, rfl⟩⟩
          obtain ⟨D', po', eD', epo', QD', VD', hoff⟩ := hD'
          have bv' := VD' b' (by rw [← eD'] at h5; exact List.mem_of_getElem? h5)
          have hi' : i' < D'.length := by
            rw [← eD'] at h5
            rcases Nat.lt_or_ge i' D'.length with z | z
            · exact z
            · rw [List.getElem?_eq_none z] at h5; cases h5
          have h12' := QD'.1
          have env : nv = (evB (vlS sh pl) (nvA (sfS Do Dc r kind) (vlS sh pl) (s' + 1)).1 b'.2.2, 1 + nI (b'.2.2.count 10008) * (nvA (sfS Do Dc r kind) (vlS sh pl) (s' + 1)).2) := by
            rw [← hnv, nvA_skip (m := s' - (s + 1)) (by omega) (fun t z1 z2 => h3 t z1 (by omega)), show s + 1 + (s' - (s + 1)) = s' by omega, nvA_eq h2, h4]
          have oo := QD'.2.2.2.2.1 i' b' (by rw [← eD'] at h5; exact h5)
          have fs' := fl_split (by rw [← eD'] at h5; exact h5)
          generalize hg : (if s' % 2 = 0 then (1 : Int32) else 0) = tb at hoff ⊢
          have Ek : EqX XJ h0 (tkH (wI h 21 14 f (nI (BB + t + 1))) (tnI (fmI (s' / 2) kind)) tb (nI i')) := ((M1.1.wI _ (Or.inr ⟨rfl, rfl, by decide⟩)).wI _ (Or.inr ⟨rfl, rfl, by decide⟩)).wI _ (Or.inr ⟨rfl, rfl, by decide⟩)
          have Sk : RSh (tkH (wI h 21 14 f (nI (BB + t + 1))) (tnI (fmI (s' / 2) kind)) tb (nI i')) := Ek.sh S
          have k21 : ∀ a j, jI (tkH (wI h 21 14 f (nI (BB + t + 1))) (tnI (fmI (s' / 2) kind)) tb (nI i')) 21 a j = jI (wI h 21 14 f (nI (BB + t + 1))) 21 a j := fun a j => by
            unfold tkH
            rw [jI_t (by decide), jI_t (by decide), jI_t (by decide)]
          have k11 : ∀ j, j ≠ 29 → j ≠ 30 → j ≠ 31 → jI (tkH (wI h 21 14 f (nI (BB + t + 1))) (tnI (fmI (s' / 2) kind)) tb (nI i')) 11 0 j = jI (wI h 21 14 f (nI (BB + t + 1))) 11 0 j := fun j z1 z2 z3 => by
            unfold tkH
            rw [jI_k z2, jI_k z3, jI_k z1]
          have oe : ∀ a j, a < 13 → jI (tkH (wI h 21 14 f (nI (BB + t + 1))) (tnI (fmI (s' / 2) kind)) tb (nI i')) 21 a j = jI h0 21 a j := fun a j ha => Ek.2.2.2.2.2.2 21 a j (xj21 ha)
          refine ⟨fun _ => ?_, fun z => absurd (nI_m1 (by omega)) z⟩
          refine s187 (o := po') (i := i') (f := f + 1) (tb := tb) Sk hoff ho ?_ (jI_same _ _ _ _ _) (by omega) (by rw [k11 39 (by decide) (by decide) (by decide)]; exact M1.2.1) (by omega) ((oe 8 _ (by decide)).trans oo.2.2.1) ((oe 9 _ (by decide)).trans (oo.2.2.2 hi')) ?_
          · unfold tkH; rw [jI_k (by decide)]; exact jI_same _ _ _ _ _
          generalize hG : tkH (wI h 21 14 f (nI (BB + t + 1))) (tnI (fmI (s' / 2) kind)) tb (nI i') = g at Ek Sk k21 k11 oe ⊢
          -- frames of the new heap
          have n21 : ∀ a j, ¬ (14 ≤ a ∧ a ≤ 17 ∧ j = f + 1) → jI (enH g (f + 1) (nI (fl (D'.take i')).length) (nI (fl (D'.take (i' + 1))).length) (nI po') (nI s')) 21 a j = jI g 21 a j := by
            intro a j z
            unfold enH
            rw [jI_t (by decide), jI_t (by decide)]
            by_cases zj : j = f + 1
            · rw [jI_a (by omega), jI_a (by omega), jI_a (by omega), jI_a (by omega)]
            · rw [jI_k zj, jI_k zj, jI_k zj, jI_k zj]
          refine ihu (8 - s') (by omega) s' (by omega) h2 b'.2.2 i' b' 0 (f + 1) 0 st (ran + 1) _ _ _ _ _ h5 rfl (Nat.zero_le _) (by omega) ⟨?_, ?_, ?_, fun j y e => ?_⟩ ⟨?_, ?_, ?_, ?_⟩ ?_ (Nat.zero_le _) (by decide) (by omega) bv'.2.2.1 (fun h' v7 v8 v9 v10 M' r' f' => ?_)
          · exact (((((Ek.wI _ (Or.inl ⟨rfl, by decide, by decide⟩)).wI _ (Or.inl ⟨rfl, by decide, by decide⟩)).wI _ (Or.inl ⟨rfl, by decide, by decide⟩)).wI _ (Or.inl ⟨rfl, by decide, by decide⟩)).wI _ (Or.inr ⟨rfl, rfl, by decide⟩)).wI _ (Or.inr ⟨rfl, rfl, by decide⟩)
          · unfold enH; rw [jI_k (by decide)]; exact jI_same _ _ _ _ _
          · unfold enH
            rw [jI_k (by decide), jI_k (by decide), jI_t (by decide), jI_t (by decide), jI_t (by decide), jI_t (by decide), k11 34 (by decide) (by decide) (by decide)]
            exact M1.2.2.1
          · rw [n21 13 j (by omega), k21]; exact M1.2.2.2 j y e
          · unfold enH
            rw [jI_t (by decide), jI_t (by decide), jI_a (by decide), jI_a (by decide), jI_a (by decide), jI_same, ← eD']
            rfl
          · unfold enH
            rw [jI_t (by decide), jI_t (by decide), jI_a (by decide), jI_a (by decide), jI_same, fs'.2, List.length_append, ← eD']
          · unfold enH
            rw [jI_t (by decide), jI_t (by decide), jI_a (by decide), jI_same, epo']
          · unfold enH
            rw [jI_t (by decide), jI_t (by decide)]; exact jI_same _ _ _ _ _
          · unfold enH
            rw [jI_same, k11 32 (by decide) (by decide) (by decide), jI_t (by decide), hran]
          · -- back in this frame
            rw [evB_on st bv'.2.2.1] at M'
            have e1v : evB (vlS sh pl) (nvA (sfS Do Dc r kind) (vlS sh pl) (s' + 1)).1 b'.2.2 = nv.1 := by rw [env]
            rw [e1v] at M'
            have er : jI h' 11 0 32 = ran + nv.2 := by rw [r', env, Int32.add_assoc]
            have g21 : ∀ a, 14 ≤ a → a ≤ 17 → jI h' 21 a f = jI (wI h 21 14 f (nI (BB + t + 1))) 21 a f := fun a z1 z2 => by rw [f' f a (by omega) z1 z2, n21 a f (by omega), k21]
            refine ih i b (t + 1) f (dd + 1) (nv.1 :: st) (ran + nv.2) h' _ _ _ _ hb ed htl hf M' ⟨?_, ?_, ?_, ?_⟩ er (by show dd + 1 ≤ st.length + 1; omega) (by omega) (by show st.length + 1 ≤ _; omega) hd' (fun h2 v7 v8 v9 v10 M2 r2 f2 => cont h2 v7 v8 v9 v10 ?_ ?_ (fun j a hj h14 h17 => ?_))
            · rw [g21 14 (by decide) (by decide), hBB]; exact F1.1
            · rw [g21 15 (by decide) (by decide), hBB]; exact F1.2.1
            · rw [g21 16 (by decide) (by decide)]; exact F1.2.2.1
            · rw [g21 17 (by decide) (by decide)]; exact F1.2.2.2
            · show MS h0 h2 f (exE (vlS sh pl) nv.1 R (stE (vlS sh pl) nv.1 st 10008))
              rw [ev]; exact M2
            · rw [r2]; exact cnt _ rfl
            · rw [f2 j a hj h14 h17, f' j a (by omega) h14 h17, n21 a j (by omega), k21, jI_k (by omega)]
    · intro z
      rw [F.1, F.2.1] at z
      have := (nI_eq (a := BB + t) (b := BB + b.2.2.length) (by omega) (by omega)).mp z
      omega
/-- numberOf(k, place, rule, office) -/
theorem s186 {d k pl r o kind : Nat} {sh : Nat → Int32} {Do Dc : List Bod} {h : Hp} {K : Int32 → Hp → Prop} (S : RSh h) (Q : RsK h k sh) (V : FdV sh) (hpl : pl < 7) (ho : o < 4) (Qo : RpG h o Do Do.length) (Qc : RpG h 4 Dc Dc.length) (Vo : ∀ b ∈ Do, BoV b) (Vc : ∀ b ∈ Dc, BoV b) (ek : sh (3 + 9 * pl + 0) = nI kind) (hk : kind < 31) (kk : ∀ h', EqX XJ h h' → jI h' 11 0 32 = jI h 11 0 32 + (nvM (sfS Do Dc r kind) (vlS sh pl) 8).2 → K (nvM (sfS Do Dc r kind) (vlS sh pl) 8).1 h') : CI (d + 4) 186 [vR 11 (some 0), vI (nI k), vI (nI pl), vI (nI r), vI (nI o)] h K := by
  intro P hP
  have hk6 := Q.1
  have i0 : ix (nI (63 * k + 9 * pl)) = 63 * k + (9 * pl + 0) := nI_clamp (by omega)
  refine v186 hP 0 (nI k) (nI pl) (nI r) (nI o) h (s124 ?_)
  rw [spot_e, i0]
  refine dr_of S.r15 ⟨vp3843 (i := 0) (by omega) hpl (by omega) S.n15, ?_⟩
  rw [Q.p hpl (by omega), ek]
  have E0 : EqX XJ h (wI (wI h 11 0 39 0) 11 0 34 0) := ((EqX.refl XJ h).wI _ (Or.inr ⟨rfl, rfl, by decide⟩)).wI _ (Or.inr ⟨rfl, rfl, by decide⟩)
  have S0 : RSh (wI (wI h 11 0 39 0) 11 0 34 0) := S.of rfl rfl
  refine s184 (fr := 0) S0 ho (Qo.eq E0) (Qc.eq E0) Vo Vc hk (by decide) ⟨fun hno => ⟨fun z => absurd rfl z, fun _ => ⟨_, rfl, ?_⟩⟩, fun s i b h1 h2 h3 h4 h5 => ⟨fun _ => ?_, fun z => absurd (nI_m1 (by omega)) z⟩⟩
  · have e0 : nvM (sfS Do Dc r kind) (vlS sh pl) 8 = (0, 0) := by
      show nvA (sfS Do Dc r kind) (vlS sh pl) 0 = (0, 0)
      rw [nvA_skip (m := 8) (by decide) (fun t z1 z2 => hno t z1 z2)]
      rfl
    have := kk _ E0 (by rw [e0, jI_k (by decide), jI_k (by decide), Int32.add_zero])
    rw [e0] at this
    exact this
  · have hD' : ∃ D' po', D' = (if s % 2 = 0 then Do else Dc) ∧ po' = (if s % 2 = 0 then o else 4) ∧ RpG h po' D' D'.length ∧ (∀ b ∈ D', BoV b) ∧ ((if s % 2 = 0 then (1 : Int32) else 0) = 0 ∧ po' = 4 ∨ ¬ (if s % 2 = 0 then (1 : Int32) else 0) = 0 ∧ po' = o) := by
      by_cases z : s % 2 = 0
      · rw [if_pos z, if_pos z, if_pos z]; exact ⟨Do, o, rfl, rfl, Qo, Vo, Or.inr ⟨by decide, rfl⟩⟩
      · rw [if_neg z, if_neg z, if_neg z]; exact ⟨Dc, 4, rfl, rfl, Qc, Vc, Or.inl ⟨rfl, rfl⟩⟩
    obtain ⟨D', po', eD', epo', QD', VD', hoff⟩ := hD'
    have h5' : D'[i]? = some b := by rw [eD']; exact h5
    have bv' := VD' b (List.mem_of_getElem? h5')
    have hi' : i < D'.length := by
      rcases Nat.lt_or_ge i D'.length with z | z
      · exact z
      · rw [List.getElem?_eq_none z] at h5'; cases h5'
    have h12' := QD'.1
    have env : nvM (sfS Do Dc r kind) (vlS sh pl) 8 = (evB (vlS sh pl) (nvA (sfS Do Dc r kind) (vlS sh pl) (s + 1)).1 b.2.2, 1 + nI (b.2.2.count 10008) * (nvA (sfS Do Dc r kind) (vlS sh pl) (s + 1)).2) := by
      show nvA (sfS Do Dc r kind) (vlS sh pl) 0 = _
      rw [nvA_skip (m := s) (by omega) (fun t z1 z2 => h3 t z1 (by omega)), Nat.zero_add, nvA_eq h2, h4]
    have oo := QD'.2.2.2.2.1 i b h5'
    have fs' := fl_split h5'
    generalize (if s % 2 = 0 then (1 : Int32) else 0) = tb at hoff ⊢
    have Ek : EqX XJ h (tkH (wI (wI h 11 0 39 0) 11 0 34 0) (tnI (fmI (s / 2) kind)) tb (nI i)) := ((E0.wI _ (Or.inr ⟨rfl, rfl, by decide⟩)).wI _ (Or.inr ⟨rfl, rfl, by decide⟩)).wI _ (Or.inr ⟨rfl, rfl, by decide⟩)
    have Sk : RSh (tkH (wI (wI h 11 0 39 0) 11 0 34 0) (tnI (fmI (s / 2) kind)) tb (nI i)) := Ek.sh S
    have oe : ∀ a j, a < 13 → jI (tkH (wI (wI h 11 0 39 0) 11 0 34 0) (tnI (fmI (s / 2) kind)) tb (nI i)) 21 a j = jI h 21 a j := fun a j ha => Ek.2.2.2.2.2.2 21 a j (xj21 ha)
    have k11 : ∀ j, j ≠ 29 → j ≠ 30 → j ≠ 31 → jI (tkH (wI (wI h 11 0 39 0) 11 0 34 0) (tnI (fmI (s / 2) kind)) tb (nI i)) 11 0 j = jI (wI (wI h 11 0 39 0) 11 0 34 0) 11 0 j := fun j z1 z2 z3 => by
      unfold tkH
      rw [jI_k z2, jI_k z3, jI_k z1]
    have k39 : jI (wI (wI h 11 0 39 0) 11 0 34 0) 11 0 39 = nI 0 := by rw [jI_k (by decide), jI_same]; rfl
    have k34 : jI (wI (wI h 11 0 39 0) 11 0 34 0) 11 0 34 = nI 0 := by rw [jI_same]; rfl
    have k32 : jI (wI (wI h 11 0 39 0) 11 0 34 0) 11 0 32 = jI h 11 0 32 := by rw [jI_k (by decide), jI_k (by decide)]
    refine s187 (o := po') (i := i) (f := 0) (tb := tb) Sk hoff ho ?_ (jI_same _ _ _ _ _) (by omega) (by rw [k11 39 (by decide) (by decide) (by decide)]; exact k39) (by decide) ((oe 8 _ (by decide)).trans oo.2.2.1) ((oe 9 _ (by decide)).trans (oo.2.2.2 hi')) ?_
    · unfold tkH; rw [jI_k (by decide)]; exact jI_same _ _ _ _ _
    generalize tkH (wI (wI h 11 0 39 0) 11 0 34 0) (tnI (fmI (s / 2) kind)) tb (nI i) = g at Ek Sk oe k11 ⊢
    refine RF hP S Q V hpl ho Qo Qc Vo Vc hk (8 - s) s (by omega) h2 b.2.2 i b 0 0 0 [] (jI h 11 0 32 + 1) _ _ _ _ _ h5 rfl (Nat.zero_le _) (Nat.zero_le _) ⟨?_, ?_, ?_, fun j y e => by cases e⟩ ⟨?_, ?_, ?_, ?_⟩ ?_ (Nat.zero_le _) (by decide) (by decide) bv'.2.2.1 (fun h' v7 v8 v9 v10 M' r' f' => ?_)
    · exact (((((Ek.wI _ (Or.inl ⟨rfl, by decide, by decide⟩)).wI _ (Or.inl ⟨rfl, by decide, by decide⟩)).wI _ (Or.inl ⟨rfl, by decide, by decide⟩)).wI _ (Or.inl ⟨rfl, by decide, by decide⟩)).wI _ (Or.inr ⟨rfl, rfl, by decide⟩)).wI _ (Or.inr ⟨rfl, rfl, by decide⟩)
    · unfold enH; rw [jI_k (by decide)]; exact jI_same _ _ _ _ _
    · unfold enH
      rw [jI_k (by decide), jI_k (by decide), jI_t (by decide), jI_t (by decide), jI_t (by decide), jI_t (by decide), k11 34 (by decide) (by decide) (by decide)]
      exact k34
    · unfold enH
      rw [jI_t (by decide), jI_t (by decide), jI_a (by decide), jI_a (by decide), jI_a (by decide), jI_same, ← eD']
      rfl
    · unfold enH
      rw [jI_t (by decide), jI_t (by decide), jI_a (by decide), jI_a (by decide), jI_same, fs'.2, List.length_append, ← eD']
    · unfold enH
      rw [jI_t (by decide), jI_t (by decide), jI_a (by decide), jI_same, epo']
    · unfold enH
      rw [jI_t (by decide), jI_t (by decide)]; exact jI_same _ _ _ _ _
    · unfold enH
      rw [jI_same, k11 32 (by decide) (by decide) (by decide), k32]
    · rw [evB_on [] bv'.2.2.1] at M'
      have S' := M'.1.sh S
      have vz : jI h' 21 13 0 = evB (vlS sh pl) (nvA (sfS Do Dc r kind) (vlS sh pl) (s + 1)).1 b.2.2 := M'.2.2.2 0 _ rfl
      refine v186_50 hP 0 _ _ _ _ _ _ v7 v8 v9 v10 h' ⟨fun _ => dr_of S'.r33 ⟨by rw [S'.n33]; exact vp_in_nI (n := 0) (by decide) (by decide), _, rfl, ?_⟩, fun c => absurd (by rw [M'.2.1]; decide) c⟩
      have := kk h' M'.1 (by rw [r', env, Int32.add_assoc])
      rw [vz]
      rw [env] at this
      exact this
