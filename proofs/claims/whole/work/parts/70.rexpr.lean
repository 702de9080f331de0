/-! the reference's begins, ends, joinsTo, waitsFor -/
def bgH (h : Hp) (o b L : Nat) (r k : Int32) : Hp := wI (wI (wI (wI (wI h 21 6 (12 * o + b) r) 21 7 (12 * o + b) k) 21 8 (12 * o + b) (nI L)) 21 9 (12 * o + b) (nI L)) 21 4 o (nI (b + 1))
theorem s115 {d o b L : Nat} {r k2 : Int32} {h : Hp} {K : Hp → Prop} (S : RSh h) (ho : o < 6) (hb : jI h 21 4 o = nI b) (hb12 : b < 12) (hL : jI h 21 5 o = nI L) (k : K (bgH h o b L r k2)) : CV (d + 1) 115 [vR 11 (some 0), vI (nI o), vI r, vI k2] h K := by
  intro P hP
  have io : ix (nI o) = o := nI_clamp (by omega)
  have ib : ix (nI (12 * o + b)) = 12 * o + b := nI_clamp (by omega)
  have v6 : ∀ {g : Hp} {i : Nat}, jLen g 21 i = 6 → vp_in (nI o) (jLen g 21 i) := fun e => by rw [e]; exact vp_in_nI ho (by decide)
  have v72 : ∀ {g : Hp} {i : Nat}, jLen g 21 i = 72 → vp_in (nI (12 * o + b)) (jLen g 21 i) := fun e => by rw [e]; exact vp_in_nI (by omega) (by decide)
  refine v115 hP 0 (nI o) r k2 h (dr_of S.r18 ?_)
  rw [io, hb, x12, ib]
  refine ⟨v6 S.n18, dr_of S.r20 ⟨v72 S.n20, dr_of S.r21 ⟨v72 S.n21, dr_of S.r19 ⟨v6 S.n19, dr_of S.r22 ⟨v72 S.n22, fun h6 e6 => ?_⟩⟩⟩⟩⟩
  have S6 : RSh h6 := by rw [e6]; exact S.of rfl rfl
  rw [jI_a (by decide), jI_a (by decide), hL] at e6
  have L6 : jI h6 21 5 o = nI L := by rw [e6, jI_a (by decide), jI_a (by decide), jI_a (by decide)]; exact hL
  have B6 : jI h6 21 4 o = nI b := by rw [e6, jI_a (by decide), jI_a (by decide), jI_a (by decide)]; exact hb
  refine dr_of S6.r19 ?_
  rw [L6]
  refine ⟨v6 S6.n19, dr_of S6.r23 ⟨v72 S6.n23, dr_of S6.r18 ⟨v6 S6.n18, dr_of S6.r18 ⟨v6 S6.n18, fun h11 e11 => ⟨rfl, ?_⟩⟩⟩⟩⟩
  rw [jI_a (by decide), B6, nI_1] at e11
  rw [e11, e6]
  exact k
theorem RpG.beg {G : Hp} {o m r k : Nat} {D : List Bod} (Q : RpG G o D m) (h12 : D.length < 12) (hm : m ≤ D.length) : RpG (bgH G o D.length (fl D).length (nI r) (nI k)) o (D ++ [(r, k, [])]) m := by
  obtain ⟨q1, q2, q3, q4, q5, q6⟩ := Q
  have lD : (D ++ [(r, k, [])]).length = D.length + 1 := by rw [List.length_append]; rfl
  generalize hL : (fl D).length = L at *
  unfold bgH
  refine ⟨by rw [lD]; omega, by rw [fl_nil, hL]; exact q2, ?_, ?_, fun i c e => ?_, fun j y e => ?_⟩
  · rw [jI_same, lD]
  · rw [jI_a (by decide), jI_a (by decide), jI_a (by decide), jI_a (by decide), jI_a (by decide), fl_nil, hL]; exact q4
  · have w6 : ∀ t, jI (wI (wI (wI (wI (wI G 21 6 (12 * o + D.length) (nI r)) 21 7 (12 * o + D.length) (nI k)) 21 8 (12 * o + D.length) (nI L)) 21 9 (12 * o + D.length) (nI L)) 21 4 o (nI (D.length + 1))) 21 6 t = jI (wI G 21 6 (12 * o + D.length) (nI r)) 21 6 t := fun t => by rw [jI_a (by decide), jI_a (by decide), jI_a (by decide), jI_a (by decide)]
    have w7 : ∀ t, jI (wI (wI (wI (wI (wI G 21 6 (12 * o + D.length) (nI r)) 21 7 (12 * o + D.length) (nI k)) 21 8 (12 * o + D.length) (nI L)) 21 9 (12 * o + D.length) (nI L)) 21 4 o (nI (D.length + 1))) 21 7 t = jI (wI (wI G 21 6 (12 * o + D.length) (nI r)) 21 7 (12 * o + D.length) (nI k)) 21 7 t := fun t => by rw [jI_a (by decide), jI_a (by decide), jI_a (by decide)]
    have w8 : ∀ t, jI (wI (wI (wI (wI (wI G 21 6 (12 * o + D.length) (nI r)) 21 7 (12 * o + D.length) (nI k)) 21 8 (12 * o + D.length) (nI L)) 21 9 (12 * o + D.length) (nI L)) 21 4 o (nI (D.length + 1))) 21 8 t = jI (wI (wI (wI G 21 6 (12 * o + D.length) (nI r)) 21 7 (12 * o + D.length) (nI k)) 21 8 (12 * o + D.length) (nI L)) 21 8 t := fun t => by rw [jI_a (by decide), jI_a (by decide)]
    have w9 : ∀ t, jI (wI (wI (wI (wI (wI G 21 6 (12 * o + D.length) (nI r)) 21 7 (12 * o + D.length) (nI k)) 21 8 (12 * o + D.length) (nI L)) 21 9 (12 * o + D.length) (nI L)) 21 4 o (nI (D.length + 1))) 21 9 t = jI (wI (wI (wI (wI G 21 6 (12 * o + D.length) (nI r)) 21 7 (12 * o + D.length) (nI k)) 21 8 (12 * o + D.length) (nI L)) 21 9 (12 * o + D.length) (nI L)) 21 9 t := fun t => by rw [jI_a (by decide)]
    rw [w6, w7, w8, w9]
    by_cases z : i = D.length
    · subst z
      rw [List.getElem?_append_right (Nat.le_refl _), Nat.sub_self] at e
      have e := Option.some.inj e
      subst e
      rw [jI_same, jI_same, jI_same, tk_i (Nat.le_refl _), List.take_of_length_le (Nat.le_refl _), hL]
      exact ⟨rfl, rfl, rfl, fun y => by omega⟩
    · have hi : i < D.length := by
        rcases Nat.lt_or_ge i (D.length + 1) with y | y
        · omega
        · rw [List.getElem?_eq_none (by rw [lD]; exact y)] at e; cases e
      rw [List.getElem?_append_left hi] at e
      have nz : 12 * o + i ≠ 12 * o + D.length := by omega
      simp only [jI_k nz]
      rw [tk_i (by omega), tk_i (by omega)]
      exact q5 i c e
  · rw [fl_nil] at e
    rw [jI_a (by decide), jI_a (by decide), jI_a (by decide), jI_a (by decide), jI_a (by decide), jI_a (by decide), jI_a (by decide), jI_a (by decide), jI_a (by decide), jI_a (by decide)]
    exact q6 j y e
/-- ends(o) -/
theorem s117 {d o b L : Nat} {h : Hp} {K : Hp → Prop} (S : RSh h) (ho : o < 6) (hb : jI h 21 4 o = nI (b + 1)) (hb12 : b < 12) (hL : jI h 21 5 o = nI L) (k : K (wI h 21 9 (12 * o + b) (nI L))) : CV (d + 1) 117 [vR 11 (some 0), vI (nI o)] h K := by
  intro P hP
  have io : ix (nI o) = o := nI_clamp (by omega)
  have ib : ix (nI (12 * o + b)) = 12 * o + b := nI_clamp (by omega)
  have v6 : ∀ {g : Hp} {i : Nat}, jLen g 21 i = 6 → vp_in (nI o) (jLen g 21 i) := fun e => by rw [e]; exact vp_in_nI ho (by decide)
  have e1 : nI (12 * o + (b + 1)) - 1 = nI (12 * o + b) := nI_pred _
  refine v117 hP 0 (nI o) h (dr_of S.r18 ?_)
  rw [io, hb, x12, e1, ib]
  refine ⟨v6 S.n18, dr_of S.r19 ⟨v6 S.n19, dr_of S.r23 ⟨by rw [S.n23]; exact vp_in_nI (by omega) (by decide), rfl, ?_⟩⟩⟩
  rw [hL]
  exact k
theorem RpG.ends {G : Hp} {o : Nat} {D : List Bod} {b : Bod} (Q : RpG G o (D ++ [b]) D.length) : RpG (wI G 21 9 (12 * o + D.length) (nI (fl (D ++ [b])).length)) o (D ++ [b]) (D.length + 1) := by
  obtain ⟨q1, q2, q3, q4, q5, q6⟩ := Q
  have el : (D ++ [b]).length = D.length + 1 := by rw [List.length_append]; rfl
  refine ⟨q1, q2, ?_, ?_, fun i c e => ?_, fun j y e => ?_⟩
  · rw [jI_a (by decide)]; exact q3
  · rw [jI_a (by decide)]; exact q4
  · have o2 := q5 i c e
    refine ⟨?_, ?_, ?_, fun hi => ?_⟩
    · rw [jI_a (by decide)]; exact o2.1
    · rw [jI_a (by decide)]; exact o2.2.1
    · rw [jI_a (by decide)]; exact o2.2.2.1
    · by_cases z : i = D.length
      · rw [z, jI_same, List.take_of_length_le (by omega)]
      · rw [jI_k (by omega)]; exact o2.2.2.2 (by omega)
  · rw [jI_a (by decide), jI_a (by decide)]; exact q6 j y e
def Sv (S : List Nat) : Prop := ∀ s ∈ S, s < 6 ∨ s = 9
def lvO (s : Nat) : Nat := if s = 9 then 0 else lvl s
theorem s181 {d s : Nat} {h : Hp} {K : Int32 → Hp → Prop} (hs : s < 6 ∨ s = 9) (k : K (nI (lvO s)) h) : CI (d + 1) 181 [vI (chC s)] h K := by
  intro P hP
  have hc : s = 0 ∨ s = 1 ∨ s = 2 ∨ s = 3 ∨ s = 4 ∨ s = 5 ∨ s = 9 := by omega
  rcases hc with rfl | rfl | rfl | rfl | rfl | rfl | rfl
  · exact v181 hP 43 h ⟨fun _ => ⟨fun _ => ⟨_, rfl, k⟩, fun z => absurd rfl z⟩, fun z => absurd (by decide) z⟩
  · exact v181 hP 45 h ⟨fun _ => ⟨fun z => absurd z (by decide), fun _ => ⟨fun z => absurd rfl z, fun _ => ⟨_, rfl, k⟩⟩⟩, fun z => absurd (by decide) z⟩
  · exact v181 hP 42 h ⟨fun _ => ⟨fun z => absurd z (by decide), fun _ => ⟨fun _ => ⟨_, rfl, k⟩, fun z => absurd (by decide) z⟩⟩, fun z => absurd (by decide) z⟩
  · exact v181 hP 61 h ⟨fun _ => ⟨fun z => absurd z (by decide), fun _ => ⟨fun _ => ⟨_, rfl, k⟩, fun z => absurd (by decide) z⟩⟩, fun z => absurd (by decide) z⟩
  · exact v181 hP 60 h ⟨fun _ => ⟨fun z => absurd z (by decide), fun _ => ⟨fun _ => ⟨_, rfl, k⟩, fun z => absurd (by decide) z⟩⟩, fun z => absurd (by decide) z⟩
  · exact v181 hP 62 h ⟨fun _ => ⟨fun z => absurd z (by decide), fun _ => ⟨fun _ => ⟨_, rfl, k⟩, fun z => absurd (by decide) z⟩⟩, fun z => absurd (by decide) z⟩
  · exact v181 hP 40 h ⟨fun z => absurd rfl z, fun _ => ⟨_, rfl, k⟩⟩
/-- the waiting signs S (the top first), o open brackets -/
def WS (G : Hp) (S : List Nat) (o : Nat) : Prop := jI G 11 0 27 = nI S.length ∧ jI G 11 0 28 = nI o ∧ ∀ j s, S.reverse[j]? = some s → jI G 21 12 j = chC s
def XR : Nat → Nat → Nat → Prop := fun t a k => (t = 21 ∧ (((a = 4 ∨ a = 5) ∧ k = 5) ∨ (6 ≤ a ∧ a ≤ 9 ∧ 60 ≤ k) ∨ ((a = 10 ∨ a = 11) ∧ 1200 ≤ k) ∨ a = 12)) ∨ (t = 11 ∧ a = 0 ∧ (k = 27 ∨ k = 28))
def ES (n : Nat) (tx : Nat → Int32) (D : List Bod) (r q : Nat) (H G h : Hp) (p : Nat) (S : List Nat) (o : Nat) (out : List Nat) : Prop := RtN G h 0 1 n tx p ∧ RpG G 5 (D ++ [(r, q, out)]) D.length ∧ WS G S o ∧ EqX XR H G
theorem WS.top {G : Hp} {s o : Nat} {S : List Nat} (w : WS G (s :: S) o) : jI G 21 12 S.length = chC s := by
  refine w.2.2 S.length s ?_
  rw [List.reverse_cons, List.getElem?_append_right (by rw [List.length_reverse]; exact Nat.le_refl _), List.length_reverse, Nat.sub_self]
  rfl
theorem rev_cons {S : List Nat} {s j x : Nat} (h : S.reverse[j]? = some x) : (s :: S).reverse[j]? = some x := by
  have hj : j < S.reverse.length := by
    rcases Nat.lt_or_ge j S.reverse.length with z | z
    · exact z
    · rw [List.getElem?_eq_none z] at h; cases h
  rw [List.reverse_cons, List.getElem?_append_left hj]
  exact h
theorem ES.emit {n : Nat} {tx : Nat → Int32} {D : List Bod} {r q : Nat} {H G h : Hp} {p : Nat} {S : List Nat} {o : Nat} {out : List Nat} {x : Nat} {v : Int32} (e : ES n tx D r q H G h p S o out) (hlt : (fl D).length + out.length < 240) (hv : x < 10000 → v = nI x) : ES n tx D r q H (cdH G 5 ((fl D).length + out.length) (opN x) v) (cdH h 5 ((fl D).length + out.length) (opN x) v) p S o (out ++ [x]) := by
  obtain ⟨R, Q, W, E⟩ := e
  have Q2 := Q.code (x := x) (v := v) (Nat.le_refl _) (by rw [fl_len]; exact hlt) hv
  rw [fl_len] at Q2
  refine ⟨((R.wI (t := 21) 10 _ (opN x) (by decide) (by decide)).wI (t := 21) 11 _ v (by decide) (by decide)).wI (t := 21) 5 5 _ (by decide) (by decide), Q2, ⟨?_, ?_, fun j s hj => ?_⟩, ((E.wI _ (Or.inl ⟨rfl, Or.inr (Or.inr (Or.inl ⟨Or.inl rfl, by omega⟩))⟩)).wI _ (Or.inl ⟨rfl, Or.inr (Or.inr (Or.inl ⟨Or.inr rfl, by omega⟩))⟩)).wI _ (Or.inl ⟨rfl, Or.inl ⟨Or.inr rfl, rfl⟩⟩)⟩
  · unfold cdH; rw [jI_t (by decide), jI_t (by decide), jI_t (by decide)]; exact W.1
  · unfold cdH; rw [jI_t (by decide), jI_t (by decide), jI_t (by decide)]; exact W.2.1
  · unfold cdH; rw [jI_a (by decide), jI_a (by decide), jI_a (by decide)]; exact W.2.2 j s hj
theorem RpG.w11 {G : Hp} {o m k : Nat} {D : List Bod} {v : Int32} (Q : RpG G o D m) : RpG (wI G 11 0 k v) o D m := by
  obtain ⟨q1, q2, q3, q4, q5, q6⟩ := Q
  refine ⟨q1, q2, ?_, ?_, fun i b e => ?_, fun j x e => ?_⟩
  · rw [jI_t (by decide)]; exact q3
  · rw [jI_t (by decide)]; exact q4
  · rw [jI_t (by decide), jI_t (by decide), jI_t (by decide), jI_t (by decide)]; exact q5 i b e
  · rw [jI_t (by decide), jI_t (by decide)]; exact q6 j x e
theorem op_sign (s : Nat) : opN (20000 + s) = chC s := by
  unfold opN
  rw [if_neg (by omega), if_neg (by omega), show 20000 + s - 20000 = s by omega]
/-- joinsTo(level) -/
theorem j182 {d n lv : Nat} {tx : Nat → Int32} {D : List Bod} {r q : Nat} {H : Hp} {p o : Nat} {K : Hp → Prop} {P : Nat → List AV → List AV → Hp → Prop} (hP : Cl (Call (d + 1)) 182 (fun v h' => v = none ∧ K h') P) (Sh : RSh H) (hlv : lv = 1 ∨ lv = 2) : ∀ (S : List Nat) (G h : Hp) (out : List Nat), ES n tx D r q H G h p S o out → Sv S → (fl D).length + out.length + S.length ≤ 240 → (∀ G' h', ES n tx D r q H G' h' p (joiS lv S out).1 o (joiS lv S out).2 → K h') → P 0 [vR 11 (some 0), vI (nI lv)] [] h
  | [], G, h, out, e, hS, hlen, k => by
    have w0 : jI h 11 0 27 = nI 0 := by rw [e.1.Io (by decide)]; exact e.2.2.1.1
    exact v182_0 hP 0 (nI lv) h ⟨fun _ => ⟨rfl, k G h e⟩, fun c => absurd (by rw [w0]; decide) c⟩
  | s :: S, G, h, out, e, hS, hlen, k => by
    have ll : (s :: S).length = S.length + 1 := rfl
    have w0 : jI h 11 0 27 = nI (S.length + 1) := by rw [e.1.Io (by decide)]; exact e.2.2.1.1
    have e1 : nI (S.length + 1) - 1 = nI S.length := nI_pred _
    have iS : ix (nI S.length) = S.length := nI_clamp (by omega)
    have Shh : RSh h := (e.2.2.2.sh Sh).of e.1.R e.1.len
    have tp : jI h 21 12 S.length = chC s := by rw [e.1.I (by decide)]; exact e.2.2.1.top
    have hs := hS s List.mem_cons_self
    have v250 : ∀ {g : Hp}, jLen g 21 12 = 250 → vp_in (nI S.length) (jLen g 21 12) := fun e => by rw [e]; exact vp_in_nI (by omega) (by decide)
    refine v182_0 hP 0 (nI lv) h ?_
    rw [w0, e1, iS]
    refine ⟨fun c => absurd c (nI_nle (by omega) (by omega)), fun _ => dr_of Shh.r26 ⟨v250 Shh.n26, ?_⟩⟩
    rw [tp]
    have hlo : lvO s ≤ 2 := by unfold lvO lvl; (repeat' split) <;> omega
    have cond : lvO s < lv ↔ (s = 9 ∨ (lv = 2 ∧ s < 2)) := by
      unfold lvO lvl
      (repeat' split) <;> omega
    refine s181 hs ⟨fun c => ⟨rfl, ?_⟩, fun c => ?_⟩
    · have c := (nI_ltI (a := lvO s) (b := lv) (by omega) (by omega)).mp c
      have ej : joiS lv (s :: S) out = (s :: S, out) := by rw [joiS.eq_2, if_pos (cond.mp c)]
      rw [ej] at k
      exact k G h e
    · have c : ¬ lvO s < lv := fun z => c ((nI_ltI (a := lvO s) (b := lv) (by omega) (by omega)).mpr z)
      have ej : joiS lv (s :: S) out = joiS lv S (out ++ [20000 + s]) := by rw [joiS.eq_2, if_neg (fun z => c (cond.mpr z))]
      rw [ej] at k
      have e2 : ES n tx D r q H (wI G 11 0 27 (nI S.length)) (wI h 11 0 27 (nI S.length)) p S o out := by
        obtain ⟨R, Q, W, E⟩ := e
        refine ⟨R.w11 _ (by decide), Q.w11, ⟨jI_same _ _ _ _ _, ?_, fun j x hj => ?_⟩, E.wI _ (Or.inr ⟨rfl, rfl, Or.inl rfl⟩)⟩
        · rw [jI_k (by decide)]; exact W.2.1
        · rw [jI_t (by decide)]; exact W.2.2 j x (rev_cons hj)
      have Sh2 : RSh (wI h 11 0 27 (nI S.length)) := Shh.of rfl rfl
      have cc : jI (wI h 11 0 27 (nI S.length)) 21 5 5 = nI ((fl D).length + out.length) := by
        rw [e2.1.I (by decide), ← fl_len D r q out]; exact e2.2.1.2.2.2.1
      rw [w0, e1]
      refine dr_of Sh2.r26 ?_
      rw [jI_same, iS, jI_t (by decide), tp]
      refine ⟨v250 Sh2.n26, s116 Sh2 (by decide) cc (by omega) ?_⟩
      have e3 := e2.emit (x := 20000 + s) (v := 0) (by omega) (fun z => by omega)
      rw [op_sign] at e3
      exact j182 hP Sh hlv S _ _ _ e3 (fun x hx => hS x (List.mem_cons_of_mem _ hx)) (by rw [List.length_append]; show _ + (_ + 1) + _ ≤ _; omega) k
theorem s182 {d n lv : Nat} {tx : Nat → Int32} {D : List Bod} {r q : Nat} {H G h : Hp} {p o : Nat} {S out : List Nat} {K : Hp → Prop} (Sh : RSh H) (hlv : lv = 1 ∨ lv = 2) (e : ES n tx D r q H G h p S o out) (hS : Sv S) (hlen : (fl D).length + out.length + S.length ≤ 240) (k : ∀ G' h', ES n tx D r q H G' h' p (joiS lv S out).1 o (joiS lv S out).2 → K h') : CV (d + 2) 182 [vR 11 (some 0), vI (nI lv)] h K := fun P hP => j182 hP Sh hlv S G h out e hS hlen k
