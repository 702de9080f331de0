/-! the reference's expression() -/
def opdL : List Int64 := [0, 0, 1936683636, 422608400247, 8388357154388931173, 121450625394034, 7022365715251684453, 110455627015539, 1802071652, 482854658917, 1852143732]
theorem s179 {d t : Nat} {h : Hp} {K : Int64 → Hp → Prop} (h1 : 2 ≤ t) (h2 : t ≤ 10) (k : K (opdL.getD t 0) h) : CJ (d + 1) 179 [vI (nI t)] h K := by
  intro P hP
  have hc : t = 2 ∨ t = 3 ∨ t = 4 ∨ t = 5 ∨ t = 6 ∨ t = 7 ∨ t = 8 ∨ t = 9 ∨ t = 10 := by omega
  rcases hc with rfl | rfl | rfl | rfl | rfl | rfl | rfl | rfl | rfl
  · exact v179 hP (nI 2) h ⟨fun _ => ⟨_, rfl, k⟩, fun z => absurd rfl z⟩
  · exact v179 hP (nI 3) h ⟨fun z => absurd z (by decide), fun _ => ⟨fun _ => ⟨_, rfl, k⟩, fun z => absurd rfl z⟩⟩
  · exact v179 hP (nI 4) h ⟨fun z => absurd z (by decide), fun _ => ⟨fun z => absurd z (by decide), fun _ => ⟨fun _ => ⟨_, rfl, k⟩, fun z => absurd rfl z⟩⟩⟩
  · exact v179 hP (nI 5) h ⟨fun z => absurd z (by decide), fun _ => ⟨fun z => absurd z (by decide), fun _ => ⟨fun z => absurd z (by decide), fun _ => ⟨fun _ => ⟨_, rfl, k⟩, fun z => absurd rfl z⟩⟩⟩⟩
  · exact v179 hP (nI 6) h ⟨fun z => absurd z (by decide), fun _ => ⟨fun z => absurd z (by decide), fun _ => ⟨fun z => absurd z (by decide), fun _ => ⟨fun z => absurd z (by decide), fun _ => ⟨fun _ => ⟨_, rfl, k⟩, fun z => absurd rfl z⟩⟩⟩⟩⟩
  · exact v179 hP (nI 7) h ⟨fun z => absurd z (by decide), fun _ => ⟨fun z => absurd z (by decide), fun _ => ⟨fun z => absurd z (by decide), fun _ => ⟨fun z => absurd z (by decide), fun _ => ⟨fun z => absurd z (by decide), fun _ => ⟨fun _ => ⟨_, rfl, k⟩, fun z => absurd rfl z⟩⟩⟩⟩⟩⟩
  · exact v179 hP (nI 8) h ⟨fun z => absurd z (by decide), fun _ => ⟨fun z => absurd z (by decide), fun _ => ⟨fun z => absurd z (by decide), fun _ => ⟨fun z => absurd z (by decide), fun _ => ⟨fun z => absurd z (by decide), fun _ => ⟨fun z => absurd z (by decide), fun _ => ⟨fun _ => ⟨_, rfl, k⟩, fun z => absurd rfl z⟩⟩⟩⟩⟩⟩⟩
  · exact v179 hP (nI 9) h ⟨fun z => absurd z (by decide), fun _ => ⟨fun z => absurd z (by decide), fun _ => ⟨fun z => absurd z (by decide), fun _ => ⟨fun z => absurd z (by decide), fun _ => ⟨fun z => absurd z (by decide), fun _ => ⟨fun z => absurd z (by decide), fun _ => ⟨fun z => absurd z (by decide), fun _ => ⟨fun _ => ⟨_, rfl, k⟩, fun z => absurd rfl z⟩⟩⟩⟩⟩⟩⟩⟩
  · exact v179 hP (nI 10) h ⟨fun z => absurd z (by decide), fun _ => ⟨fun z => absurd z (by decide), fun _ => ⟨fun z => absurd z (by decide), fun _ => ⟨fun z => absurd z (by decide), fun _ => ⟨fun z => absurd z (by decide), fun _ => ⟨fun z => absurd z (by decide), fun _ => ⟨fun z => absurd z (by decide), fun _ => ⟨fun z => absurd z (by decide), fun _ => ⟨_, rfl, k⟩⟩⟩⟩⟩⟩⟩⟩⟩
theorem opd_w : (List.range 9).all (fun t => isW (83 + t) (opdL.getD (t + 2) 0)) = true := by decide +kernel
theorem joi_len (lv : Nat) : ∀ (S out : List Nat), (joiS lv S out).1.length + (joiS lv S out).2.length = S.length + out.length
  | [], out => rfl
  | s :: S, out => by
    rw [joiS.eq_2]
    split
    · rfl
    · rw [joi_len lv S, List.length_append]
      show S.length + (out.length + 1) = S.length + 1 + out.length
      omega
theorem joi_sv {lv : Nat} : ∀ {S : List Nat} (out : List Nat), Sv S → Sv (joiS lv S out).1
  | [], out, h => h
  | s :: S, out, h => by
    rw [joiS.eq_2]
    split
    · exact h
    · exact joi_sv _ (fun x hx => h x (List.mem_cons_of_mem _ hx))
theorem joi_cnt {lv : Nat} : ∀ {S : List Nat} (out : List Nat), (joiS lv S out).1.count 9 = S.count 9
  | [], out => rfl
  | s :: S, out => by
    rw [joiS.eq_2]
    split
    · rfl
    · rename_i z
      rw [joi_cnt, List.count_cons_of_ne (fun e => z (Or.inl e))]
theorem joi_hd : ∀ {S : List Nat} (out : List Nat), 0 < S.count 9 → ∃ T, (joiS 1 S out).1 = 9 :: T
  | [], out, h => absurd h (by decide)
  | s :: S, out, h => by
    rw [joiS.eq_2]
    by_cases z : s = 9
    · rw [if_pos (Or.inl z), z]; exact ⟨S, rfl⟩
    · rw [if_neg (by omega)]
      rw [List.count_cons_of_ne z] at h
      exact joi_hd _ h
/-- waitsFor(c) -/
theorem s180 {d n s : Nat} {tx : Nat → Int32} {D : List Bod} {r q : Nat} {H G h : Hp} {p o : Nat} {S out : List Nat} {K : Hp → Prop} (Sh : RSh H) (e : ES n tx D r q H G h p S o out) (hl : S.length < 250) (k : ∀ G' h', ES n tx D r q H G' h' p (s :: S) o out → K h') : CV (d + 1) 180 [vR 11 (some 0), vI (chC s)] h K := by
  intro P hP
  have w0 : jI h 11 0 27 = nI S.length := by rw [e.1.Io (by decide)]; exact e.2.2.1.1
  have iS : ix (nI S.length) = S.length := nI_clamp (by omega)
  have Shh : RSh h := (e.2.2.2.sh Sh).of e.1.R e.1.len
  refine v180 hP 0 (chC s) h (dr_of Shh.r26 ?_)
  rw [w0, iS, jI_t (by decide), w0, nI_1]
  refine ⟨by rw [Shh.n26]; exact vp_in_nI hl (by decide), rfl, k (wI (wI G 21 12 S.length (chC s)) 11 0 27 (nI (S.length + 1))) _ ?_⟩
  obtain ⟨R, Q, W, E⟩ := e
  have Q2 : RpG (wI G 21 12 S.length (chC s)) 5 (D ++ [(r, q, out)]) D.length := by
    obtain ⟨q1, q2, q3, q4, q5, q6⟩ := Q
    refine ⟨q1, q2, ?_, ?_, fun i b e => ?_, fun j x e => ?_⟩
    · rw [jI_a (by decide)]; exact q3
    · rw [jI_a (by decide)]; exact q4
    · rw [jI_a (by decide), jI_a (by decide), jI_a (by decide), jI_a (by decide)]; exact q5 i b e
    · rw [jI_a (by decide), jI_a (by decide)]; exact q6 j x e
  refine ⟨(R.wI (t := 21) 12 S.length (chC s) (by decide) (by decide)).w11 _ (by decide), Q2.w11, ⟨jI_same _ _ _ _ _, ?_, fun j x hj => ?_⟩, (E.wI _ (Or.inl ⟨rfl, Or.inr (Or.inr (Or.inr rfl))⟩)).wI _ (Or.inr ⟨rfl, rfl, Or.inl rfl⟩)⟩
  · rw [jI_k (by decide), jI_t (by decide)]; exact W.2.1
  · rw [jI_t (by decide)]
    rw [List.reverse_cons] at hj
    by_cases z : j = S.length
    · rw [z, List.getElem?_append_right (by rw [List.length_reverse]; exact Nat.le_refl _), List.length_reverse, Nat.sub_self] at hj
      have hj := Option.some.inj hj
      rw [z, jI_same, hj]
    · rw [jI_k z]
      have hlt : j < S.reverse.length := by
        rcases Nat.lt_or_ge j (S.reverse ++ [s]).length with y | y
        · rw [List.length_append, List.length_reverse] at y
          rw [List.length_reverse]
          have : [s].length = 1 := rfl
          omega
        · rw [List.getElem?_eq_none y] at hj; cases hj
      rw [List.getElem?_append_left hlt] at hj
      exact W.2.2 j x hj
def opW (c : Nat) : Nat := if 83 ≤ c ∧ c < 92 then c - 81 else 0
theorem x20 {d n p : Nat} {tx : Nat → Int32} {h : Hp} {l1 : Int32} {Q : Option AV → Hp → Prop} {P : Nat → List AV → List AV → Hp → Prop} (hP : Cl (Call (d + 1)) 178 Q P) (R : RtAt h 0 1 n tx p) (kk : P 20 [vR 11 (some 0), vI l1, vI (nI (opW (kd tx n p))), vI 11] [] h) : ∀ mm t w, t + mm = 9 → w = (if 83 ≤ kd tx n p ∧ kd tx n p < 83 + t then kd tx n p - 81 else 0) → P 20 [vR 11 (some 0), vI l1, vI (nI w), vI (nI (t + 2))] [] h
  | 0, t, w, ht, hw => by
    have e : t = 9 := by omega
    subst e
    have ew : w = opW (kd tx n p) := hw
    rw [ew]
    exact kk
  | mm + 1, t, w, ht, hw => by
    refine v178_20 hP 0 l1 (nI w) (nI (t + 2)) h ⟨fun c => absurd c (nI_nlt (a := 10) (by omega) (by omega)), fun _ => s179 (by omega) (by omega) (s133 R (all_r opd_w (by omega)) ⟨fun c => ?_, fun c => ?_⟩)⟩
    · have c := bi0.mp c
      rw [nI_1]
      refine x20 hP R kk mm (t + 1) w (by omega) ?_
      rw [hw]
      by_cases z : 83 ≤ kd tx n p ∧ kd tx n p < 83 + t
      · rw [if_pos z, if_pos (by omega)]
      · rw [if_neg z, if_neg (by omega)]
    · have c : kd tx n p = 83 + t := Classical.not_not.mp (fun y => c (bi0.mpr y))
      rw [nI_1]
      refine x20 hP R kk mm (t + 1) (t + 2) (by omega) ?_
      rw [if_pos (by omega)]; omega
theorem ES.next {d n : Nat} {tx : Nat → Int32} {D : List Bod} {r q : Nat} {H G h : Hp} {p o : Nat} {S out : List Nat} {K : Hp → Prop} (e : ES n tx D r q H G h p S o out) (k : ∀ h', ES n tx D r q H G h' (np tx n p) S o out → K h') : CV (d + 2) 125 [vR 11 (some 0)] h K := s125n e.1 (fun h' R' => k h' ⟨R', e.2⟩)
theorem op_word {c : Nat} (h : 83 ≤ c ∧ c < 92) : opN (10000 + (c - 83)) = nI (opW c) := by
  unfold opN opW
  rw [if_neg (by omega), if_pos (by omega), if_pos h]; congr 1; omega
theorem op_num {v : Nat} (h : v < 10000) : opN v = 1 := if_pos h
theorem x12' {d n : Nat} {tx : Nat → Int32} {D : List Bod} {r q : Nat} {H : Hp} {K : Int32 → Hp → Prop} {P : Nat → List AV → List AV → Hp → Prop} (hP : Cl (Call (d + 3)) 178 (fun v h' => ∃ x, v = some (vI x) ∧ K x h') P) (Sh : RSh H) (hB : Byt tx) : ∀ (f : Nat) (b : Bool) (S : List Nat) (o : Nat) (out : List Nat) (p : Nat) (G h : Hp) (w2 w3 : AV), ES n tx D r q H G h p S o out → Sv S → S.count 9 = o → o ≤ 9 → (fl D).length + out.length + S.length ≤ p → n - p < f → (∀ G' h' p', yr tx n f b S o out p = (none, p') → RtN G' h' 0 1 n tx p' → EqX XR H G' → K 0 h') → (∀ G' h' p' C, yr tx n f b S o out p = (some C, p') → RtN G' h' 0 1 n tx p' → RpG G' 5 (D ++ [(r, q, C)]) D.length → EqX XR H G' → p ≤ p' → kd tx n p' = 359 → (fl D).length + C.length ≤ p' → K 1 h') → P 12 [vR 11 (some 0), vI (bi b), w2, w3] [] h
  | 0, b, S, o, out, p, G, h, w2, w3, e, hS, hc, ho, hlen, hf, k0, k1 => by omega
  | f + 1, true, S, o, out, p, G, h, w2, w3, e, hS, hc, ho, hlen, hf, k0, k1 => by
    have hp : p ≤ n := e.1.2.2.1
    have hn : n ≤ 240 := e.1.2.1.1
    have pl := np_le (tx := tx) hp
    unfold yr at k0 k1
    have Shh : RSh h := (e.2.2.2.sh Sh).of e.1.R e.1.len
    have b40 := rt_byte (c := 40) e.1.2 hB (by decide) (by decide) (by decide)
    have rn := rt_num e.1.2
    refine v178_12 hP 0 1 w2 w3 h ⟨fun z => absurd z (by decide), fun _ => ?_⟩
    refine x20 (t := 0) hP e.1.2 ?_ 9 0 rfl (by rw [if_neg (by omega)])
    have emt : ∀ x w v, opN x = w → (x < 10000 → v = nI x) → x < 30000 → ¬ kd tx n p = 200 → yrd (nmN tx n 4) (kd tx n) (np tx n) (f + 1) true S o out p = yrd (nmN tx n 4) (kd tx n) (np tx n) f false S o (out ++ [x]) (np tx n p) → ∀ w2 w3 : AV, CV (d + 3) 116 [vR 11 (some 0), vI 5, vI w, vI v] h (fun h1 => CV (d + 3) 125 [vR 11 (some 0)] h1 (fun h2 => P 12 [vR 11 (some 0), vI 0, w2, w3] [] h2)) := by
      intro x w v ew hv hx n200 ey w2 w3
      subst ew
      have pg := np_gt hp n200
      rw [ey] at k0 k1
      have cc : jI h 21 5 5 = nI ((fl D).length + out.length) := by
        rw [e.1.I (by decide), ← fl_len D r q out]; exact e.2.1.2.2.2.1
      refine s116 Shh (o := 5) (by decide) cc (by omega) ((e.emit (by omega) hv).next (fun h2 e2 => ?_))
      exact x12' hP Sh hB f false S o (out ++ [x]) (np tx n p) _ h2 w2 w3 e2 hS hc ho (by rw [List.length_append]; show _ + (_ + 1) + _ ≤ _; omega) (by omega) k0 (fun G' h' p' C e' R' Q' E' h1 h2 h3 => k1 G' h' p' C e' R' Q' E' (by omega) h2 h3)
    refine v178_20 hP 0 1 (nI (opW (kd tx n p))) 11 h ⟨fun _ => ⟨fun c40 => ⟨fun c100 => ?_, fun c100 => ?_⟩, fun c40 => ?_⟩, fun z => absurd (by decide) z⟩
    · have cn := rn.1.mp c100
      have ek := nm_kd hp cn
      have ow : opW (kd tx n p) = 0 := by rw [ek]; decide
      have nk : ¬ kd tx n p = 340 := by omega
      rw [ow]
      exact ⟨fun z => absurd rfl z, fun _ => emt (nmN tx n 4 p) 1 _ (op_num cn) (fun _ => (rn.2 cn).1) (by omega) (by omega) (by rw [yrd_t, if_neg nk, if_pos cn]) _ _⟩
    · have nn : ¬ nmN tx n 4 p < 10000 := fun z => c100 (rn.1.mpr z)
      have nk : ¬ kd tx n p = 340 := fun z => c40 (b40.mpr z)
      by_cases hw : 83 ≤ kd tx n p ∧ kd tx n p < 92
      · have ow : opW (kd tx n p) = kd tx n p - 81 := if_pos hw
        have nz : ¬ nI (opW (kd tx n p)) = 0 := by rw [ow]; exact nI_ne0 (by omega) (by omega)
        exact ⟨fun z => absurd z nz, fun _ => ⟨fun _ => emt (10000 + (kd tx n p - 83)) (nI (opW (kd tx n p))) _ (op_word hw) (fun z => by omega) (by omega) (by omega) (by rw [yrd_t, if_neg nk, if_neg nn, if_pos hw]) _ _, fun z => absurd nz z⟩⟩
      · have ow : opW (kd tx n p) = 0 := if_neg hw
        rw [ow]
        exact ⟨fun _ => ⟨_, rfl, k0 _ _ p (by rw [yrd_t, if_neg nk, if_neg nn, if_neg hw]) e.1 e.2.2.2⟩, fun z => absurd rfl z⟩
    · have yk : kd tx n p = 340 := b40.mp (Classical.not_not.mp c40)
      have w28 : jI h 11 0 28 = nI o := by rw [e.1.Io (by decide)]; exact e.2.2.1.2.1
      rw [w28, nI_1]
      refine ⟨fun c9 => ?_, fun c9 => ⟨_, rfl, k0 _ _ p ?_ e.1 e.2.2.2⟩⟩
      · have c9 : ¬ o = 9 := fun z => c9 (by rw [z]; rfl)
        have ey : yrd (nmN tx n 4) (kd tx n) (np tx n) (f + 1) true S o out p = yrd (nmN tx n 4) (kd tx n) (np tx n) f true (9 :: S) (o + 1) out (np tx n p) := by rw [yrd_t, if_pos yk, if_neg c9]
        rw [ey] at k0 k1
        have pg := np_gt hp (show ¬ kd tx n p = 200 by omega)
        have e2 : ES n tx D r q H (wI G 11 0 28 (nI (o + 1))) (wI h 11 0 28 (nI (o + 1))) p S (o + 1) out := by
          obtain ⟨R, Q, W, E⟩ := e
          refine ⟨R.w11 _ (by decide), Q.w11, ⟨?_, jI_same _ _ _ _ _, fun j x hj => ?_⟩, E.wI _ (Or.inr ⟨rfl, rfl, Or.inr rfl⟩)⟩
          · rw [jI_k (by decide)]; exact W.1
          · rw [jI_t (by decide)]; exact W.2.2 j x hj
        refine s180 (s := 9) Sh e2 (by omega) (fun G3 h3 e3 => e3.next (fun h4 e4 => ?_))
        exact x12' hP Sh hB f true (9 :: S) (o + 1) out (np tx n p) G3 h4 _ _ e4 (fun x hx => by
          rcases List.mem_cons.mp hx with z | z
          · exact Or.inr z
          · exact hS x z) (by rw [List.count_cons_self, hc]) (by omega) (by show _ + _ + (S.length + 1) ≤ _; omega) (by omega) k0 (fun G' h' p' C e' R' Q' E' h1 h2 h3 => k1 G' h' p' C e' R' Q' E' (by omega) h2 h3)
      · have c9 : o = 9 := (nI_eq (a := o) (b := 9) (by omega) (by omega)).mp (Classical.not_not.mp c9)
        rw [yrd_t, if_pos yk, if_pos c9]
  | f + 1, false, S, o, out, p, G, h, w2, w3, e, hS, hc, ho, hlen, hf, k0, k1 => by
    have hp : p ≤ n := e.1.2.2.1
    have hn : n ≤ 240 := e.1.2.1.1
    have pl := np_le (tx := tx) hp
    unfold yr at k0 k1
    have w28 : jI h 11 0 28 = nI o := by rw [e.1.Io (by decide)]; exact e.2.2.1.2.1
    have b43 := rt_byte (c := 43) e.1.2 hB (by decide) (by decide) (by decide)
    have b45 := rt_byte (c := 45) e.1.2 hB (by decide) (by decide) (by decide)
    have b42 := rt_byte (c := 42) e.1.2 hB (by decide) (by decide) (by decide)
    have b61 := rt_byte (c := 61) e.1.2 hB (by decide) (by decide) (by decide)
    have b60 := rt_byte (c := 60) e.1.2 hB (by decide) (by decide) (by decide)
    have b62 := rt_byte (c := 62) e.1.2 hB (by decide) (by decide) (by decide)
    have b41 := rt_byte (c := 41) e.1.2 hB (by decide) (by decide) (by decide)
    have b59 := rt_byte (c := 59) e.1.2 hB (by decide) (by decide) (by decide)
    have sgn : ∀ s c, chC s = nI c → kd tx n p = 300 + c → sgK (kd tx n p) = s → s < 6 → jI h 11 0 4 = nI c → (∀ {g : Hp}, RtN G g 0 1 n tx p → True) → CI (d + 3) 181 [vI (jI h 11 0 4)] h (fun x2 h1 => CV (d + 3) 182 [vR 11 (some 0), vI x2] h1 (fun h3 => CV (d + 3) 180 [vR 11 (some 0), vI (jI h3 11 0 4)] h3 (fun h4 => CV (d + 3) 125 [vR 11 (some 0)] h4 (fun h5 => P 12 [vR 11 (some 0), vI 1, w2, w3] [] h5)))) := by
      intro s c ec ekd es hs et _
      have pg := np_gt hp (show ¬ kd tx n p = 200 by omega)
      rw [et, ← ec]
      have el : lvO s = lvl s := by unfold lvO; rw [if_neg (by omega)]
      have hlv : lvl s = 1 ∨ lvl s = 2 := by unfold lvl; split <;> omega
      have ey : yrd (nmN tx n 4) (kd tx n) (np tx n) (f + 1) false S o out p = yrd (nmN tx n 4) (kd tx n) (np tx n) f true (s :: (joiS (lvl s) S out).1) o (joiS (lvl s) S out).2 (np tx n p) := by
        rw [yrd_f, if_pos (by omega), es]
      rw [ey] at k0 k1
      have jl := joi_len (lvl s) S out
      refine s181 (Or.inl hs) ?_
      rw [el]
      refine s182 Sh hlv e hS (by omega) (fun G3 h3 e3 => ?_)
      have t3 : jI h3 11 0 4 = chC s := by
        rw [ec]
        have hg : gdB (nI c) = nI c ∧ ¬ nI c = 63 ∧ ¬ nI c = 0 ∧ ¬ nI c = 119 ∧ ¬ nI c = 100 ∧ c < 256 := by
          have hcs : s = 0 ∨ s = 1 ∨ s = 2 ∨ s = 3 ∨ s = 4 ∨ s = 5 := by omega
          have cb : c < 256 := by
            obtain ⟨j, hj, ej⟩ := inS_ex (hB (tkS tx n p).2.1)
            rcases kd_cases (tx := tx) hp with y | y | y | y
            · omega
            · omega
            · omega
            · rw [ej, show ix (nI j) = j from nI_clamp (by omega)] at y; omega
          rcases hcs with z | z | z | z | z | z <;> subst z <;> (rw [← ec]; exact ⟨by decide, by decide, by decide, by decide, by decide, cb⟩)
        exact (rt_byte (c := c) e3.1.2 hB hg.2.2.2.2.2 hg.1 ⟨hg.2.1, hg.2.2.1, hg.2.2.2.1, hg.2.2.2.2.1⟩).mpr ekd
      rw [t3]
      refine s180 Sh e3 (by omega) (fun G4 h4 e4 => e4.next (fun h5 e5 => ?_))
      exact x12' hP Sh hB f true _ o _ (np tx n p) G4 h5 _ _ e5 (fun x hx => by
        rcases List.mem_cons.mp hx with z | z
        · exact Or.inl (by omega)
        · exact joi_sv _ hS x z) (by rw [List.count_cons_of_ne (by omega), joi_cnt, hc]) ho (by show _ + _ + (_ + 1) ≤ _; omega) (by omega) k0 (fun G' h' p' C e' R' Q' E' h1 h2 h3 => k1 G' h' p' C e' R' Q' E' (by omega) h2 h3)
    have fin : ¬ sgK (kd tx n p) < 9 → ¬ (kd tx n p = 341 ∧ 0 < o) → (¬ jI h 11 0 4 = 59 → ∃ x, some (vI 0) = some (vI x) ∧ K x h) ∧ (¬ (¬ jI h 11 0 4 = 59) → (¬ jI h 11 0 28 = 0 → ∃ x, some (vI 0) = some (vI x) ∧ K x h) ∧ (¬ (¬ jI h 11 0 28 = 0) → CV (d + 3) 182 [vR 11 (some 0), vI 1] h (fun h26 => ∃ x, some (vI 1) = some (vI x) ∧ K x h26))) := by
      intro ns n41
      refine ⟨fun c59 => ⟨_, rfl, k0 _ _ p ?_ e.1 e.2.2.2⟩, fun c59 => ⟨fun c0 => ⟨_, rfl, k0 _ _ p ?_ e.1 e.2.2.2⟩, fun c0 => ?_⟩⟩
      · have c59 : ¬ kd tx n p = 359 := fun z => c59 (b59.mpr z)
        rw [yrd_f, if_neg ns, if_neg n41, if_neg (fun z => c59 z.1)]
      · have c0 : ¬ o = 0 := fun z => c0 (by rw [w28, z]; rfl)
        rw [yrd_f, if_neg ns, if_neg n41, if_neg (fun z => c0 z.2)]
      · have c59 : kd tx n p = 359 := b59.mp (Classical.not_not.mp c59)
        have c0 := Classical.not_not.mp c0
        rw [w28] at c0
        have c0 : o = 0 := (nI_eq (a := o) (b := 0) (by omega) (by omega)).mp c0
        have ey : yrd (nmN tx n 4) (kd tx n) (np tx n) (f + 1) false S o out p = (some (joiS 1 S out).2, p) := by rw [yrd_f, if_neg ns, if_neg n41, if_pos ⟨c59, c0⟩]
        have jl := joi_len 1 S out
        exact s182 (lv := 1) Sh (Or.inl rfl) e hS (by omega) (fun G3 h3 e3 => ⟨_, rfl, k1 _ _ p _ ey e3.1 e3.2.1 e3.2.2.2 (Nat.le_refl _) c59 (by omega)⟩)
    have nsg : ¬ jI h 11 0 4 = 43 → ¬ jI h 11 0 4 = 45 → ¬ jI h 11 0 4 = 42 → ¬ jI h 11 0 4 = 61 → ¬ jI h 11 0 4 = 60 → ¬ jI h 11 0 4 = 62 → ¬ sgK (kd tx n p) < 9 := by
      intro z1 z2 z3 z4 z5 z6
      have y1 : ¬ kd tx n p = 343 := fun z => z1 (b43.mpr z)
      have y2 : ¬ kd tx n p = 345 := fun z => z2 (b45.mpr z)
      have y3 : ¬ kd tx n p = 342 := fun z => z3 (b42.mpr z)
      have y4 : ¬ kd tx n p = 361 := fun z => z4 (b61.mpr z)
      have y5 : ¬ kd tx n p = 360 := fun z => z5 (b60.mpr z)
      have y6 : ¬ kd tx n p = 362 := fun z => z6 (b62.mpr z)
      unfold sgK
      rw [if_neg y1, if_neg y2, if_neg y3, if_neg y4, if_neg y5, if_neg y6]
      decide
    refine v178_12 hP 0 0 w2 w3 h ⟨fun _ => ?_, fun z => absurd rfl z⟩
    refine ⟨fun t43 => sgn 0 43 rfl (b43.mp t43) (by rw [b43.mp t43]; rfl) (by decide) t43 (fun _ => trivial), fun t43 => ⟨fun t45 => sgn 1 45 rfl (b45.mp t45) (by rw [b45.mp t45]; rfl) (by decide) t45 (fun _ => trivial), fun t45 => ⟨fun t42 => sgn 2 42 rfl (b42.mp t42) (by rw [b42.mp t42]; rfl) (by decide) t42 (fun _ => trivial), fun t42 => ⟨fun t61 => sgn 3 61 rfl (b61.mp t61) (by rw [b61.mp t61]; rfl) (by decide) t61 (fun _ => trivial), fun t61 => ⟨fun t60 => sgn 4 60 rfl (b60.mp t60) (by rw [b60.mp t60]; rfl) (by decide) t60 (fun _ => trivial), fun t60 => ⟨fun t62 => ?_, fun t62 => sgn 5 62 rfl (b62.mp (Classical.not_not.mp t62)) (by rw [b62.mp (Classical.not_not.mp t62)]; rfl) (by decide) (Classical.not_not.mp t62) (fun _ => trivial)⟩⟩⟩⟩⟩⟩
    have ns := nsg t43 t45 t42 t61 t60 t62
    refine ⟨fun t41 => fin ns (fun z => t41 (b41.mpr z.1)), fun t41 => ⟨fun co => fin ns (fun z => ?_), fun co => ?_⟩⟩
    · rw [w28] at co
      have := (nI_leI (a := o) (b := 0) (by omega) (by omega)).mp co
      omega
    · have y41 : kd tx n p = 341 := b41.mp (Classical.not_not.mp t41)
      have o0 : 0 < o := by
        rcases Nat.lt_or_ge 0 o with z | z
        · exact z
        · exact absurd (by rw [w28, show o = 0 by omega]; decide) co
      obtain ⟨T, hT⟩ := joi_hd out (show 0 < S.count 9 by omega)
      have ey : yrd (nmN tx n 4) (kd tx n) (np tx n) (f + 1) false S o out p = yrd (nmN tx n 4) (kd tx n) (np tx n) f false T (o - 1) (joiS 1 S out).2 (np tx n p) := by
        rw [yrd_f, if_neg ns, if_pos ⟨y41, o0⟩, hT]
        rfl
      rw [ey] at k0 k1
      have jl := joi_len 1 S out
      have jc := joi_cnt (lv := 1) (S := S) out
      have js := joi_sv (lv := 1) (S := S) out hS
      rw [hT] at jl jc js
      rw [List.count_cons_self] at jc
      have lT : (9 :: T).length = T.length + 1 := rfl
      have pg := np_gt hp (show ¬ kd tx n p = 200 by omega)
      refine s182 (lv := 1) Sh (Or.inl rfl) e hS (by omega) (fun G3 h3 e3 => ?_)
      rw [hT] at e3
      have q27 : jI h3 11 0 27 = nI (T.length + 1) := by rw [e3.1.Io (by decide)]; exact e3.2.2.1.1
      have q28 : jI h3 11 0 28 = nI (o - 1 + 1) := by rw [e3.1.Io (by decide), show o - 1 + 1 = o by omega]; exact e3.2.2.1.2.1
      have e27 : nI (T.length + 1) - 1 = nI T.length := nI_pred _
      have e28 : nI (o - 1 + 1) - 1 = nI (o - 1) := nI_pred _
      rw [q27, e27, jI_k (by decide), q28, e28]
      have e4 : ES n tx D r q H (wI (wI G3 11 0 27 (nI T.length)) 11 0 28 (nI (o - 1))) (wI (wI h3 11 0 27 (nI T.length)) 11 0 28 (nI (o - 1))) p T (o - 1) (joiS 1 S out).2 := by
        obtain ⟨R, Q, W, E⟩ := e3
        refine ⟨(R.w11 _ (by decide)).w11 _ (by decide), Q.w11.w11, ⟨?_, jI_same _ _ _ _ _, fun j x hj => ?_⟩, (E.wI _ (Or.inr ⟨rfl, rfl, Or.inl rfl⟩)).wI _ (Or.inr ⟨rfl, rfl, Or.inr rfl⟩)⟩
        · rw [jI_k (by decide), jI_same]
        · rw [jI_t (by decide), jI_t (by decide)]; exact W.2.2 j x (rev_cons hj)
      refine e4.next (fun h5 e5 => ?_)
      exact x12' hP Sh hB f false T (o - 1) _ (np tx n p) _ h5 _ _ e5 (fun x hx => js x (List.mem_cons_of_mem _ hx)) (by omega) (by omega) (by omega) (by omega) k0 (fun G' h' p' C e' R' Q' E' h1 h2 h3 => k1 G' h' p' C e' R' Q' E' (by omega) h2 h3)
/-- expression() -/
theorem s178 {d n : Nat} {tx : Nat → Int32} {D : List Bod} {r q : Nat} {H G h : Hp} {p : Nat} {K : Int32 → Hp → Prop} (Sh : RSh H) (hB : Byt tx) (R : RtN G h 0 1 n tx p) (Q : RpG G 5 (D ++ [(r, q, [])]) D.length) (E : EqX XR H G) (hlen : (fl D).length ≤ p) (k0 : ∀ G' h' p', yr tx n 241 true [] 0 [] p = (none, p') → RtN G' h' 0 1 n tx p' → EqX XR H G' → K 0 h') (k1 : ∀ G' h' p' C, yr tx n 241 true [] 0 [] p = (some C, p') → RtN G' h' 0 1 n tx p' → RpG G' 5 (D ++ [(r, q, C)]) D.length → EqX XR H G' → p ≤ p' → kd tx n p' = 359 → (fl D).length + C.length ≤ p' → K 1 h') : CI (d + 4) 178 [vR 11 (some 0)] h K := by
  intro P hP
  have hn : n ≤ 240 := R.2.1.1
  refine v178 hP 0 h ?_
  refine x12' hP Sh hB 241 true [] 0 [] p _ _ un un ⟨(R.w11 0 (by decide)).w11 0 (by decide), Q.w11.w11, ⟨?_, jI_same _ _ _ _ _, fun j s hj => by cases hj⟩, (E.wI _ (Or.inr ⟨rfl, rfl, Or.inl rfl⟩)).wI _ (Or.inr ⟨rfl, rfl, Or.inr rfl⟩)⟩ (fun x hx => absurd hx List.not_mem_nil) rfl (by decide) (by show _ + 0 + 0 ≤ _; omega) (by omega) k0 k1
  rw [jI_k (by decide), jI_same]; rfl
