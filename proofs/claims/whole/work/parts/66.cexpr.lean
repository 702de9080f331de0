/-! the class's readExpression, readTerm, readFactor against the stack of waiting signs -/
def Bp (H : Hp) : Prop := 0 < jN H 2 ∧ jR H 2 0 0 = some 0
/-- where the class's reading of a body stands -/
def CL (a n k : Nat) (tx : Nat → Int32) (H G h : Hp) (p : Nat) : Prop := TkN G h 0 a n tx p ∧ PkS G k ∧ Fr (Xp k) 0 0 H G
def CS (a n k : Nat) (tx : Nat → Int32) (D : List Bod) (r q : Nat) (H G h : Hp) (p : Nat) (C : List Nat) : Prop := CL a n k tx H G h p ∧ PkC G k (D ++ [(r, q, C)])
theorem CL.b {a n k : Nat} {tx : Nat → Int32} {H G h : Hp} {p : Nat} (c : CL a n k tx H G h p) (B : Bp H) : jR h 2 0 0 = some 0 := by
  rw [c.1.R, (c.2.2.2.2.1 2 0 0 B.1 (fun z => by rcases z with z | z <;> exact absurd z.1 (by decide))).2.1]
  exact B.2
theorem fr00 {X : Nat → Nat → Nat → Prop} {H G J : Hp} (F : Fr X 0 0 H G) (E : Fr X 0 0 G J) : Fr X 0 0 H J := F.trans E (fun _ _ _ _ z => z) (fun _ _ _ _ z => z)
theorem fl_len (D : List Bod) (r q : Nat) (C : List Nat) : (fl (D ++ [(r, q, C)])).length = (fl D).length + C.length := by
  rw [fl_app, fl_one, List.length_append]
theorem CS.add {d a n k : Nat} {tx : Nat → Int32} {D : List Bod} {r q : Nat} {H G h : Hp} {p x : Nat} {C : List Nat} {K : Hp → Prop} (c : CS a n k tx D r q H G h p C) (hx : x < 30000) (hlt : (fl D).length + C.length < 240) (kk : ∀ G' h', CS a n k tx D r q H G' h' p (C ++ [x]) → K h') : CV (d + 1) 15 [vR 1 (some k), vI (nI x)] h K := by
  obtain ⟨⟨R, S, F⟩, Q⟩ := c
  exact s15 R S Q hx (by rw [fl_len]; exact hlt) (fun G' h' R' S' Q' F' => kk _ _ ⟨⟨R', S', fr00 F F'⟩, Q'⟩)
theorem CS.next {d a n k : Nat} {tx : Nat → Int32} {D : List Bod} {r q : Nat} {H G h : Hp} {p : Nat} {C : List Nat} {K : Hp → Prop} (c : CS a n k tx D r q H G h p C) (kk : ∀ h', CS a n k tx D r q H G h' (np tx n p) C → K h') : CV (d + 1) 77 [vR 9 (some 0)] h K := s77n c.1.1 (fun h' R' => kk h' ⟨⟨R', c.1.2⟩, c.2⟩)
def Tp (lv : Nat) (S : List Nat) : Prop := ∀ s S', S = s :: S' → s = 9 ∨ (lv = 2 ∧ s < 2)
theorem joi_T {lv : Nat} {S : List Nat} (h : Tp lv S) (out : List Nat) : joiS lv S out = (S, out) := by
  cases S with
  | nil => rfl
  | cons s S' =>
    unfold joiS
    rw [if_pos (h s S' rfl)]
def Mp (m : List Nat) : Prop := m = [] ∨ ∃ s, m = [s] ∧ 2 ≤ s ∧ s < 6
def Ap (m : List Nat) : Prop := m = [] ∨ ∃ s, m = [s] ∧ s < 2
def em (m : List Nat) : List Nat := m.map (fun s => 20000 + s)
theorem joi_m {lv : Nat} {m S : List Nat} (hm : Mp m) (out : List Nat) : joiS lv (m ++ S) out = joiS lv S (out ++ em m) := by
  rcases hm with z | ⟨s, z, h1, h2⟩
  · subst z
    rw [List.nil_append]
    unfold em
    rw [List.map_nil, List.append_nil]
  · subst z
    show joiS lv (s :: S) out = _
    rw [joiS.eq_2, if_neg (by omega)]
    rfl
theorem joi_a {m S : List Nat} (hm : Ap m) (out : List Nat) : joiS 1 (m ++ S) out = joiS 1 S (out ++ em m) := by
  rcases hm with z | ⟨s, z, h1⟩
  · subst z
    rw [List.nil_append]
    unfold em
    rw [List.map_nil, List.append_nil]
  · subst z
    show joiS 1 (s :: S) out = _
    rw [joiS.eq_2, if_neg (by omega)]
    rfl
theorem yrd_t (nm kd np : Nat → Nat) (f : Nat) (S : List Nat) (o : Nat) (out : List Nat) (p : Nat) : yrd nm kd np (f + 1) true S o out p = if kd p = 340 then (if o = 9 then (none, p) else yrd nm kd np f true (9 :: S) (o + 1) out (np p)) else if nm p < 10000 then yrd nm kd np f false S o (out ++ [nm p]) (np p) else if 83 ≤ kd p ∧ kd p < 92 then yrd nm kd np f false S o (out ++ [10000 + (kd p - 83)]) (np p) else (none, p) := rfl
theorem yrd_f (nm kd np : Nat → Nat) (f : Nat) (S : List Nat) (o : Nat) (out : List Nat) (p : Nat) : yrd nm kd np (f + 1) false S o out p = if sgK (kd p) < 9 then yrd nm kd np f true (sgK (kd p) :: (joiS (lvl (sgK (kd p))) S out).1) o (joiS (lvl (sgK (kd p))) S out).2 (np p) else if kd p = 341 ∧ 0 < o then yrd nm kd np f false (joiS 1 S out).1.tail (o - 1) (joiS 1 S out).2 (np p) else if kd p = 359 ∧ o = 0 then (some (joiS 1 S out).2, p) else (none, p) := rfl
/-- the readers' common meaning of a term, over a text -/
def yr (tx : Nat → Int32) (n : Nat) := yrd (nmN tx n 4) (kd tx n) (np tx n)
theorem nm_kd {tx : Nat → Int32} {n p : Nat} (hp : p ≤ n) (h : nmN tx n 4 p < 10000) : kd tx n p = 201 := by
  have z := (nmN_lt (by decide)).mp h
  rcases kd_cases (tx := tx) hp with y | y | y | y <;> omega
section
variable (d a n k : Nat) (tx : Nat → Int32) (D : List Bod) (r q : Nat) (H : Hp)
def FacP (j : Nat) : Prop := ∀ (o p f : Nat) (G h : Hp) (C : List Nat) (K : Int32 → Hp → Prop), o + j = 9 → CS a n k tx D r q H G h p C → (fl D).length + C.length ≤ p → n - p < f → (∀ G' h' p', (∀ S, yr tx n f true S o C p = (none, p')) → CL a n k tx H G' h' p' → K 0 h') → (∀ G' h' p' C' f', CS a n k tx D r q H G' h' p' C' → C'.length + p ≤ C.length + p' → p < p' → n - p' < f' → (∀ S, yr tx n f true S o C p = yr tx n f' false S o C' p') → K 1 h') → CI (d + 3 * j + 6) 21 [vR 2 (some 0), vR 1 (some k), vI (nI o)] h K
def TerP (j : Nat) : Prop := ∀ (o p f : Nat) (G h : Hp) (C : List Nat) (K : Int32 → Hp → Prop), o + j = 9 → CS a n k tx D r q H G h p C → (fl D).length + C.length ≤ p → n - p < f → (∀ G' h' p', (∀ S, Tp 2 S → yr tx n f true S o C p = (none, p')) → CL a n k tx H G' h' p' → K 0 h') → (∀ G' h' p' C' f' m out, CS a n k tx D r q H G' h' p' C' → C'.length + p ≤ C.length + p' → p < p' → n - p' < f' → Mp m → C' = out ++ em m → ¬ (2 ≤ sgK (kd tx n p') ∧ sgK (kd tx n p') < 9) → (∀ S, Tp 2 S → yr tx n f true S o C p = yr tx n f' false (m ++ S) o out p') → K 1 h') → CI (d + 3 * j + 7) 20 [vR 2 (some 0), vR 1 (some k), vI (nI o)] h K
def ExpP (j : Nat) : Prop := ∀ (o p f : Nat) (G h : Hp) (C : List Nat) (K : Int32 → Hp → Prop), o + j = 9 → CS a n k tx D r q H G h p C → (fl D).length + C.length ≤ p → n - p < f → (∀ G' h' p', (∀ S, Tp 1 S → yr tx n f true S o C p = (none, p')) → CL a n k tx H G' h' p' → K 0 h') → (∀ G' h' p' C' f' m b out, CS a n k tx D r q H G' h' p' C' → C'.length + p ≤ C.length + p' → p < p' → n - p' < f' → Mp m → Ap b → C' = out ++ em m ++ em b → sgK (kd tx n p') = 9 → (∀ S, Tp 1 S → yr tx n f true S o C p = yr tx n f' false (m ++ (b ++ S)) o out p') → K 1 h') → CI (d + 3 * j + 8) 19 [vR 2 (some 0), vR 1 (some k), vI (nI o)] h K
end
section
variable {d a n k : Nat} {tx : Nat → Int32} {D : List Bod} {r q : Nat} {H : Hp}
theorem facP {j : Nat} (B : Bp H) (hB : Byt tx) (hn : n ≤ 240) (hE : 0 < j → ExpP d a n k tx D r q H (j - 1)) : FacP d a n k tx D r q H j := by
  intro o p f G h C K ho c hlen hf k0 k1
  have hp : p ≤ n := c.1.1.2.2
  obtain ⟨f0, ef⟩ : ∃ f0, f = f0 + 1 := ⟨f - 1, by omega⟩
  subst ef
  have e2 := c.1.b B
  have e3 := aT3 (kd tx n p)
  unfold rngS at e3
  unfold yr at k0 k1
  intro P hP
  refine v21 hP 0 (some k) (nI o) h (dr_of e2 (s82m (m := 4) c.1.1 (by decide) ?_))
  by_cases cn : nmN tx n 4 p < 10000
  · rw [if_pos cn]
    have ek := nm_kd hp cn
    have pg := np_gt hp (show ¬ kd tx n p = 200 by omega)
    have pl := np_le (tx := tx) hp
    refine ⟨fun z => absurd z (nI_m1 (by omega)), fun _ => dr_of rfl (c.add (by omega) (by omega) (fun G1 h1 c1 => dr_of (c1.1.b B) (c1.next (fun h2 c2 => ⟨_, rfl, k1 _ _ _ _ f0 c2 ?_ pg (by omega) (fun S => ?_)⟩))))⟩
    · rw [List.length_append]; show C.length + 1 + p ≤ _; omega
    · rw [yrd_t, if_neg (by omega), if_pos cn]
  · rw [if_neg cn]
    refine ⟨fun _ => dr_of e2 (s80n c.1.1 (by decide) (fun c3 => ?_) (fun c3 h3 R3 => ?_)), fun z => absurd rfl z⟩
    · have nw : ¬ (83 ≤ kd tx n p ∧ kd tx n p < 92) := by
        intro z
        rw [e3, if_pos z] at c3
        exact nI_m1 (by omega) c3
      have bad : ¬ kd tx n p = 340 → ∀ S, yrd (nmN tx n 4) (kd tx n) (np tx n) (f0 + 1) true S o C p = (none, p) := by
        intro z S
        rw [yrd_t, if_neg z, if_neg cn, if_neg nw]
      refine ⟨fun _ => ⟨fun c9 => ⟨_, rfl, k0 _ _ p (fun S => ?_) c.1⟩, fun c9 => dr_of e2 ?_⟩, fun z => absurd rfl z⟩
      · have o9 : o = 9 := by
          have := (nI_leI (a := 9) (by omega) (by omega)).mp c9
          omega
        by_cases z : kd tx n p = 340
        · rw [yrd_t, if_pos z, if_pos o9]
        · exact bad z S
      · have o9 : ¬ o = 9 := fun z => c9 (by rw [z]; decide)
        obtain ⟨j', ej⟩ : ∃ j', j = j' + 1 := ⟨j - 1, by omega⟩
        subst ej
        have E := hE (by omega)
        have ed : d + 3 * (j' + 1) + 5 = d + 3 * j' + 8 := by omega
        refine s83n (c := 40) c.1.1 hB (by decide) (fun z => ⟨fun y => absurd rfl y, fun _ => ⟨_, rfl, k0 _ _ p (bad z) c.1⟩⟩) (fun z h4 R4 => ⟨fun _ => ?_, fun y => absurd (by decide) y⟩)
        have pg := np_gt hp (show ¬ kd tx n p = 200 by omega)
        have pl := np_le (tx := tx) hp
        have ey : ∀ S, yrd (nmN tx n 4) (kd tx n) (np tx n) (f0 + 1) true S o C p = yrd (nmN tx n 4) (kd tx n) (np tx n) f0 true (9 :: S) (o + 1) C (np tx n p) := fun S => by rw [yrd_t, if_pos z, if_neg o9]
        have T9 : ∀ S, Tp 1 (9 :: S) := fun S s S' e => Or.inl (List.head_eq_of_cons_eq e).symm
        rw [nI_1]
        show CI (d + 3 * (j' + 1) + 5) 19 _ _ _
        rw [ed]
        refine E (o + 1) (np tx n p) f0 G h4 C _ (by omega) ⟨⟨R4, c.1.2⟩, c.2⟩ (by omega) (by omega) (fun G' h' p' e c' => ⟨fun _ => ⟨_, rfl, k0 _ _ p' (fun S => (ey S).trans (e _ (T9 S))) c'⟩, fun y => absurd rfl y⟩) (fun G' h' p' C' f' m b out c' hl hpp hf' hm hb eC hs e => ⟨fun y => absurd y (by decide), fun _ => dr_of (c'.1.b B) ?_⟩)
        unfold yr at e
        have hp' : p' ≤ n := c'.1.1.2.2
        have pl' := np_le (tx := tx) hp'
        obtain ⟨f1, ef1⟩ : ∃ f1, f' = f1 + 1 := ⟨f' - 1, by omega⟩
        subst ef1
        have ns : ¬ sgK (kd tx n p') < 9 := by omega
        have e1 : d + 3 * j' + 8 = (d + 3 * j' + 6) + 2 := by omega
        refine s83n (d := d + 3 * j' + 6) (c := 41) c'.1.1 hB (by decide) (fun y => ⟨fun _ => ⟨_, rfl, k0 _ _ p' (fun S => ?_) c'.1⟩, fun w => absurd rfl w⟩) (fun y h5 R5 => ⟨fun w => absurd w (by decide), fun _ => ⟨_, rfl, k1 _ _ _ C' f1 ⟨⟨R5, c'.1.2⟩, c'.2⟩ ?_ ?_ ?_ (fun S => ?_)⟩⟩)
        · rw [ey S, e _ (T9 S), yrd_f, if_neg ns, if_neg (by omega), if_neg (by omega)]
        · have := np_gt hp' (show ¬ kd tx n p' = 200 by omega); omega
        · have := np_gt hp' (show ¬ kd tx n p' = 200 by omega); omega
        · have := np_gt hp' (show ¬ kd tx n p' = 200 by omega); omega
        · rw [ey S, e _ (T9 S), yrd_f, if_neg ns, if_pos (by omega), joi_m hm, joi_a hb, joi_T (T9 S), ← eC]
          rfl
    · have hw : 83 ≤ kd tx n p ∧ kd tx n p < 92 := by
        rcases Nat.lt_or_ge (kd tx n p) 83 with y | y
        · rw [e3, if_neg (by omega)] at c3; exact absurd rfl c3
        · rcases Nat.lt_or_ge (kd tx n p) 92 with y2 | y2
          · exact ⟨y, y2⟩
          · rw [e3, if_neg (by omega)] at c3; exact absurd rfl c3
      rw [e3, if_pos hw]
      have pg := np_gt hp (show ¬ kd tx n p = 200 by omega)
      have pl := np_le (tx := tx) hp
      have ev : (10000 : Int32) + nI (kd tx n p - 83) = nI (10000 + (kd tx n p - 83)) := by
        show nI 10000 + nI (kd tx n p - 83) = _
        rw [nI_add]
      rw [ev]
      have c3 : CS a n k tx D r q H G h3 (np tx n p) C := ⟨⟨R3, c.1.2⟩, c.2⟩
      refine ⟨fun z => absurd z (nI_m1 (by omega)), fun _ => dr_of rfl (c3.add (by omega) (by omega) (fun G1 h1 c1 => ⟨_, rfl, k1 _ _ _ _ f0 c1 ?_ pg (by omega) (fun S => ?_)⟩))⟩
      · rw [List.length_append]; show C.length + 1 + p ≤ _; omega
      · rw [yrd_t, if_neg (by omega), if_neg cn, if_pos hw]
end
