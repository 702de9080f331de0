/-! how long a shield's text is, against the text that was read -/
/-- a word cannot go on at q -/
def Eb (tx : Nat → Int32) (n q : Nat) : Prop := q ≤ n ∧ (q = n ∨ inS 97 122 (tx q) = false)
theorem scan_end (f : Int32 → Bool) (tx : Nat → Int32) : ∀ k s, scan f tx k s = s + k ∨ f (tx (scan f tx k s)) = false
  | 0, s => Or.inl rfl
  | k + 1, s => by
    unfold scan
    cases e : f (tx s) with
    | false => exact Or.inr e
    | true =>
      rcases scan_end f tx k (s + 1) with z | z
      · exact Or.inl (by dsimp only; omega)
      · exact Or.inr z
theorem tk_w {tx : Nat → Int32} {n p : Nat} (hp : p ≤ n) (hw : kd tx n p < 92) : p ≤ sp tx n p ∧ sp tx n p + (wdC (kd tx n p)).length = np tx n p ∧ Eb tx n (np tx n p) ∧ inS 97 122 (tx (sp tx n p)) = true := by
  have h1 : (tkS tx n p).1 = 1 := by
    unfold kd kdQ at hw
    by_cases z : (tkS tx n p).1 = 1
    · exact z
    · rw [if_neg z] at hw
      split at hw
      · omega
      · split at hw
        · omega
        · omega
  have hl := tkS_word h1
  have hk : cdW (wdG tx (np tx n p - sp tx n p) (sp tx n p)) < 92 := by
    unfold kd kdQ at hw
    rw [if_pos h1] at hw
    exact hw
  have hv : wdG tx (np tx n p - sp tx n p) (sp tx n p) ∈ VOC := by
    refine Classical.not_not.mp (fun z => ?_)
    rw [cdW_out z] at hk
    omega
  have e : kd tx n p = cdW (wdG tx (np tx n p - sp tx n p) (sp tx n p)) := by
    show kdQ tx (tkS tx n p) = _
    unfold kdQ
    rw [if_pos h1]
    rfl
  have hlen : (wdC (kd tx n p)).length = np tx n p - sp tx n p := by
    unfold wdC
    rw [e, (cdW_in hv).2, wdG_len]
  have key : p ≤ sp tx n p ∧ sp tx n p < np tx n p ∧ Eb tx n (np tx n p) := by
    unfold sp np
    unfold tkS at h1 ⊢
    have hs := scan_le isBl tx (n - p) p
    generalize scan isBl tx (n - p) p = s at h1 hs ⊢
    by_cases y : s < scan (inS 97 122) tx (n - s) s
    · rw [if_pos y]
      have h2 := scan_le (inS 97 122) tx (n - s) s
      refine ⟨hs.1, y, by dsimp only; omega, ?_⟩
      rcases scan_end (inS 97 122) tx (n - s) s with z | z
      · exact Or.inl (by dsimp only; omega)
      · exact Or.inr z
    · rw [if_neg y] at h1
      split at h1
      · exact absurd h1 (by decide : ¬ (2 : Nat) = 1)
      · split at h1
        · exact absurd h1 (by decide : ¬ (3 : Nat) = 1)
        · exact absurd h1 (by decide : ¬ (0 : Nat) = 1)
  exact ⟨key.1, by omega, key.2.2, hl 0 (by have := key.2.1; unfold sp np at this; omega)⟩
theorem tk_w1 {tx : Nat → Int32} {n p : Nat} (E : Eb tx n p) (hw : kd tx n p < 92) : p + 1 + (wdC (kd tx n p)).length ≤ np tx n p ∧ Eb tx n (np tx n p) := by
  obtain ⟨h1, h2, h3, h4⟩ := tk_w E.1 hw
  refine ⟨?_, h3⟩
  by_cases z : sp tx n p = p
  · rw [z] at h4
    rcases E.2 with y | y
    · have := h3.1
      have h5 : (wdC (kd tx n p)).length = 0 := by omega
      exact absurd (List.eq_nil_of_length_eq_zero h5) (wdC_ne hw)
    · rw [y] at h4; cases h4
  · omega
theorem tk_c {tx : Nat → Int32} {n p : Nat} (hp : p ≤ n) (hc : kd tx n p = 344) : p + 1 ≤ np tx n p ∧ np tx n p ≤ n := by
  have hle := np_le (tx := tx) hp
  refine ⟨?_, hle⟩
  have h1 : ¬ (tkS tx n p).1 = 1 ∧ ¬ (tkS tx n p).1 = 0 ∧ ¬ (tkS tx n p).1 = 2 := by
    unfold kd kdQ at hc
    refine ⟨fun z => ?_, fun z => ?_, fun z => ?_⟩
    · rw [if_pos z] at hc
      have := cdW_le (wdG tx ((tkS tx n p).2.2 - (tkS tx n p).2.1) (tkS tx n p).2.1)
      omega
    · rw [if_neg (by omega), if_pos z] at hc
      omega
    · rw [if_neg (by omega), if_neg (by omega), if_pos z] at hc
      omega
  unfold np
  unfold tkS at h1 ⊢
  have hs := scan_le isBl tx (n - p) p
  generalize scan isBl tx (n - p) p = s at h1 hs ⊢
  split at h1
  · exact absurd rfl h1.1
  · rename_i y1
    split at h1
    · exact absurd rfl h1.2.2
    · rename_i y2
      split at h1
      · rename_i y3
        rw [if_neg y1, if_neg y2, if_pos y3]
        dsimp only
        omega
      · exact absurd rfl h1.2.1
/-! costs of codes -/
def cst (c : Nat) : Nat := if c = 344 then 1 else 1 + (wdC c).length
def csL : List Nat → Nat
  | [] => 0
  | c :: r => cst c + csL r
theorem csL_app : ∀ (a b : List Nat), csL (a ++ b) = csL a + csL b
  | [], b => (Nat.zero_add _).symm
  | c :: r, b => by
    show cst c + csL (r ++ b) = cst c + csL r + csL b
    rw [csL_app r b]; omega
theorem csL_1 (c : Nat) (r : List Nat) : csL (c :: r) = cst c + csL r := rfl
theorem csL_0 : csL [] = 0 := rfl
theorem cst_w {c : Nat} (h : ¬ c = 344) : cst c = 1 + (wdC c).length := if_neg h
theorem putC_len {acc : List Int32} (c : Nat) (hn : ¬ acc = []) : (putC acc c).length = acc.length + cst c := by
  unfold putC cst
  by_cases z : c = 344
  · rw [if_pos z, if_pos z, List.length_append]; rfl
  · rw [if_neg z, if_neg z, if_neg hn, List.length_append, List.length_append]
    have : [(32 : Int32)].length = 1 := rfl
    omega
theorem renC_len : ∀ (cs : List Nat) {acc : List Int32}, ¬ acc = [] → (renC acc cs).length = acc.length + csL cs
  | [], acc, _ => rfl
  | c :: r, acc, hn => by
    rw [renC_cons, renC_len r (putC_ne hn), putC_len c hn, csL_1]
    omega
/-! the readers -/
theorem fld2_c {tx : Nat → Int32} {n pa q q' pa' a b : Nat} (E : Eb tx n q) (e : fld2 (kd tx n) (np tx n) pa q = (some (pa', a, b), q')) : pa' = pa ∧ a < 9 ∧ b < 9 ∧ q + csL [a, 78, b] ≤ q' ∧ Eb tx n q' := by
  unfold fld2 at e
  by_cases c1 : kd tx n q < 9
  · rw [if_pos c1] at e
    by_cases c2 : kd tx n (np tx n q) = 78
    · rw [if_pos c2] at e
      by_cases c3 : kd tx n (np tx n (np tx n q)) < 9 ∧ kd tx n (np tx n (np tx n q)) ≠ kd tx n q
      · rw [if_pos c3] at e
        obtain ⟨e0, e2⟩ := Prod.mk.inj e
        obtain ⟨e3, e6⟩ := Prod.mk.inj (Option.some.inj e0)
        obtain ⟨e4, e5⟩ := Prod.mk.inj e6
        obtain ⟨t1, E1⟩ := tk_w1 E (by omega)
        obtain ⟨t2, E2⟩ := tk_w1 E1 (by omega)
        obtain ⟨t3, E3⟩ := tk_w1 E2 (by omega)
        rw [e2] at E3 t3
        rw [e5] at t3
        rw [e4] at t1
        rw [c2] at t2
        refine ⟨e3.symm, by omega, by omega, ?_, E3⟩
        rw [csL_1, csL_1, csL_1, csL_0, cst_w (by omega), cst_w (by omega), cst_w (by omega)]
        omega
      · rw [if_neg c3] at e; cases congrArg Prod.fst e
    · rw [if_neg c2] at e; cases congrArg Prod.fst e
  · rw [if_neg c1] at e; cases congrArg Prod.fst e
theorem lnC_S {c : Nat} (h : ¬ lnS c = 0) : lnC (lnS c) = c ∧ lnS c ≤ 5 ∧ c < 92 := by
  unfold lnS at h ⊢
  repeat' split at h
  all_goals first
    | (rename_i z; subst z; decide)
    | skip
  all_goals first
    | (exact absurd rfl h)
    | skip
theorem fldS_c {tx : Nat → Int32} {n q pa a b : Nat} (e : fldS (kd tx n) (np tx n) 0 = (some (pa, a, b), q)) : pa ≤ 10 ∧ a < 9 ∧ ((pa = 0 ∧ b = 99) ∨ (0 < pa ∧ b < 9)) ∧ (∀ b', b' = b ∨ pa = 0 → (renC [] (fT pa a b')).length ≤ q ∧ ¬ renC [] (fT pa a b') = []) ∧ Eb tx n q := by
  unfold fldS at e
  by_cases c1 : kd tx n 0 < 9
  · rw [if_pos c1] at e
    obtain ⟨e0, e2⟩ := Prod.mk.inj e
    obtain ⟨e3, e6⟩ := Prod.mk.inj (Option.some.inj e0)
    obtain ⟨e4, e5⟩ := Prod.mk.inj e6
    subst e3 e5
    obtain ⟨t1, t2, E1, t4⟩ := tk_w (tx := tx) (n := n) (p := 0) (Nat.zero_le _) (by omega)
    rw [e2] at E1 t2
    rw [e4] at t2 c1
    refine ⟨by decide, c1, Or.inl ⟨rfl, rfl⟩, fun b' _ => ?_, E1⟩
    show (putC [] a).length ≤ q ∧ ¬ putC [] a = []
    rw [putC_nil a (by omega)]
    exact ⟨by omega, wdC_ne (by omega)⟩
  · rw [if_neg c1] at e
    by_cases c2 : kd tx n 0 = 70
    · rw [if_pos c2] at e
      by_cases c3 : lnS (kd tx n (np tx n 0)) = 0
      · rw [if_pos c3] at e; cases congrArg Prod.fst e
      · rw [if_neg c3] at e
        obtain ⟨g1, g2, g3⟩ := lnC_S c3
        obtain ⟨t1, t2, E1, t4⟩ := tk_w (tx := tx) (n := n) (p := 0) (Nat.zero_le _) (by omega)
        obtain ⟨t5, E2⟩ := tk_w1 E1 g3
        obtain ⟨f1, f2, f3, f4, f5⟩ := fld2_c E2 e
        rw [c2] at t2
        refine ⟨by omega, f2, Or.inr ⟨by omega, f3⟩, fun b' hb => ?_, f5⟩
        have hb : b' = b := by omega
        subst hb
        unfold fT
        rw [if_neg (by omega), if_pos (by omega), if_neg (by omega), f1, g1]
        show (renC (putC [] 70) (kd tx n (np tx n 0) :: [a, 78, b'])).length ≤ q ∧ ¬ renC (putC [] 70) _ = []
        rw [putC_nil 70 (by decide)]
        have n7 := wdC_ne (c := 70) (by decide)
        refine ⟨?_, renC_ne n7⟩
        rw [renC_len _ n7, csL_1, cst_w (by omega)]
        omega
    · rw [if_neg c2] at e
      by_cases c3 : 71 ≤ kd tx n 0 ∧ kd tx n 0 ≤ 75
      · rw [if_pos c3] at e
        obtain ⟨t1, t2, E1, t4⟩ := tk_w (tx := tx) (n := n) (p := 0) (Nat.zero_le _) (by omega)
        obtain ⟨f1, f2, f3, f4, f5⟩ := fld2_c E1 e
        refine ⟨by omega, f2, Or.inr ⟨by omega, f3⟩, fun b' hb => ?_, f5⟩
        have hb : b' = b := by omega
        subst hb
        unfold fT
        rw [if_neg (by omega), if_neg (by omega), if_neg (by omega), f1, show 65 + (kd tx n 0 - 65) = kd tx n 0 by omega]
        show (renC (putC [] (kd tx n 0)) [a, 78, b']).length ≤ q ∧ ¬ renC (putC [] (kd tx n 0)) _ = []
        rw [putC_nil _ (by omega)]
        have n7 := wdC_ne (c := kd tx n 0) (by omega)
        refine ⟨?_, renC_ne n7⟩
        rw [renC_len _ n7]
        omega
      · rw [if_neg c3] at e; cases congrArg Prod.fst e
