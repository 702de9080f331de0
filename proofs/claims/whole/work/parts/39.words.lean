/-! words of a text, and their numbers among all words of the two readers -/
def wdG (tx : Nat → Int32) : Nat → Nat → List Int32
  | 0, _ => []
  | k + 1, s => tx s :: wdG tx k (s + 1)
theorem wdG_len (tx : Nat → Int32) : ∀ k s, (wdG tx k s).length = k
  | 0, _ => rfl
  | k + 1, s => congrArg (· + 1) (wdG_len tx k (s + 1))
theorem wdG_add (tx : Nat → Int32) : ∀ i k s, wdG tx (i + k) s = wdG tx i s ++ wdG tx k (s + i)
  | 0, k, s => by rw [Nat.zero_add]; rfl
  | i + 1, k, s => by
    rw [show i + 1 + k = (i + k) + 1 by omega]
    show tx s :: wdG tx (i + k) (s + 1) = tx s :: (wdG tx i (s + 1) ++ wdG tx k (s + (i + 1)))
    rw [wdG_add tx i k (s + 1), show s + 1 + i = s + (i + 1) by omega]
theorem wdG_snoc (tx : Nat → Int32) (i s : Nat) : wdG tx (i + 1) s = wdG tx i s ++ [tx (s + i)] := wdG_add tx i 1 s
/-- the words of a list, each with a blank behind it -/
def splW : List Int32 → List Int32 → List (List Int32)
  | _, [] => []
  | acc, c :: r => if c = 32 then acc :: splW [] r else splW (acc ++ [c]) r
def fiW (w : List Int32) : List (List Int32) → Nat → Option Nat
  | [], _ => none
  | x :: r, n => if x = w then some n else fiW w r (n + 1)
theorem amG_fi (tx : Nat → Int32) (s len : Nat) : ∀ (L acc : List Int32) (num : Nat) (m : Option Nat), (∃ j, m = some j ∧ acc = wdG tx j s ∧ j ≤ len) ∨ (m = none ∧ ∀ t, acc ++ t ≠ wdG tx len s) → amG tx s len L num m = fiW (wdG tx len s) (splW acc L) num
  | [], acc, num, m, _ => rfl
  | c :: r, acc, num, m, hm => by
    unfold amG splW
    by_cases hc : c = 32
    · rw [if_pos hc, if_pos hc]
      unfold fiW
      have e : (m = some len) ↔ (acc = wdG tx len s) := by
        rcases hm with ⟨j, h1, h2, h3⟩ | ⟨h1, h2⟩
        · subst h1
          refine ⟨fun z => ?_, fun z => ?_⟩
          · rw [h2, Option.some.inj z]
          · have := congrArg List.length z
            rw [h2, wdG_len, wdG_len] at this
            rw [this]
        · refine ⟨fun z => ?_, fun z => absurd ?_ (h2 [])⟩
          · rw [h1] at z; cases z
          · rw [List.append_nil]; exact z
      by_cases z : m = some len
      · rw [if_pos z, if_pos (e.mp z)]
      · rw [if_neg z, if_neg (fun y => z (e.mpr y))]
        exact amG_fi tx s len r [] (num + 1) (some 0) (Or.inl ⟨0, rfl, rfl, Nat.zero_le _⟩)
    · rw [if_neg hc, if_neg hc]
      refine amG_fi tx s len r (acc ++ [c]) num _ ?_
      rcases hm with ⟨j, h1, h2, h3⟩ | ⟨h1, h2⟩
      · subst h1
        show (∃ i, (if j < len ∧ tx (s + j) = c then some (j + 1) else none) = some i ∧ _) ∨ _
        by_cases z : j < len ∧ tx (s + j) = c
        · refine Or.inl ⟨j + 1, if_pos z, ?_, by omega⟩
          rw [wdG_snoc, h2, z.2]
        · refine Or.inr ⟨if_neg z, fun t y => ?_⟩
          by_cases zl : j < len
          · have e1 : wdG tx len s = wdG tx j s ++ wdG tx (len - j) (s + j) := by
              rw [← wdG_add, show j + (len - j) = len by omega]
            rw [e1, h2, List.append_assoc] at y
            have y2 := List.append_cancel_left y
            rw [show len - j = (len - j - 1) + 1 by omega] at y2
            have y3 : [c] ++ t = tx (s + j) :: wdG tx (len - j - 1) (s + j + 1) := y2
            have y4 := congrArg List.head? y3
            have y5 : some c = some (tx (s + j)) := y4
            exact z ⟨zl, (Option.some.inj y5).symm⟩
          · have := congrArg List.length y
            rw [h2, List.length_append, List.length_append, wdG_len, wdG_len] at this
            have e1 : [c].length = 1 := rfl
            omega
      · subst h1
        refine Or.inr ⟨rfl, fun t y => h2 ([c] ++ t) ?_⟩
        rw [← List.append_assoc]; exact y
theorem fiW_none {w : List Int32} : ∀ {l : List (List Int32)} {n : Nat}, w ∉ l → fiW w l n = none
  | [], _, _ => rfl
  | x :: r, n, h => by
    unfold fiW
    rw [if_neg (fun e : x = w => h (by rw [e]; exact List.mem_cons_self)), fiW_none (fun z => h (List.mem_cons_of_mem _ z))]
theorem fiW_get {w : List Int32} : ∀ {l : List (List Int32)} {n : Nat}, w ∈ l → ∃ i, fiW w l n = some (n + i) ∧ i < l.length ∧ l.getD i [] = w
  | [], _, h => absurd h List.not_mem_nil
  | x :: r, n, h => by
    unfold fiW
    by_cases z : x = w
    · exact ⟨0, by rw [if_pos z]; rfl, Nat.succ_pos _, z⟩
    · have hr : w ∈ r := by
        rcases List.mem_cons.mp h with y | y
        · exact absurd y.symm z
        · exact y
      obtain ⟨i, h1, h2, h3⟩ := fiW_get (n := n + 1) hr
      refine ⟨i + 1, ?_, Nat.succ_lt_succ h2, h3⟩
      rw [if_neg z, h1, show n + 1 + i = n + (i + 1) by omega]
def VOC : List (List Int32) := [[111, 114], [97, 114, 103, 101, 110, 116], [103, 117, 108, 101, 115], [97, 122, 117, 114, 101], [115, 97, 98, 108, 101], [118, 101, 114, 116], [112, 117, 114, 112, 117, 114, 101], [101, 114, 109, 105, 110, 101], [118, 97, 105, 114], [112, 97, 114, 116], [111, 114, 100, 105, 110, 97, 114, 121], [99, 104, 97, 114, 103, 101], [98, 101, 97, 115, 116], [98, 105, 114, 100], [112, 108, 97, 110, 116], [116, 104, 105, 110, 103], [99, 104, 105, 101, 102], [112, 97, 108, 101], [102, 101, 115, 115], [98, 101, 110, 100], [99, 104, 101, 118, 114, 111, 110], [99, 114, 111, 115, 115], [115, 97, 108, 116, 105, 114, 101], [112, 105, 108, 101], [98, 111, 114, 100, 117, 114, 101], [108, 105, 111, 110], [98, 111, 97, 114], [115, 116, 97, 103], [101, 97, 103, 108, 101], [109, 97, 114, 116, 108, 101, 116], [114, 111, 115, 101], [108, 105, 108, 121], [116, 114, 101, 102, 111, 105, 108], [109, 117, 108, 108, 101, 116], [99, 114, 101, 115, 99, 101, 110, 116], [97, 110, 110, 117, 108, 101, 116], [114, 111, 117, 110, 100, 101, 108], [98, 105, 108, 108, 101, 116], [116, 111, 119, 101, 114], [108, 97, 98, 101, 108], [108, 105, 111, 110, 115], [98, 111, 97, 114, 115], [115, 116, 97, 103, 115], [101, 97, 103, 108, 101, 115], [109, 97, 114, 116, 108, 101, 116, 115], [114, 111, 115, 101, 115], [108, 105, 108, 105, 101, 115], [116, 114, 101, 102, 111, 105, 108, 115], [109, 117, 108, 108, 101, 116, 115], [99, 114, 101, 115, 99, 101, 110, 116, 115], [97, 110, 110, 117, 108, 101, 116, 115], [114, 111, 117, 110, 100, 101, 108, 115], [98, 105, 108, 108, 101, 116, 115], [116, 111, 119, 101, 114, 115], [97], [116, 119, 111], [116, 104, 114, 101, 101], [102, 111, 117, 114], [102, 105, 118, 101], [115, 105, 120], [114, 97, 109, 112, 97, 110, 116], [112, 97, 115, 115, 97, 110, 116], [115, 101, 106, 97, 110, 116], [100, 105, 115, 112, 108, 97, 121, 101, 100], [99, 108, 111, 115, 101], [97, 114, 109, 101, 100], [97, 116, 116, 105, 114, 101, 100], [99, 114, 111, 119, 110, 101, 100], [115, 101, 101, 100, 101, 100], [109, 97, 115, 111, 110, 101, 100], [112, 101, 114], [113, 117, 97, 114, 116, 101, 114, 108, 121], [112, 97, 108, 121], [98, 97, 114, 114, 121], [98, 101, 110, 100, 121], [99, 104, 101, 113, 117, 121], [119, 105, 116, 104, 105, 110], [102, 111, 114], [97, 110, 100], [99, 104, 97, 114, 103, 101, 100], [119, 105, 116, 104], [100, 105, 102, 102, 101, 114, 101, 110, 99, 101], [114, 117, 108, 101], [115, 111, 114, 116], [98, 101, 108, 111, 119], [116, 105, 110, 99, 116, 117, 114, 101], [110, 117, 109, 98, 101, 114], [97, 116, 116, 105, 116, 117, 100, 101], [100, 117, 116, 105, 101, 115], [107, 105, 110, 100], [112, 108, 97, 99, 101], [110, 101, 120, 116]]
/-- the number of a word among all words, 92 for another word -/
def cdW (w : List Int32) : Nat := (fiW w VOC 0).getD 92
theorem cdW_in {w : List Int32} (h : w ∈ VOC) : cdW w < 92 ∧ VOC.getD (cdW w) [] = w := by
  obtain ⟨i, h1, h2, h3⟩ := fiW_get (n := 0) h
  have e : cdW w = i := by
    unfold cdW
    rw [h1, Nat.zero_add]
    rfl
  rw [e]
  exact ⟨h2, h3⟩
theorem cdW_out {w : List Int32} (h : w ∉ VOC) : cdW w = 92 := by
  unfold cdW
  rw [fiW_none h]
  rfl
/-- the number of the word with code c in list b -/
def amT (b c : Nat) : Int32 := mR (fiW (VOC.getD c []) (splW [] (romB b)) 0)
theorem voc_all : (List.range 32).all (fun b => (splW [] (romB b)).all (fun w => decide (w ∈ VOC) && decide (w ≠ []))) = true := by decide +kernel
theorem voc_b {b : Nat} (hb : b < 32) {w : List Int32} (h : w ∈ splW [] (romB b)) : w ∈ VOC ∧ w ≠ [] := by
  have := List.all_eq_true.mp (List.all_eq_true.mp voc_all b (List.mem_range.mpr hb)) w h
  simp only [Bool.and_eq_true, decide_eq_true_eq] at this
  exact this
/-- the code of a token: a word's number, 200 the end, 201 digits, 300 and a byte -/
def kdQ (tx : Nat → Int32) (q : Nat × Nat × Nat) : Nat := if q.1 = 1 then cdW (wdG tx (q.2.2 - q.2.1) q.2.1) else if q.1 = 0 then 200 else if q.1 = 2 then 201 else 300 + ix (tx q.2.1)
theorem voc_len : VOC.length = 92 := by decide +kernel
theorem amT_big {b c : Nat} (hb : b < 32) (hc : 92 ≤ c) : amT b c = -1 := by
  unfold amT
  have : VOC.getD c [] = [] := by
    rw [List.getD_eq_getElem?_getD, List.getElem?_eq_none (by rw [voc_len]; exact hc)]
    rfl
  rw [this, fiW_none (fun z => (voc_b hb z).2 rfl)]
  rfl
theorem amS_T {tx : Nat → Int32} {q : Nat × Nat × Nat} {b : Nat} (hb : b < 32) : amS tx q b = amT b (kdQ tx q) := by
  unfold amS kdQ
  by_cases h1 : q.1 = 1
  · rw [if_pos h1, if_pos h1, amG_fi tx _ _ _ [] 0 (some 0) (Or.inl ⟨0, rfl, rfl, Nat.zero_le _⟩)]
    by_cases hw : wdG tx (q.2.2 - q.2.1) q.2.1 ∈ VOC
    · unfold amT
      rw [(cdW_in hw).2]
    · rw [cdW_out hw, amT_big hb (Nat.le_refl _), fiW_none (fun z => hw (voc_b hb z).1)]
      rfl
  · rw [if_neg h1, if_neg h1]
    split
    · rw [amT_big hb (by decide)]
    · split
      · rw [amT_big hb (by decide)]
      · rw [amT_big hb (by omega)]
