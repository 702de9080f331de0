/-! the same steps over a method's own small tables: what the VC theorems are read off -/
abbrev MF : Type := Nat × Nat × Nat × Nat × Nat × Nat
def gfk (kd : Nat) (h : Hp) (t a k : Nat) : AV := match kd with
  | 0 => .inl (jI h t a k)
  | 1 => .inr (.inl (jL h t a k))
  | 2 => .inl (jI h t a k)
  | 3 => .inr (.inr (41, some a))
  | 4 => .inl 0
  | n + 5 => .inr (.inr (n, jR h t a k))
def pfk (kd : Nat) (h : Hp) (t a k : Nat) (v : AV) (K : Hp → Prop) : Prop := match kd, v with
  | 0, .inl x => K (wI h t a k x)
  | 1, .inr (.inl x) => K (wL h t a k x)
  | 2, .inl x => (x = 0 ∨ x = 1) ∧ K (wI h t a k x)
  | n + 5, .inr (.inr (t', o)) => match Nat.beq n t', o with
    | true, o => K (wR h t a k o)
    | false, none => K (wR h t a k none)
    | false, some _ => False
  | _, _ => False
def lkc (code : List (List (Nat × Instr))) (pc : Nat) : Option Instr := lk (code.getD (pc / 32) []) pc
def FHx (d y : Nat) (F : List (Nat × Nat × Nat × Nat)) (M : List (Nat × MF)) (Q : Option AV → Hp → Prop) (P : Nat → List AV → List AV → Hp → Prop) (pc : Nat) (ls st : List AV) (h : Hp) (i : Instr) : Prop := match i with
  | .getfield idx => match lk F idx, st with
    | some (ci, k, kd), .inr (.inr (t, o)) :: r => rg t ci (dr o fun a => P (pc + 3) ls (gfk kd h ci a k :: r) h)
    | _, _ => False
  | .putfield idx => match lk F idx, st with
    | some (ci, k, kd), v :: .inr (.inr (t, o)) :: r => rg t ci (dr o fun a => pfk kd h ci a k v fun h' => P (pc + 3) ls r h')
    | _, _ => False
  | .invokestatic idx => match lk M idx with
    | some (y', ki, pa, lo, _, rc) => if' (Nat.beq ki 0 && Nat.ble pa st.length && Nat.ble (wt (st.drop pa)) 8 && Nat.ble (wt (st.take pa)) lo) (Call d y' (st.take pa).reverse h (tyK rc fun v h' => P (pc + 3) ls (cons? v (st.drop pa)) h'))
    | none => FH (Ct d) y Q P pc ls st h (.invokestatic idx)
  | .invokevirtual idx => match lk M idx with
    | some (y', ki, pa, lo, ow, rc) => match st.drop pa with
      | .inr (.inr (t, o)) :: r => if' (Nat.beq ki 1 && Nat.ble (wt r) 8 && Nat.ble (1 + wt (st.take pa)) lo) (rg t ow (dr o fun a => Call d y' (.inr (.inr (t, some a)) :: (st.take pa).reverse) h (tyK rc fun v h' => P (pc + 3) ls (cons? v r) h')))
      | _ => False
    | none => False
  | .invokespecial idx => match lk M idx with
    | some (y', ki, pa, lo, ow, rc) => match st.drop pa with
      | .inr (.inr (t, o)) :: r => if' (Nat.beq ki 2 && Nat.ble (wt r) 8 && Nat.ble (1 + wt (st.take pa)) lo) (rg t ow (dr o fun a => Call d y' (.inr (.inr (t, some a)) :: (st.take pa).reverse) h (tyK rc fun v h' => P (pc + 3) ls (cons? v r) h')))
      | _ => False
    | none => FH (Ct d) y Q P pc ls st h (.invokespecial idx)
  | i => FH (Ct d) y Q P pc ls st h i
def isK : Instr → Option (Nat × Nat)
  | .ldc k => some (k, 2)
  | .ldc2_w k => some (k, 3)
  | .getstatic k => some (k, 3)
  | _ => none
def FIx (d y : Nat) (F : List (Nat × Nat × Nat × Nat)) (M : List (Nat × MF)) (Kc : List (Nat × AV)) (Q : Option AV → Hp → Prop) (P : Nat → List AV → List AV → Hp → Prop) (pc : Nat) (ls st : List AV) (h : Hp) (i : Instr) : Prop := match isK i with
  | some (k, n) => match lk Kc k with
    | some v => P (pc + n) ls (v :: st) h
    | none => False
  | none => match step1 99 i pc ls st with
    | some (pc', ls', st') => P pc' ls' st' h
    | none => match br1 i pc st with
      | some (c, t, r) => (c → P t ls r h) ∧ (¬ c → P (pc + 3) ls r h)
      | none => FHx d y F M Q P pc ls st h i
def FSx (d y : Nat) (code : List (List (Nat × Instr))) (F : List (Nat × Nat × Nat × Nat)) (M : List (Nat × MF)) (Kc : List (Nat × AV)) (Q : Option AV → Hp → Prop) (P : Nat → List AV → List AV → Hp → Prop) (pc : Nat) (ls st : List AV) (h : Hp) : Prop := match lkc code pc with
  | some i => FIx d y F M Kc Q P pc ls st h i
  | none => False
def okKd (ci k kd : Nat) : Bool := match Nat.beq ci 40 with
  | true => match k with
    | 0 => Nat.beq kd 3
    | _ => Nat.beq kd 4
  | false => Nat.beq kd (fk ci k) && !(Nat.beq kd 3) && !(Nat.beq kd 4)
def okFx (y : Nat) (q : Nat × Nat × Nat × Nat) : Bool := match fld (mOw y) q.1 with
  | some (ci, k, _) => Nat.beq ci q.2.1 && Nat.beq k q.2.2.1 && okKd ci k q.2.2.2
  | none => false
def okMx (y : Nat) (q : Nat × MF) : Bool := match mth (mOw y) q.1 with
  | some (y', ns) => Nat.beq y' q.2.1 && Nat.blt y' 239 && Nat.beq (mKi y') q.2.2.1 && Nat.beq (mPa y') q.2.2.2.1 && Nat.beq (mLo y') q.2.2.2.2.1 && Nat.beq (mOw y') q.2.2.2.2.2.1 && Nat.beq (mRc y') q.2.2.2.2.2.2 && (!(Nat.beq (mKi y') 1) || Nat.beq ns 0)
  | none => false
def kv (own k : Nat) (i : Instr) : Option AV := match i with
  | .ldc _ => ldcv own k
  | .ldc2_w _ => ldjv own k
  | _ => gstv own k
def okCx (y : Nat) (Kc : List (Nat × AV)) (q : Nat × Instr) : Bool := (match lk (mCo y) q.1 with
  | some i => decide (i = q.2)
  | none => false) && (match isK q.2 with
  | some (k, _) => match lk Kc k, kv (mOw y) k q.2 with
    | some v, some w => decide (v = w)
    | _, _ => false
  | none => true)
def okX (y : Nat) (code : List (List (Nat × Instr))) (F : List (Nat × Nat × Nat × Nat)) (M : List (Nat × MF)) (Kc : List (Nat × AV)) : Bool := code.all (fun ch => ch.all (okCx y Kc)) && F.all (okFx y) && M.all (okMx y)
theorem gfk_eq {ci k kd : Nat} (hk : okKd ci k kd = true) (h : Hp) (a : Nat) : gfk kd h ci a k = gfa h ci a k := by
  unfold okKd at hk
  unfold gfa
  split at hk
  · rename_i e
    rw [e]
    split at hk
    · rw [Nat.eq_of_beq_eq_true hk]; rfl
    · rename_i hne
      rw [Nat.eq_of_beq_eq_true hk]
      show gfk 4 h ci a k = gfs a k
      unfold gfs
      split
      · exact absurd rfl hne
      · rfl
  · rename_i e
    rw [e]
    simp only [Bool.and_eq_true, Bool.not_eq_true', beqT] at hk
    obtain ⟨⟨rfl, h3⟩, h4⟩ := hk
    show gfk (fk ci k) h ci a k = gf h ci a k
    unfold gfk gf
    split
    · rename_i e3; rw [e3]
    · rename_i e3; rw [e3]
    · rename_i e3; rw [e3]
    · rename_i e3; rw [e3] at h3; cases h3
    · rename_i e3; rw [e3] at h4; cases h4
    · rename_i e3; rw [e3]
theorem pfk_eq {ci k kd : Nat} (hk : okKd ci k kd = true) {h : Hp} {a : Nat} {v : AV} {K : Hp → Prop} (hp : pfk kd h ci a k v K) : pf h ci a k v K := by
  unfold okKd at hk
  split at hk
  · split at hk
    · rw [Nat.eq_of_beq_eq_true hk] at hp; exact hp.elim
    · rw [Nat.eq_of_beq_eq_true hk] at hp; exact hp.elim
  · simp only [Bool.and_eq_true, beqT] at hk
    obtain ⟨⟨rfl, -⟩, -⟩ := hk
    exact hp
set_option maxHeartbeats 4000000 in
theorem FHx_FH {d y : Nat} {F : List (Nat × Nat × Nat × Nat)} {M : List (Nat × MF)} {Q : Option AV → Hp → Prop} {P : Nat → List AV → List AV → Hp → Prop} {pc : Nat} {ls st : List AV} {h : Hp} {i : Instr} (hF : F.all (okFx y) = true) (hM : M.all (okMx y) = true) (hh : FHx d y F M Q P pc ls st h i) : FH (Ct d) y Q P pc ls st h i := by
  have fF : ∀ {idx : Nat} {q : Nat × Nat × Nat}, lk F idx = some q → ∃ ns, fld (mOw y) idx = some (q.1, q.2.1, ns) ∧ okKd q.1 q.2.1 q.2.2 = true := by
    intro idx q hq
    have h1 := List.all_eq_true.mp hF _ (lk_mem hq)
    unfold okFx at h1
    split at h1
    · rename_i ci k ns hf
      simp only [Bool.and_eq_true, beqT] at h1
      obtain ⟨⟨rfl, rfl⟩, h3⟩ := h1
      exact ⟨ns, hf, h3⟩
    · cases h1
  have fM : ∀ {idx : Nat} {q : MF}, lk M idx = some q → ∃ ns, mth (mOw y) idx = some (q.1, ns) ∧ q.1 < 239 ∧ mKi q.1 = q.2.1 ∧ mPa q.1 = q.2.2.1 ∧ mLo q.1 = q.2.2.2.1 ∧ mOw q.1 = q.2.2.2.2.1 ∧ mRc q.1 = q.2.2.2.2.2 ∧ (mKi q.1 = 1 → ns = 0) := by
    intro idx q hq
    have h1 := List.all_eq_true.mp hM _ (lk_mem hq)
    unfold okMx at h1
    split at h1
    · rename_i y' ns hf
      simp only [Bool.and_eq_true, Bool.or_eq_true, Bool.not_eq_true', beqT, Nat.blt_eq] at h1
      obtain ⟨⟨⟨⟨⟨⟨⟨rfl, h2⟩, h3⟩, h4⟩, h5⟩, h6⟩, h7⟩, h8⟩ := h1
      refine ⟨ns, hf, h2, h3, h4, h5, h6, h7, fun z => ?_⟩
      rcases h8 with h8 | h8
      · rw [z] at h8; exact absurd h8 (by decide)
      · exact h8
    · cases h1
  unfold FHx at hh
  split at hh
  · split at hh
    · rename_i hq
      obtain ⟨ns, e1, e2⟩ := fF hq
      obtain ⟨rfl, h2⟩ := rg_ex hh
      obtain ⟨a, rfl, h3⟩ := dr_ex h2
      rw [gfk_eq e2] at h3
      dsimp only [FH]
      rw [e1]
      simp only [rg, Nat.beq_refl, dr]
      exact h3
    · exact hh.elim
  · split at hh
    · rename_i hq
      obtain ⟨ns, e1, e2⟩ := fF hq
      obtain ⟨rfl, h2⟩ := rg_ex hh
      obtain ⟨a, rfl, h3⟩ := dr_ex h2
      have h4 := pfk_eq e2 h3
      dsimp only [FH]
      rw [e1]
      simp only [rg, Nat.beq_refl, dr]
      exact h4
    · exact hh.elim
  · split at hh
    · rename_i y' ki pa lo ow rc hq
      obtain ⟨ns, e1, e2, e3, e4, e5, e6, e7, e8⟩ := fM hq
      dsimp only at e1 e2 e3 e4 e5 e6 e7 e8
      obtain ⟨hb, h1⟩ := if_ex hh
      subst e3 e4 e5 e6 e7
      dsimp only [FH]
      rw [e1]
      split
      · rename_i e; injection e with e; injection e with e; omega
      · rename_i e; injection e with e; injection e with e; omega
      · rename_i e; injection e with e; injection e with e; omega
      · rename_i e; injection e with e; injection e with e; omega
      · rename_i e
        injection e with e
        injection e with ea eb
        subst ea
        have hb2 : Nat.blt y' 239 = true := Nat.blt_eq.mpr e2
        simp only [Bool.and_eq_true] at hb
        simp only [hb2, hb.1.1.1, hb.1.1.2, hb.1.2, hb.2, Bool.and_self, if']
        exact h1
      · rename_i e; cases e
    · exact hh
  · split at hh
    · rename_i y' ki pa lo ow rc hq
      obtain ⟨ns, e1, e2, e3, e4, e5, e6, e7, e8⟩ := fM hq
      dsimp only at e1 e2 e3 e4 e5 e6 e7 e8
      split at hh
      · rename_i hdrop
        obtain ⟨hb, h1⟩ := if_ex hh
        subst e3 e4 e5 e6 e7
        obtain ⟨rfl, h2⟩ := rg_ex h1
        obtain ⟨a, rfl, h3⟩ := dr_ex h2
        simp only [Bool.and_eq_true] at hb
        have hk1 : mKi y' = 1 := Nat.eq_of_beq_eq_true hb.1.1
        have hns := e8 hk1
        subst hns
        have hb2 : Nat.blt y' 239 = true := Nat.blt_eq.mpr e2
        dsimp only [FH]
        rw [e1]
        dsimp only
        rw [hdrop]
        simp only [hb2, hb.1.1, hb.1.2, hb.2, Bool.and_self, if', rg, Nat.beq_refl, dr]
        exact h3
      · exact hh.elim
    · exact hh.elim
  · split at hh
    · rename_i y' ki pa lo ow rc hq
      obtain ⟨ns, e1, e2, e3, e4, e5, e6, e7, e8⟩ := fM hq
      dsimp only at e1 e2 e3 e4 e5 e6 e7 e8
      split at hh
      · rename_i hdrop
        obtain ⟨hb, h1⟩ := if_ex hh
        subst e3 e4 e5 e6 e7
        obtain ⟨rfl, h2⟩ := rg_ex h1
        obtain ⟨a, rfl, h3⟩ := dr_ex h2
        simp only [Bool.and_eq_true] at hb
        have hb2 : Nat.blt y' 239 = true := Nat.blt_eq.mpr e2
        dsimp only [FH]
        rw [e1]
        split
        · rename_i e; injection e with e; injection e with e; omega
        · rename_i e
          injection e with e
          injection e with ea eb
          subst ea
          rw [hdrop]
          simp only [hb2, hb.1.1, hb.1.2, hb.2, Bool.and_self, if', rg, Nat.beq_refl, dr]
          exact h3
        · rename_i e; cases e
      · exact hh.elim
    · exact hh
  · exact hh
theorem step1_own {own : Nat} {i : Instr} {pc : Nat} {ls st : List AV} {q : Nat × List AV × List AV} (hk : isK i = none) (h : step1 99 i pc ls st = some q) : step1 own i pc ls st = some q := by
  cases i <;> first | exact h | cases hk
theorem step1_none {own : Nat} {i : Instr} {pc : Nat} {ls st : List AV} (hk : isK i = none) (h : step1 99 i pc ls st = none) : step1 own i pc ls st = none := by
  cases i <;> first | exact h | cases hk
theorem FSx_FS {d y : Nat} {code : List (List (Nat × Instr))} {F : List (Nat × Nat × Nat × Nat)} {M : List (Nat × MF)} {Kc : List (Nat × AV)} {Q : Option AV → Hp → Prop} {P : Nat → List AV → List AV → Hp → Prop} {pc : Nat} {ls st : List AV} {h : Hp} (hok : okX y code F M Kc = true) (hh : FSx d y code F M Kc Q P pc ls st h) : FS (Ct d) y Q P pc ls st h := by
  unfold okX at hok
  simp only [Bool.and_eq_true] at hok
  obtain ⟨⟨hC, hF⟩, hM⟩ := hok
  unfold FSx at hh
  split at hh
  · rename_i i hi
    have hmem := lk_mem hi
    have hch : (code.getD (pc / 32) []) ∈ code ∨ code.getD (pc / 32) [] = [] := by
      rw [List.getD_eq_getElem?_getD]
      cases hg : code[pc / 32]? with
      | none => exact Or.inr rfl
      | some ch => exact Or.inl (List.mem_of_getElem? hg)
    rcases hch with hch | hch
    · have hq := List.all_eq_true.mp (List.all_eq_true.mp hC _ hch) _ hmem
      unfold okCx at hq
      simp only [Bool.and_eq_true] at hq
      obtain ⟨q1, q2⟩ := hq
      have hlk : lk (mCo y) pc = some i := by
        split at q1
        · rename_i i' hi'
          simp only [decide_eq_true_eq] at q1
          rw [← q1]; exact hi'
        · cases q1
      unfold FS
      rw [hlk]
      unfold FIx at hh
      split at hh
      · rename_i k n hk
        simp only [hk] at q2
        split at hh
        · rename_i v hv
          rw [hv] at q2
          have hkv : kv (mOw y) k i = some v := by
            split at q2
            · rename_i a b e1 e2
              cases e1
              simp only [decide_eq_true_eq] at q2
              rw [e2, q2]
            · cases q2
          have hs : step1 (mOw y) i pc ls st = some (pc + n, ls, v :: st) := by
            cases i <;> first | (cases hk; done) | (cases hk; dsimp only [step1, kv] at hkv ⊢; rw [hkv]; rfl)
          show FI (Ct d) y Q P pc ls st h i
          unfold FI
          rw [hs]
          exact hh
        · exact hh.elim
      · rename_i hk
        show FI (Ct d) y Q P pc ls st h i
        unfold FI
        split at hh
        · rename_i q1 q2 q3 hq
          rw [step1_own hk hq]
          exact hh
        · rename_i hq
          rw [step1_none hk hq]
          revert hh
          dsimp only
          cases br1 i pc st with
          | some q => exact fun hh => hh
          | none => exact fun hh => FHx_FH hF hM hh
    · rw [hch] at hmem; cases hmem
  · exact hh.elim
def FXx (d y : Nat) (code : List (List (Nat × Instr))) (F : List (Nat × Nat × Nat × Nat)) (M : List (Nat × MF)) (Kc : List (Nat × AV)) (Q : Option AV → Hp → Prop) (P : Nat → List AV → List AV → Hp → Prop) (cuts : List Nat) : Nat → Nat → List AV → List AV → Hp → Prop
  | 0, pc, ls, st, h => P pc ls st h
  | n + 1, pc, ls, st, h => match cuts.elem pc with
    | true => P pc ls st h
    | false => FSx d y code F M Kc Q (FXx d y code F M Kc Q P cuts n) pc ls st h
theorem FSx_P {d y : Nat} {code : List (List (Nat × Instr))} {F : List (Nat × Nat × Nat × Nat)} {M : List (Nat × MF)} {Kc : List (Nat × AV)} {Q : Option AV → Hp → Prop} {P P' : Nat → List AV → List AV → Hp → Prop} {pc : Nat} {ls st : List AV} {h : Hp} (hok : okX y code F M Kc = true) (hP : Cl (Call d) y Q P) (hp : ∀ pc ls st h, P' pc ls st h → P pc ls st h) (hh : FSx d y code F M Kc Q P' pc ls st h) : P pc ls st h :=
  hP _ _ _ _ (FS_mono (C := Ct d) (fun _ _ _ _ _ hS q => Call_mono (fun v h z => hS v h (tyK_K z)) q) (fun _ _ z => z) hp (FSx_FS hok hh))
theorem FXx_run {d y : Nat} {code : List (List (Nat × Instr))} {F : List (Nat × Nat × Nat × Nat)} {M : List (Nat × MF)} {Kc : List (Nat × AV)} {Q : Option AV → Hp → Prop} {P : Nat → List AV → List AV → Hp → Prop} {cuts : List Nat} (hok : okX y code F M Kc = true) (hP : Cl (Call d) y Q P) : ∀ (n pc : Nat) (ls st : List AV) (h : Hp), FXx d y code F M Kc Q P cuts n pc ls st h → P pc ls st h
  | 0, _, _, _, _, hh => hh
  | n + 1, pc, ls, st, h, hh => by
    unfold FXx at hh
    split at hh
    · exact hh
    · exact FSx_P hok hP (fun _ _ _ _ w => FXx_run hok hP n _ _ _ _ w) hh
theorem Cl.runX {d y : Nat} {code : List (List (Nat × Instr))} {F : List (Nat × Nat × Nat × Nat)} {M : List (Nat × MF)} {Kc : List (Nat × AV)} {Q : Option AV → Hp → Prop} {P : Nat → List AV → List AV → Hp → Prop} (hok : okX y code F M Kc = true) (hP : Cl (Call d) y Q P) (cuts : List Nat) (n : Nat) {pc : Nat} {ls st : List AV} {h : Hp} (hh : FSx d y code F M Kc Q (FXx d y code F M Kc Q P cuts n) pc ls st h) : P pc ls st h :=
  FSx_P hok hP (fun _ _ _ _ w => FXx_run hok hP n _ _ _ _ w) hh
