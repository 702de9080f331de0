/-! the class's constructor -/
def pkH (h : Hp) (o b : Nat) : Hp := wR (mk (wR (mk (wR (mk (wR (mk (wR (mk h 21 12 12) 1 o 2 (some b)) 21 12 12) 1 o 3 (some (b + 1))) 21 13 13) 1 o 4 (some (b + 2))) 21 12 12) 1 o 5 (some (b + 3))) 21 240 240) 1 o 6 (some (b + 4))
theorem s10 {d o b : Nat} {h : Hp} {K : Hp → Prop} (hb : jN h 21 = b) (k : K (pkH h o b)) : CV (d + 1) 10 [vR 1 (some o)] h K := by
  intro P hP
  refine v10 hP o h ?_
  intro a1 h2 e1 e2 a3 h4 e3 e4 a5 h6 e5 e6 a7 h8 e7 e8 a9 h10 e9 e10
  obtain rfl : a1 = b := e1.trans hb
  subst e2
  obtain rfl : a3 = a1 + 1 := e3.trans (congrArg (· + 1) hb)
  subst e4
  obtain rfl : a5 = a1 + 2 := e5.trans (congrArg (· + 2) hb)
  subst e6
  obtain rfl : a7 = a1 + 3 := e7.trans (congrArg (· + 3) hb)
  subst e8
  obtain rfl : a9 = a1 + 4 := e9.trans (congrArg (· + 4) hb)
  subst e10
  exact ⟨rfl, k⟩
def cA1 : Hp := mk hZ 10 0 10
def cA2 : Hp := wR (mk cA1 23 240 240) 10 0 0 (some 0)
def cA3 : Hp := wR (mk cA2 37 60 60) 10 0 2 (some 0)
def cA4 : Hp := mk cA3 9 0 5
def cA5 : Hp := wR (mk cA4 23 0 0) 9 0 0 (some 1)
def cA6 : Hp := mk (wR cA5 10 0 4 (some 0)) 8 0 1
def cA7 : Hp := wR cA6 8 0 0 (some 0)
def cA8 : Hp := mk (wR cA7 10 0 5 (some 0)) 2 0 1
def cA9 : Hp := wR cA8 2 0 0 (some 0)
def cA10 : Hp := mk (wR cA9 10 0 6 (some 0)) 4 0 2
def cA11 : Hp := wR (mk cA10 23 256 256) 4 0 0 (some 2)
def cA12 : Hp := mk (wR cA11 10 0 7 (some 0)) 0 0 5
def cB1 : Hp := wR (pkH (mk cA12 1 0 7) 0 0) 0 0 0 (some 0)
def cB2 : Hp := wR (mk cB1 31 4 4) 0 0 1 (some 0)
def cB3 : Hp := wR (pkH (mk cB2 1 0 7) 1 5) 0 0 2 (some 1)
def cB4 : Hp := wR (mk cB3 21 32 32) 0 0 3 (some 10)
def cB5 : Hp := wR (pkH (mk cB4 1 0 7) 2 11) 31 0 0 (some 2)
def cB6 : Hp := wR (pkH (mk cB5 1 0 7) 3 16) 31 0 1 (some 3)
def cB7 : Hp := wR (pkH (mk cB6 1 0 7) 4 21) 31 0 2 (some 4)
def cB8 : Hp := wR (pkH (mk cB7 1 0 7) 5 26) 31 0 3 (some 5)
def cA13 : Hp := mk (wR cB8 10 0 8 (some 0)) 6 0 3
def cA14 : Hp := wR (mk cA13 35 100 100) 6 0 0 (some 0)
def cM : Hp := wR cA14 10 0 9 (some 0)
theorem s75 {d : Nat} {K : Hp → Prop} (k : K cA5) : CV (d + 1) 75 [vR 9 (some 0)] cA4 K := by
  intro P hP
  refine v75 hP 0 cA4 (fun a1 h2 e1 e2 => ?_)
  obtain rfl : a1 = 1 := e1.trans (by decide +kernel)
  subst e2
  exact ⟨rfl, k⟩
theorem s29 {d : Nat} {K : Hp → Prop} (k : K cA11) : CV (d + 1) 29 [vR 4 (some 0)] cA10 K := by
  intro P hP
  refine v29 hP 0 cA10 (fun a1 h2 e1 e2 => ?_)
  obtain rfl : a1 = 2 := e1.trans (by decide +kernel)
  subst e2
  exact ⟨rfl, k⟩
theorem s45 {d : Nat} {K : Hp → Prop} (k : K cA14) : CV (d + 1) 45 [vR 6 (some 0)] cA13 K := by
  intro P hP
  refine v45 hP 0 cA13 (fun a1 h2 e1 e2 => ?_)
  obtain rfl : a1 = 0 := e1.trans (by decide +kernel)
  subst e2
  exact ⟨rfl, k⟩
theorem b44 {d i q b : Nat} {h : Hp} {K : Hp → Prop} {P : Nat → List AV → List AV → Hp → Prop} (hP : Cl (Call (d + 1)) 0 (fun v h' => v = none ∧ K h') P) (hi : i < 4) (e1 : jN h 1 = q) (e2 : jN h 21 = b) (e3 : jR h 0 0 1 = some 0) (e4 : jLen h 31 0 = 4) (k : P 44 [vR 0 (some 0), vI (nI (i + 1))] [] (wR (pkH (mk h 1 0 7) q b) 31 0 i (some q))) : P 44 [vR 0 (some 0), vI (nI i)] [] h := by
  have ii : ix (nI i) = i := nI_clamp (by omega)
  refine v0_44 hP 0 (nI i) h ⟨fun c => absurd c (nI_ge (b := 4) hi (by decide)), fun _ a1 h2 ea eh => ?_⟩
  obtain rfl : a1 = q := ea.trans e1
  subst eh
  refine s10 (b := b) e2 (dr_of e3 ⟨?_, ?_⟩)
  · show vp_in (nI i) (jLen (pkH (mk h 1 0 7) a1 b) 31 0)
    have : jLen (pkH (mk h 1 0 7) a1 b) 31 0 = jLen h 31 0 := rfl
    rw [this, e4]
    exact vp_in_nI hi (by decide)
  · rw [ii, nI_1]
    exact k
theorem s0 {d : Nat} {K : Hp → Prop} (k : K cB8) : CV (d + 2) 0 [vR 0 (some 0)] cA12 K := by
  intro P hP
  refine v0 hP 0 cA12 (fun a1 h2 e1 e2 => ?_)
  obtain rfl : a1 = 0 := e1.trans (by decide +kernel)
  subst e2
  refine s10 (b := 0) (by decide +kernel) (fun a4 h5 e4 e5 a6 h7 e6 e7 => ?_)
  obtain rfl : a4 = 0 := e4.trans (by decide +kernel)
  subst e5
  obtain rfl : a6 = 1 := e6.trans (by decide +kernel)
  subst e7
  refine s10 (b := 5) (by decide +kernel) (fun a9 h10 e9 e10 => ?_)
  obtain rfl : a9 = 10 := e9.trans (by decide +kernel)
  subst e10
  show P 44 [vR 0 (some 0), vI (nI 0)] [] cB4
  refine b44 hP (q := 2) (b := 11) (by decide) (by decide +kernel) (by decide +kernel) (by decide +kernel) (by decide +kernel) ?_
  show P 44 [vR 0 (some 0), vI (nI 1)] [] cB5
  refine b44 hP (q := 3) (b := 16) (by decide) (by decide +kernel) (by decide +kernel) (by decide +kernel) (by decide +kernel) ?_
  show P 44 [vR 0 (some 0), vI (nI 2)] [] cB6
  refine b44 hP (q := 4) (b := 21) (by decide) (by decide +kernel) (by decide +kernel) (by decide +kernel) (by decide +kernel) ?_
  show P 44 [vR 0 (some 0), vI (nI 3)] [] cB7
  refine b44 hP (q := 5) (b := 26) (by decide) (by decide +kernel) (by decide +kernel) (by decide +kernel) (by decide +kernel) ?_
  show P 44 [vR 0 (some 0), vI (nI 4)] [] cB8
  exact v0_44 hP 0 (nI 4) cB8 ⟨fun _ => ⟨rfl, k⟩, fun c => absurd (by decide) c⟩
/-! a String's chars -/
def X23 (a : Nat) : Nat → Nat → Nat → Prop := fun t b _ => t = 23 ∧ b = a
theorem chr_rom (b j : Nat) : vp_nar .char (((((romB b).getD j 0) &&& 255).toUInt32 % 65536).toInt32) = (romB b).getD j 0 := by
  have h := rom_ch b j
  rw [h.1]
  unfold vp_nar
  rw [h.2]
theorem c234 {d b a len : Nat} {h0 : Hp} {K : Hp → Prop} {P : Nat → List AV → List AV → Hp → Prop} (hP : Cl (Call d) 234 (fun v h' => v = none ∧ K h') P) (hl : (romB b).length = len) (hl2 : len < 2 ^ 20) (ha : jLen h0 23 a = len) (k : ∀ h', EqX (X23 a) h0 h' → (∀ j, j < len → jI h' 23 a j = (romB b).getD j 0) → K h') : ∀ mm i h, i + mm = len → EqX (X23 a) h0 h → (∀ j, j < i → jI h 23 a j = (romB b).getD j 0) → P 3 [vR 41 (some b), vI (nI i), vR 23 (some a), vI (nI i), vI (nI len), vI (nI i)] [] h
  | 0, i, h, hi, E, t => by
    have e : i = len := by omega
    subst e
    exact v234_3 hP (some b) _ (some a) _ (nI i) (nI i) h ⟨fun _ => ⟨rfl, k h E t⟩, fun c => absurd (nI_le (Nat.le_refl _) (by omega)) c⟩
  | mm + 1, i, h, hi, E, t => by
    have ii : ix (nI i) = i := nI_clamp (by omega)
    refine v234_3 hP (some b) (nI i) (some a) (nI i) (nI len) (nI i) h ⟨fun c => absurd c (nI_ge (show i < len by omega) (by omega)), fun _ => dr_of rfl ⟨by rw [hl]; exact vp_in_nI (by omega) (by omega), dr_of rfl ⟨by rw [E.2.1, ha]; exact vp_in_nI (by omega) (by omega), ?_⟩⟩⟩
    rw [ii, chr_rom, nI_1]
    refine c234 hP hl hl2 ha k mm (i + 1) _ (by omega) (E.wI _ ⟨rfl, rfl⟩) (fun j hj => ?_)
    by_cases z : j = i
    · rw [z, jI_same]
    · rw [jI_k z]; exact t j (by omega)
theorem s226 {d b len a : Nat} {h : Hp} {K : Option Nat → Hp → Prop} (hl : (romB b).length = len) (hl2 : len < 2 ^ 16) (ha : jN h 23 = a) (k : ∀ h', EqX (X23 a) (mk h 23 len len) h' → (∀ j, j < len → jI h' 23 a j = (romB b).getD j 0) → K (some a) h') : CR (d + 3) 226 23 [vR 40 (some b)] h K := by
  intro P hP
  refine v226 hP b h (s227 ⟨fun c => absurd c (by decide), fun _ => ?_⟩)
  intro P2 hP2
  have il : ix (Int32.ofNat len) = len := nI_clamp (by omega)
  refine v233 hP2 (some b) h (dr_of rfl ⟨⟨?_, ?_⟩, fun a2 h3 e2 e3 => ?_⟩)
  · rw [hl]; exact nI_pos (n := len) (by omega)
  · rw [hl, il]; omega
  · rw [hl, il] at e3
    obtain rfl : a2 = a := e2.trans ha
    subst e3
    refine dr_of rfl ?_
    rw [hl]
    have e5 : jLen (mk h 23 len len) 23 a2 = len := by rw [← ha]; exact mk_len h 23 len len
    exact fun P3 hP3 => v234 hP3 (some b) 0 (some a2) 0 (nI len) _ (c234 (i := 0) hP3 hl (by omega) e5 (fun h' E t => ⟨_, rfl, _, rfl, k h' E t⟩) len _ (by omega) (EqX.refl _ _) (fun j hj => by omega))
