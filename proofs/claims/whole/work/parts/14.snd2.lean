/-! branches, and rows of single heap steps -/
theorem trv_inj {h : Hp} {ws : va_W} {tys : List (ClassId × FieldType)} {φ : Nat → Nat → Nat} (hR : Rel h ws tys φ) {t : Nat} (ht : t < 12) {o1 o2 : Option Nat} (h1 : vok h (vR t o1)) (h2 : vok h (vR t o2)) : o1.map (φ t) = o2.map (φ t) ↔ o1 = o2 := by
  constructor
  · intro e
    have hr : hrg t = true := by unfold hrg; simp [Nat.blt_eq, ht]
    cases o1 with
    | none =>
      cases o2 with
      | none => rfl
      | some b => cases e
    | some a =>
      cases o2 with
      | none => cases e
      | some b => rw [(hR.2.1 t a t b hr hr h1 h2 (Option.some.inj e)).2]
  · intro e; rw [e]
section SND2
variable {p : Program} {l : Launch} {e : Env} {R : Room} {s : State} {m : MethodId} {args : Array Value} {below : List Frame} {meth : Method} {c : Code} {H : Heap} {locs : List Loc} {cells slots : Nat} {Qw : State → Prop}
variable {cc : ByteArray} {A : Nat → Prop} {φ : Nat → Nat → Nat} {nL : Nat} {L : Array Slot} {ls st : List AV} {own pc : Nat} {h : Hp} {ws : va_W} {tys : List (ClassId × FieldType)} {D : va_G}
set_option maxHeartbeats 4000000 in
theorem snd2 (hx : p.tables.exec = Jvm.exec) (hb : c.code = cc) (hR : Rel h ws tys φ) (hv : ∀ v ∈ st, vok h v) {i : Instr} (hdg : decode cc pc = .ok (i, ilen i)) {q : Prop × Nat × List AV} (h1 : br1 i pc st = some q)
    (kt : q.1 → W p l e R s m args below meth c H locs cells slots Qw (F0 m q.2.1 L (q.2.2.map (trv φ)))) (kf : ¬ q.1 → W p l e R s m args below meth c H locs cells slots Qw (F0 m (pc + 3) L (q.2.2.map (trv φ)))) : W p l e R s m args below meth c H locs cells slots Qw (F0 m pc L (st.map (trv φ))) := by
  cases i
  case ifCond k off =>
    dsimp only [br1] at h1
    split at h1
    · obtain ⟨t, ht, rfl⟩ := Option.map_eq_some_iff.mp h1
      have ht := jto_ex ht
      cases k
      · exact lv_if_eq hx hb hdg ht kt kf
      · exact lv_if_ne hx hb hdg ht kt (fun z => kf (fun z' => z' z))
      · exact lv_if_lt hx hb hdg ht kt kf
      · exact lv_if_ge hx hb hdg ht kt kf
      · exact lv_if_gt hx hb hdg ht kt kf
      · exact lv_if_le hx hb hdg ht kt kf
    · cases h1
  case if_icmp k off =>
    dsimp only [br1] at h1
    split at h1
    · obtain ⟨t, ht, rfl⟩ := Option.map_eq_some_iff.mp h1
      have ht := jto_ex ht
      cases k
      · exact lv_icmp_eq hx hb hdg ht kt kf
      · exact lv_icmp_ne hx hb hdg ht kt (fun z => kf (fun z' => z' z))
      · exact lv_icmp_lt hx hb hdg ht kt kf
      · exact lv_icmp_ge hx hb hdg ht kt kf
      · exact lv_icmp_gt hx hb hdg ht kt kf
      · exact lv_icmp_le hx hb hdg ht kt kf
    · cases h1
  case if_acmp k off =>
    dsimp only [br1] at h1
    split at h1
    · rename_i t1 o1 t2 o2 r
      split at h1
      · rename_i hbt
        simp only [Bool.and_eq_true, Nat.blt_eq] at hbt
        have e12 : t1 = t2 := Nat.eq_of_beq_eq_true hbt.1
        subst e12
        obtain ⟨t, ht, rfl⟩ := Option.map_eq_some_iff.mp h1
        have ht := jto_ex ht
        have hi : o2.map (φ t1) = o1.map (φ t1) ↔ o2 = o1 := trv_inj hR hbt.2 (hv _ (List.mem_cons_of_mem _ List.mem_cons_self)) (hv _ List.mem_cons_self)
        cases k
        · exact lv_acmp_eq hx hb hdg ht (fun z => kt (hi.mp z)) (fun z => kf (fun z' => z (hi.mpr z')))
        · exact lv_acmp_ne hx hb hdg ht (fun z => kt (fun z' => z (hi.mpr z'))) (fun z => kf (fun z' => z' (hi.mp z)))
      · cases h1
    · cases h1
  case ifnull off =>
    dsimp only [br1] at h1
    split at h1
    · rename_i t0 o r
      obtain ⟨t, ht, rfl⟩ := Option.map_eq_some_iff.mp h1
      have ht := jto_ex ht
      cases o with
      | none => exact lv_ifnullN hx hb hdg ht (kt rfl)
      | some a => exact lv_ifnull hx hb hdg (kf (fun z => by cases z))
    · cases h1
  case ifnonnull off =>
    dsimp only [br1] at h1
    split at h1
    · rename_i t0 o r
      obtain ⟨t, ht, rfl⟩ := Option.map_eq_some_iff.mp h1
      have ht := jto_ex ht
      cases o with
      | none => exact lv_ifnonnullN hx hb hdg (kf (fun z => z rfl))
      | some a => exact lv_ifnonnull hx hb hdg ht (kt (fun z => by cases z))
    · cases h1
  all_goals cases h1
end SND2
/-- the world at a point of a walk -/
def Wld (D : va_G) (A : Nat → Prop) (s : State) (h : Hp) (φ : Nat → Nat → Nat) (ws : va_W) (tys : List (ClassId × FieldType)) (H : Heap) (locs : List Loc) : Prop :=
  Rel h ws tys φ ∧ va_K D clsL tys s ∧ va_P D clsL ws H ∧ va_D A ws ∧ va_S A s.heap H locs ∧ Rom φ A s s.heap
theorem fld_ex {own idx t k ns : Nat} (hf : fld own idx = some (t, k, ns)) : (t = 40 ∧ ((k = 0 ∧ Cond.fieldLink (cnm own) idx "java/lang/String" "value" "[B" ∈ lw_good) ∨ (k = 1 ∧ Cond.fieldLink (cnm own) idx "java/lang/String" "coder" "B" ∈ lw_good))) ∨ (t < 12 ∧ k < nfl t ∧ ((ns = 0 ∧ Cond.fieldLink (cnm own) idx (TRs t k).1 (TRs t k).2.1 (TRs t k).2.2.1 ∈ lw_good) ∨ (ns ≠ 0 ∧ Cond.fieldLinkNest (cnm own) idx (TRs t k).1 (TRs t k).2.1 (TRs t k).2.2.1 "HeraldDesk" ∈ nestL))) := by
  obtain ⟨j, hj⟩ := all_zip fld_ok fld_len _ (lk2_mem hf)
  unfold chkF at hj
  split at hj
  · rename_i e
    simp only [Prod.mk.injEq] at e
    obtain ⟨⟨rfl, rfl, rfl, rfl, -⟩, rfl⟩ := e
    left
    split at hj
    · exact ⟨rfl, Or.inl ⟨rfl, wOK_mem hj⟩⟩
    · exact ⟨rfl, Or.inr ⟨rfl, wOK_mem hj⟩⟩
    · cases hj
  · rename_i e
    simp only [Prod.mk.injEq] at e
    obtain ⟨⟨rfl, rfl, rfl, rfl, rfl⟩, rfl⟩ := e
    simp only [Bool.and_eq_true, Nat.blt_eq] at hj
    exact Or.inr ⟨hj.1.1.1, hj.1.1.2, Or.inl ⟨rfl, wOK_mem hj.2⟩⟩
  · rename_i hn e
    simp only [Prod.mk.injEq] at e
    obtain ⟨⟨rfl, rfl, rfl, rfl, rfl⟩, rfl⟩ := e
    simp only [Bool.and_eq_true, Nat.blt_eq, decide_eq_true_eq] at hj
    refine Or.inr ⟨hj.1.1.1, hj.1.1.2, Or.inr ⟨fun z => ?_, List.mem_of_getElem? hj.2⟩⟩
    subst z
    exact hn rfl
theorem lay_in {t : Nat} (ht : t < 12) : ∀ w ∈ u_ws (cnm t) (TRs t) (nfl t), w ∈ lw_good := by
  intro w hw
  unfold u_ws at hw
  obtain ⟨k, hk, rfl⟩ := List.mem_map.mp hw
  have h := List.all_eq_true.mp (List.all_eq_true.mp chkL_ok t (List.mem_range.mpr ht)) k hk
  simp only [Bool.and_eq_true] at h
  exact wOK_mem h.1
theorem ty_at {t : Nat} (ht : t < 12) : ∀ k, k < nfl t → parseFieldDescriptor (TRs t k).2.2.1 = some (tyRs t k) := by
  intro k hk
  have h := List.all_eq_true.mp (List.all_eq_true.mp chkL_ok t (List.mem_range.mpr ht)) k (List.mem_range.mpr hk)
  simp only [Bool.and_eq_true, decide_eq_true_eq] at h
  exact h.2
theorem nm_at {t : Nat} (ht : t < 12) : ∀ a, a < nfl t → ∀ b, b < nfl t → a ≠ b → (TRs t a).2.1 ≠ (TRs t b).2.1 := by
  intro a ha b hb hab he
  have h := List.all_eq_true.mp (List.all_eq_true.mp (List.all_eq_true.mp chkNm_ok t (List.mem_range.mpr ht)) a (List.mem_range.mpr ha)) b (List.mem_range.mpr hb)
  simp only [Bool.or_eq_true, Bool.not_eq_true', beq_eq_false_iff_ne, ne_eq] at h
  rcases h with h | h
  · exact hab (Nat.eq_of_beq_eq_true h)
  · exact h he
section SND3
variable {p : Program} {l : Launch} {e : Env} {R : Room} {s : State} {m : MethodId} {args : Array Value} {below : List Frame} {meth : Method} {c : Code} {H : Heap} {locs : List Loc} {cells slots : Nat} {Qw : State → Prop}
variable {cc : ByteArray} {A : Nat → Prop} {φ : Nat → Nat → Nat} {L : Array Slot} {rest : List Value} {own pc idx : Nat} {h : Hp} {ws : va_W} {tys : List (ClassId × FieldType)} {D : va_G}
theorem s_getf (hx : p.tables.exec = Jvm.exec) (hb : c.code = cc) (hown : s.vm.findClass (cnm own) = some m.cls) (hts : ∀ w ∈ lw_good, w.before args s = true) (hw : Wld D A s h φ ws tys H locs) {t k ns a : Nat} (hf : fld own idx = some (t, k, ns)) (ht : t ≠ 40) (ha : a < jN h t) (hdg : decode cc pc = .ok (.getfield idx, 3))
    (kk : W p l e R s m args below meth c H locs cells slots Qw (F0 m (pc + 3) L (trv φ (gf h t a k) :: rest))) : W p l e R s m args below meth c H locs cells slots Qw (F0 m pc L (.ref (φ t a) :: rest)) := by
  obtain ⟨hR, hK, hP, hD, hS, hrom⟩ := hw
  rcases fld_ex hf with ⟨h40, -⟩ | ⟨h12, hk, hl⟩
  · exact absurd h40 ht
  · obtain ⟨i, cA, hi, -⟩ := hR.1 t a (by unfold hrg; simp [Nat.blt_eq, h12]) ha
    rw [cellOf_obj h12] at hi
    rcases hl with ⟨-, hl⟩ | ⟨-, hl⟩
    · exact va_get (C := cnm t) (T := TRs t) (N := nfl t) hx hb hts (lay_in h12) hown hK hP i hi (cls_at t h12) k hk (hts _ hl) (fun _ z => z) (flds_at hk) hdg kk
    · exact va_getN (C := cnm t) (T := TRs t) (N := nfl t) hx hb hts (lay_in h12) hown hK hP i hi (cls_at t h12) k hk (va_Nw.use rfl (hrom.2.2.2.2.2.2.2.2.1 _ hl)) (fun _ z => z) (flds_at hk) hdg kk
theorem s_gets (hx : p.tables.exec = Jvm.exec) (hb : c.code = cc) (hown : s.vm.findClass (cnm own) = some m.cls) (hts : ∀ w ∈ lw_good, w.before args s = true) (hw : Wld D A s h φ ws tys H locs) {k ns a : Nat} (hf : fld own idx = some (40, k, ns)) (ha : a < jN h 40) (hdg : decode cc pc = .ok (.getfield idx, 3))
    (kk : W p l e R s m args below meth c H locs cells slots Qw (F0 m (pc + 3) L (trv φ (gfs a k) :: rest))) : W p l e R s m args below meth c H locs cells slots Qw (F0 m pc L (.ref (φ 40 a) :: rest)) := by
  obtain ⟨hR, hK, hP, hD, hS, hrom⟩ := hw
  rw [hR.2.2.2.2.1] at ha
  obtain ⟨-, g2, g3, -⟩ := hrom.1 a ha
  rcases fld_ex hf with ⟨-, ⟨rfl, hl⟩ | ⟨rfl, hl⟩⟩ | ⟨h12, -⟩
  · exact vk_getf hx hb g3 hS hown (hts _ hl) (fun _ z => z) hdg kk
  · exact vk_getf hx hb g2 hS hown (hts _ hl) (fun _ z => z) hdg kk
  · exact absurd h12 (by omega)
end SND3
