/-! each pair of calls answers alike -/
def Bo (S : Sta) (h1 h2 : Hp) (y1 y2 : Nat) (as : List Int32) : Prop := ∃ (x : Int32) (S' : Sta), StV S' ∧ CI 60 y1 (vR 10 (some 0) :: as.map vI) h1 (fun v h' => v = x ∧ RepC S' h' ∧ Gr h1 h') ∧ CI 60 y2 (vR 11 (some 0) :: as.map vI) h2 (fun v h' => v = x ∧ RepR S' h' ∧ jC h' = jC h2 ∧ jZ h' = jZ h2)
def OkV (y o n idx : Nat) : Prop := y < 239 ∧ mKi y = 1 ∧ mOw y = o ∧ n = mPa y ∧ n + 1 ≤ mLo y ∧ Cond.methodLink "HeraldDeskLaw" idx (mNm y) ∈ lw_good
section BO
variable {S : Sta} {h1 h2 : Hp}
theorem b_feed (V : StV S) (R1 : RepC S h1) (R2 : RepR S h2) (a b c d e : Int32) : Bo S h1 h2 87 118 [a, b, c, d, e] := ⟨(feedA S a b c d e).1, (feedA S a b c d e).2, V_feed V, C87 (dd := 58) V R1 (fun h' r g => ⟨rfl, r, g⟩), D118 (dd := 58) V R2 (fun h' r g1 g2 => ⟨rfl, r, g1, g2⟩)⟩
theorem b_read (V : StV S) (R1 : RepC S h1) (R2 : RepR S h2) (a : Int32) : Bo S h1 h2 89 120 [a] := ⟨(readA S a).1, (readA S a).2, V_read V, C89 (d := 49) V R1 (fun h' r g => ⟨rfl, r, g⟩), D120 (d := 52) V R2 (fun h' r g1 g2 => ⟨rfl, r, g1, g2⟩)⟩
theorem b_pack (V : StV S) (R1 : RepC S h1) (R2 : RepR S h2) (a b : Int32) : Bo S h1 h2 93 174 [a, b] := ⟨(packA S a b).1, (packA S a b).2, V_pack V, C93 (d := 22) V R1 (fun h' r g => ⟨rfl, r, g⟩), D174 (d := 54) V R2 (fun h' r g1 g2 => ⟨rfl, r, g1, g2⟩)⟩
theorem b_write (V : StV S) (R1 : RepC S h1) (R2 : RepR S h2) (a : Int32) : Bo S h1 h2 95 158 [a] := ⟨(writeA S a).1, (writeA S a).2, V_write V, C95 (d := 53) V R1 (fun h' r g => ⟨rfl, r, g⟩), D158 (d := 54) V R2 (fun h' r g1 g2 => ⟨rfl, r, g1, g2⟩)⟩
theorem b_octet (V : StV S) (R1 : RepC S h1) (R2 : RepR S h2) (a : Int32) : Bo S h1 h2 97 167 [a] := ⟨(ocS (tW S) a), S, V, C97 (d := 58) R1 ⟨rfl, R1, Gr.rf _⟩, D167 (d := 59) R2 ⟨rfl, R2, rfl, rfl⟩⟩
theorem b_look (V : StV S) (R1 : RepC S h1) (R2 : RepR S h2) (a b : Int32) : Bo S h1 h2 98 168 [a, b] := ⟨(lookA S a b), S, V, C98 (d := 57) V R1 ⟨rfl, R1, Gr.rf _⟩, D168 (d := 57) V R2 ⟨rfl, R2, rfl, rfl⟩⟩
theorem b_judge (V : StV S) (R1 : RepC S h1) (R2 : RepR S h2) (a b c : Int32) : Bo S h1 h2 99 185 [a, b, c] := ⟨(judgeA S a b c).1, (setR S (judgeA S a b c).2), V_r V, C99 (d := 53) V R1 (fun h' r g => ⟨rfl, r, g⟩), D185 (d := 55) V R2 (fun h' r g1 g2 => ⟨rfl, r, g1, g2⟩)⟩
theorem b_part (V : StV S) (R1 : RepC S h1) (R2 : RepR S h2) (a b c d : Int32) : Bo S h1 h2 103 193 [a, b, c, d] := ⟨(partA S a b c d).1, (setR S (partA S a b c d).2), V_r V, C103 (d := 53) V R1 (fun h' r g => ⟨rfl, r, g⟩), D193 (d := 55) V R2 (fun h' r g1 g2 => ⟨rfl, r, g1, g2⟩)⟩
theorem b_chosen (V : StV S) (R1 : RepC S h1) (R2 : RepR S h2) (a b c : Int32) : Bo S h1 h2 104 183 [a, b, c] := ⟨(chosenA S a b c), S, V, C104 (d := 55) R1 ⟨rfl, R1, Gr.rf _⟩, D183 (d := 57) V R2 (fun h' r g1 g2 => ⟨rfl, r, g1, g2⟩)⟩
theorem b_ran (V : StV S) (R1 : RepC S h1) (R2 : RepR S h2)  : Bo S h1 h2 105 194 [] := ⟨(tR S), S, V, C105 (d := 59) R1 ⟨rfl, R1, Gr.rf _⟩, D194 (d := 59) R2 ⟨rfl, R2, rfl, rfl⟩⟩
theorem b_point (V : StV S) (R1 : RepC S h1) (R2 : RepR S h2) (a b c : Int32) : Bo S h1 h2 106 195 [a, b, c] := ⟨(pointA S a b c), S, V, C106 (d := 53) V R1 ⟨rfl, R1, Gr.rf _⟩, D195 (d := 55) V R2 ⟨rfl, R2, rfl, rfl⟩⟩
theorem b_points (V : StV S) (R1 : RepC S h1) (R2 : RepR S h2) (a b : Int32) : Bo S h1 h2 107 204 [a, b] := ⟨(pointsA S a b), S, V, C107 (d := 52) V R1 (fun h' r g => ⟨rfl, r, g⟩), D204 (d := 54) V R2 ⟨rfl, R2, rfl, rfl⟩⟩
theorem b_differ (V : StV S) (R1 : RepC S h1) (R2 : RepR S h2) (a b : Int32) : Bo S h1 h2 108 173 [a, b] := ⟨(differA S a b), S, V, C108 (d := 56) V R1 ⟨rfl, R1, Gr.rf _⟩, D173 (d := 57) V R2 ⟨rfl, R2, rfl, rfl⟩⟩
theorem b_person (V : StV S) (R1 : RepC S h1) (R2 : RepR S h2) (q : Bool) (x y z : Int32) : Bo S h1 h2 109 205 [bi q, x, y, z] := ⟨(personA S q x y z).1, (personA S q x y z).2, V_person V, C109 (d := 57) V R1 (fun h' r g => ⟨rfl, r, g⟩), D205 (d := 58) V R2 (fun h' r g1 g2 => ⟨rfl, r, g1, g2⟩)⟩
theorem b_marry (V : StV S) (R1 : RepC S h1) (R2 : RepR S h2) (a b : Int32) : Bo S h1 h2 110 207 [a, b] := ⟨(marryA S a b).1, (marryA S a b).2, V_marry V, C110 (d := 57) V R1 (fun h' r g => ⟨rfl, r, g⟩), D207 (d := 58) V R2 (fun h' r g1 g2 => ⟨rfl, r, g1, g2⟩)⟩
theorem b_family (V : StV S) (R1 : RepC S h1) (R2 : RepR S h2) (a b : Int32) : Bo S h1 h2 111 208 [a, b] := ⟨(familyA S a b), S, V, C111 (d := 54) V R1 (fun h' r g => ⟨rfl, r, g⟩), D208 (d := 57) V R2 (fun h' r g1 g2 => ⟨rfl, r, g1, g2⟩)⟩
theorem b_count (V : StV S) (R1 : RepC S h1) (R2 : RepR S h2) (a : Int32) : Bo S h1 h2 112 212 [a] := ⟨(countA S a), S, V, C112 (d := 57) R1 ⟨rfl, R1, Gr.rf _⟩, D212 (d := 59) R2 ⟨rfl, R2, rfl, rfl⟩⟩
end BO
theorem w_87 : OkV 87 10 5 13 := ⟨by decide, by decide +kernel, by decide +kernel, by decide +kernel, by decide +kernel, wOK_mem (j := 512) (by decide +kernel)⟩
theorem w_118 : OkV 118 11 5 17 := ⟨by decide, by decide +kernel, by decide +kernel, by decide +kernel, by decide +kernel, wOK_mem (j := 1221) (by decide +kernel)⟩
theorem w_89 : OkV 89 10 1 18 := ⟨by decide, by decide +kernel, by decide +kernel, by decide +kernel, by decide +kernel, wOK_mem (j := 520) (by decide +kernel)⟩
theorem w_120 : OkV 120 11 1 22 := ⟨by decide, by decide +kernel, by decide +kernel, by decide +kernel, by decide +kernel, wOK_mem (j := 1229) (by decide +kernel)⟩
theorem w_93 : OkV 93 10 2 23 := ⟨by decide, by decide +kernel, by decide +kernel, by decide +kernel, by decide +kernel, wOK_mem (j := 701) (by decide +kernel)⟩
theorem w_174 : OkV 174 11 2 27 := ⟨by decide, by decide +kernel, by decide +kernel, by decide +kernel, by decide +kernel, wOK_mem (j := 1506) (by decide +kernel)⟩
theorem w_95 : OkV 95 10 1 28 := ⟨by decide, by decide +kernel, by decide +kernel, by decide +kernel, by decide +kernel, wOK_mem (j := 717) (by decide +kernel)⟩
theorem w_158 : OkV 158 11 1 31 := ⟨by decide, by decide +kernel, by decide +kernel, by decide +kernel, by decide +kernel, wOK_mem (j := 1441) (by decide +kernel)⟩
theorem w_97 : OkV 97 10 1 32 := ⟨by decide, by decide +kernel, by decide +kernel, by decide +kernel, by decide +kernel, wOK_mem (j := 771) (by decide +kernel)⟩
theorem w_167 : OkV 167 11 1 35 := ⟨by decide, by decide +kernel, by decide +kernel, by decide +kernel, by decide +kernel, wOK_mem (j := 1478) (by decide +kernel)⟩
theorem w_98 : OkV 98 10 2 36 := ⟨by decide, by decide +kernel, by decide +kernel, by decide +kernel, by decide +kernel, wOK_mem (j := 779) (by decide +kernel)⟩
theorem w_168 : OkV 168 11 2 39 := ⟨by decide, by decide +kernel, by decide +kernel, by decide +kernel, by decide +kernel, wOK_mem (j := 1482) (by decide +kernel)⟩
theorem w_99 : OkV 99 10 3 40 := ⟨by decide, by decide +kernel, by decide +kernel, by decide +kernel, by decide +kernel, wOK_mem (j := 811) (by decide +kernel)⟩
theorem w_185 : OkV 185 11 3 44 := ⟨by decide, by decide +kernel, by decide +kernel, by decide +kernel, by decide +kernel, wOK_mem (j := 1557) (by decide +kernel)⟩
theorem w_103 : OkV 103 10 4 45 := ⟨by decide, by decide +kernel, by decide +kernel, by decide +kernel, by decide +kernel, wOK_mem (j := 860) (by decide +kernel)⟩
theorem w_193 : OkV 193 11 4 49 := ⟨by decide, by decide +kernel, by decide +kernel, by decide +kernel, by decide +kernel, wOK_mem (j := 1587) (by decide +kernel)⟩
theorem w_104 : OkV 104 10 3 50 := ⟨by decide, by decide +kernel, by decide +kernel, by decide +kernel, by decide +kernel, wOK_mem (j := 864) (by decide +kernel)⟩
theorem w_183 : OkV 183 11 3 53 := ⟨by decide, by decide +kernel, by decide +kernel, by decide +kernel, by decide +kernel, wOK_mem (j := 1549) (by decide +kernel)⟩
theorem w_105 : OkV 105 10 0 54 := ⟨by decide, by decide +kernel, by decide +kernel, by decide +kernel, by decide +kernel, wOK_mem (j := 872) (by decide +kernel)⟩
theorem w_194 : OkV 194 11 0 58 := ⟨by decide, by decide +kernel, by decide +kernel, by decide +kernel, by decide +kernel, wOK_mem (j := 1591) (by decide +kernel)⟩
theorem w_106 : OkV 106 10 3 59 := ⟨by decide, by decide +kernel, by decide +kernel, by decide +kernel, by decide +kernel, wOK_mem (j := 876) (by decide +kernel)⟩
theorem w_195 : OkV 195 11 3 62 := ⟨by decide, by decide +kernel, by decide +kernel, by decide +kernel, by decide +kernel, wOK_mem (j := 1595) (by decide +kernel)⟩
theorem w_107 : OkV 107 10 2 63 := ⟨by decide, by decide +kernel, by decide +kernel, by decide +kernel, by decide +kernel, wOK_mem (j := 926) (by decide +kernel)⟩
theorem w_204 : OkV 204 11 2 66 := ⟨by decide, by decide +kernel, by decide +kernel, by decide +kernel, by decide +kernel, wOK_mem (j := 1625) (by decide +kernel)⟩
theorem w_108 : OkV 108 10 2 67 := ⟨by decide, by decide +kernel, by decide +kernel, by decide +kernel, by decide +kernel, wOK_mem (j := 934) (by decide +kernel)⟩
theorem w_173 : OkV 173 11 2 70 := ⟨by decide, by decide +kernel, by decide +kernel, by decide +kernel, by decide +kernel, wOK_mem (j := 1502) (by decide +kernel)⟩
theorem w_109 : OkV 109 10 4 71 := ⟨by decide, by decide +kernel, by decide +kernel, by decide +kernel, by decide +kernel, wOK_mem (j := 938) (by decide +kernel)⟩
theorem w_205 : OkV 205 11 4 75 := ⟨by decide, by decide +kernel, by decide +kernel, by decide +kernel, by decide +kernel, wOK_mem (j := 1630) (by decide +kernel)⟩
theorem w_110 : OkV 110 10 2 76 := ⟨by decide, by decide +kernel, by decide +kernel, by decide +kernel, by decide +kernel, wOK_mem (j := 1008) (by decide +kernel)⟩
theorem w_207 : OkV 207 11 2 80 := ⟨by decide, by decide +kernel, by decide +kernel, by decide +kernel, by decide +kernel, wOK_mem (j := 1638) (by decide +kernel)⟩
theorem w_111 : OkV 111 10 2 81 := ⟨by decide, by decide +kernel, by decide +kernel, by decide +kernel, by decide +kernel, wOK_mem (j := 1016) (by decide +kernel)⟩
theorem w_208 : OkV 208 11 2 84 := ⟨by decide, by decide +kernel, by decide +kernel, by decide +kernel, by decide +kernel, wOK_mem (j := 1642) (by decide +kernel)⟩
theorem w_112 : OkV 112 10 1 85 := ⟨by decide, by decide +kernel, by decide +kernel, by decide +kernel, by decide +kernel, wOK_mem (j := 1049) (by decide +kernel)⟩
theorem w_212 : OkV 212 11 1 88 := ⟨by decide, by decide +kernel, by decide +kernel, by decide +kernel, by decide +kernel, wOK_mem (j := 1658) (by decide +kernel)⟩
theorem w_85 : Cond.methodLink "HeraldDeskLaw" 9 (mNm 85) ∈ lw_good := wOK_mem (j := 114) (by decide +kernel)
theorem n_10 : Cond.classLink "HeraldDeskLaw" 7 (cnm 10) ∈ lw_good := wOK_mem (j := 112) (by decide +kernel)
theorem w_113 : Cond.methodLink "HeraldDeskLaw" 12 (mNm 113) ∈ lw_good := wOK_mem (j := 1055) (by decide +kernel)
theorem n_11 : Cond.classLink "HeraldDeskLaw" 10 (cnm 11) ∈ lw_good := wOK_mem (j := 1053) (by decide +kernel)
