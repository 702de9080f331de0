/-! the reference's tables, printed by wip/whole/tab.py -/
def tinL : List Int64 := [28530, 107143988866676, 444351669619, 418666345061, 495555079269, 1986359924, 31654331765060197, 111542136303205, 1986095474]
theorem s132 {d t : Nat} {h : Hp} {K : Int64 → Hp → Prop} (h1 : 0 ≤ t) (h2 : t ≤ 8) (k : K (tinL.getD t 0) h) : CJ (d + 1) 132 [vI (nI t)] h K := by
  intro P hP
  have hc : t = 0 ∨ t = 1 ∨ t = 2 ∨ t = 3 ∨ t = 4 ∨ t = 5 ∨ t = 6 ∨ t = 7 ∨ t = 8 := by omega
  rcases hc with rfl | rfl | rfl | rfl | rfl | rfl | rfl | rfl | rfl
  · exact v132 hP (nI 0) h ⟨fun _ => ⟨_, rfl, k⟩, fun z => absurd rfl z⟩
  · exact v132 hP (nI 1) h ⟨fun z => absurd z (by decide), fun _ => ⟨fun _ => ⟨_, rfl, k⟩, fun z => absurd rfl z⟩⟩
  · exact v132 hP (nI 2) h ⟨fun z => absurd z (by decide), fun _ => ⟨fun z => absurd z (by decide), fun _ => ⟨fun _ => ⟨_, rfl, k⟩, fun z => absurd rfl z⟩⟩⟩
  · exact v132 hP (nI 3) h ⟨fun z => absurd z (by decide), fun _ => ⟨fun z => absurd z (by decide), fun _ => ⟨fun z => absurd z (by decide), fun _ => ⟨fun _ => ⟨_, rfl, k⟩, fun z => absurd rfl z⟩⟩⟩⟩
  · exact v132 hP (nI 4) h ⟨fun z => absurd z (by decide), fun _ => ⟨fun z => absurd z (by decide), fun _ => ⟨fun z => absurd z (by decide), fun _ => ⟨fun z => absurd z (by decide), fun _ => ⟨fun _ => ⟨_, rfl, k⟩, fun z => absurd rfl z⟩⟩⟩⟩⟩
  · exact v132 hP (nI 5) h ⟨fun z => absurd z (by decide), fun _ => ⟨fun z => absurd z (by decide), fun _ => ⟨fun z => absurd z (by decide), fun _ => ⟨fun z => absurd z (by decide), fun _ => ⟨fun z => absurd z (by decide), fun _ => ⟨fun _ => ⟨_, rfl, k⟩, fun z => absurd rfl z⟩⟩⟩⟩⟩⟩
  · exact v132 hP (nI 6) h ⟨fun z => absurd z (by decide), fun _ => ⟨fun z => absurd z (by decide), fun _ => ⟨fun z => absurd z (by decide), fun _ => ⟨fun z => absurd z (by decide), fun _ => ⟨fun z => absurd z (by decide), fun _ => ⟨fun z => absurd z (by decide), fun _ => ⟨fun _ => ⟨_, rfl, k⟩, fun z => absurd rfl z⟩⟩⟩⟩⟩⟩⟩
  · exact v132 hP (nI 7) h ⟨fun z => absurd z (by decide), fun _ => ⟨fun z => absurd z (by decide), fun _ => ⟨fun z => absurd z (by decide), fun _ => ⟨fun z => absurd z (by decide), fun _ => ⟨fun z => absurd z (by decide), fun _ => ⟨fun z => absurd z (by decide), fun _ => ⟨fun z => absurd z (by decide), fun _ => ⟨fun _ => ⟨_, rfl, k⟩, fun z => absurd rfl z⟩⟩⟩⟩⟩⟩⟩⟩
  · exact v132 hP (nI 8) h ⟨fun z => absurd z (by decide), fun _ => ⟨fun z => absurd z (by decide), fun _ => ⟨fun z => absurd z (by decide), fun _ => ⟨fun z => absurd z (by decide), fun _ => ⟨fun z => absurd z (by decide), fun _ => ⟨fun z => absurd z (by decide), fun _ => ⟨fun z => absurd z (by decide), fun _ => ⟨fun z => absurd z (by decide), fun _ => ⟨_, rfl, k⟩⟩⟩⟩⟩⟩⟩⟩⟩
def kinL : List Int64 := [1885434484, 8030591489541239417, 109299962636133, 422607680372, 1651077732, 482854661748, 499967946343, 426953500006, 1885432933, 1717924723, 1650814564, 27980807682551662, 427121668979, 32476740759155301, 1885957221, 27707084820017765, 1818849134, 1651466610, 1937006951, 435425864805, 30787916668888436, 1919906661, 1818848377, 32776877134276972, 120351097644404, 7165901503363116660, 27424493436429684, 32210697498944876, 108204930131316, 500086302066, 465490306412]
theorem s141 {d t : Nat} {h : Hp} {K : Int64 → Hp → Prop} (h1 : 0 ≤ t) (h2 : t ≤ 30) (k : K (kinL.getD t 0) h) : CJ (d + 1) 141 [vI (nI t)] h K := by
  intro P hP
  have hc : t = 0 ∨ t = 1 ∨ t = 2 ∨ t = 3 ∨ t = 4 ∨ t = 5 ∨ t = 6 ∨ t = 7 ∨ t = 8 ∨ t = 9 ∨ t = 10 ∨ t = 11 ∨ t = 12 ∨ t = 13 ∨ t = 14 ∨ t = 15 ∨ t = 16 ∨ t = 17 ∨ t = 18 ∨ t = 19 ∨ t = 20 ∨ t = 21 ∨ t = 22 ∨ t = 23 ∨ t = 24 ∨ t = 25 ∨ t = 26 ∨ t = 27 ∨ t = 28 ∨ t = 29 ∨ t = 30 := by omega
  rcases hc with rfl | rfl | rfl | rfl | rfl | rfl | rfl | rfl | rfl | rfl | rfl | rfl | rfl | rfl | rfl | rfl | rfl | rfl | rfl | rfl | rfl | rfl | rfl | rfl | rfl | rfl | rfl | rfl | rfl | rfl | rfl
  · exact v141 hP (nI 0) h ⟨fun _ => ⟨_, rfl, k⟩, fun z => absurd rfl z⟩
  · exact v141 hP (nI 1) h ⟨fun z => absurd z (by decide), fun _ => ⟨fun _ => ⟨_, rfl, k⟩, fun z => absurd rfl z⟩⟩
  · exact v141 hP (nI 2) h ⟨fun z => absurd z (by decide), fun _ => ⟨fun z => absurd z (by decide), fun _ => ⟨fun _ => ⟨_, rfl, k⟩, fun z => absurd rfl z⟩⟩⟩
  · exact v141 hP (nI 3) h ⟨fun z => absurd z (by decide), fun _ => ⟨fun z => absurd z (by decide), fun _ => ⟨fun z => absurd z (by decide), fun _ => ⟨fun _ => ⟨_, rfl, k⟩, fun z => absurd rfl z⟩⟩⟩⟩
  · exact v141 hP (nI 4) h ⟨fun z => absurd z (by decide), fun _ => ⟨fun z => absurd z (by decide), fun _ => ⟨fun z => absurd z (by decide), fun _ => ⟨fun z => absurd z (by decide), fun _ => ⟨fun _ => ⟨_, rfl, k⟩, fun z => absurd rfl z⟩⟩⟩⟩⟩
  · exact v141 hP (nI 5) h ⟨fun z => absurd z (by decide), fun _ => ⟨fun z => absurd z (by decide), fun _ => ⟨fun z => absurd z (by decide), fun _ => ⟨fun z => absurd z (by decide), fun _ => ⟨fun z => absurd z (by decide), fun _ => ⟨fun _ => ⟨_, rfl, k⟩, fun z => absurd rfl z⟩⟩⟩⟩⟩⟩
  · exact v141 hP (nI 6) h ⟨fun z => absurd z (by decide), fun _ => ⟨fun z => absurd z (by decide), fun _ => ⟨fun z => absurd z (by decide), fun _ => ⟨fun z => absurd z (by decide), fun _ => ⟨fun z => absurd z (by decide), fun _ => ⟨fun z => absurd z (by decide), fun _ => ⟨fun _ => ⟨_, rfl, k⟩, fun z => absurd rfl z⟩⟩⟩⟩⟩⟩⟩
  · exact v141 hP (nI 7) h ⟨fun z => absurd z (by decide), fun _ => ⟨fun z => absurd z (by decide), fun _ => ⟨fun z => absurd z (by decide), fun _ => ⟨fun z => absurd z (by decide), fun _ => ⟨fun z => absurd z (by decide), fun _ => ⟨fun z => absurd z (by decide), fun _ => ⟨fun z => absurd z (by decide), fun _ => ⟨fun _ => ⟨_, rfl, k⟩, fun z => absurd rfl z⟩⟩⟩⟩⟩⟩⟩⟩
  · exact v141 hP (nI 8) h ⟨fun z => absurd z (by decide), fun _ => ⟨fun z => absurd z (by decide), fun _ => ⟨fun z => absurd z (by decide), fun _ => ⟨fun z => absurd z (by decide), fun _ => ⟨fun z => absurd z (by decide), fun _ => ⟨fun z => absurd z (by decide), fun _ => ⟨fun z => absurd z (by decide), fun _ => ⟨fun z => absurd z (by decide), fun _ => ⟨fun _ => ⟨_, rfl, k⟩, fun z => absurd rfl z⟩⟩⟩⟩⟩⟩⟩⟩⟩
  · exact v141 hP (nI 9) h ⟨fun z => absurd z (by decide), fun _ => ⟨fun z => absurd z (by decide), fun _ => ⟨fun z => absurd z (by decide), fun _ => ⟨fun z => absurd z (by decide), fun _ => ⟨fun z => absurd z (by decide), fun _ => ⟨fun z => absurd z (by decide), fun _ => ⟨fun z => absurd z (by decide), fun _ => ⟨fun z => absurd z (by decide), fun _ => ⟨fun z => absurd z (by decide), fun _ => ⟨fun _ => ⟨_, rfl, k⟩, fun z => absurd rfl z⟩⟩⟩⟩⟩⟩⟩⟩⟩⟩
  · exact v141 hP (nI 10) h ⟨fun z => absurd z (by decide), fun _ => ⟨fun z => absurd z (by decide), fun _ => ⟨fun z => absurd z (by decide), fun _ => ⟨fun z => absurd z (by decide), fun _ => ⟨fun z => absurd z (by decide), fun _ => ⟨fun z => absurd z (by decide), fun _ => ⟨fun z => absurd z (by decide), fun _ => ⟨fun z => absurd z (by decide), fun _ => ⟨fun z => absurd z (by decide), fun _ => ⟨fun z => absurd z (by decide), fun _ => ⟨fun _ => ⟨_, rfl, k⟩, fun z => absurd rfl z⟩⟩⟩⟩⟩⟩⟩⟩⟩⟩⟩
  · exact v141 hP (nI 11) h ⟨fun z => absurd z (by decide), fun _ => ⟨fun z => absurd z (by decide), fun _ => ⟨fun z => absurd z (by decide), fun _ => ⟨fun z => absurd z (by decide), fun _ => ⟨fun z => absurd z (by decide), fun _ => ⟨fun z => absurd z (by decide), fun _ => ⟨fun z => absurd z (by decide), fun _ => ⟨fun z => absurd z (by decide), fun _ => ⟨fun z => absurd z (by decide), fun _ => ⟨fun z => absurd z (by decide), fun _ => ⟨fun z => absurd z (by decide), fun _ => ⟨fun _ => ⟨_, rfl, k⟩, fun z => absurd rfl z⟩⟩⟩⟩⟩⟩⟩⟩⟩⟩⟩⟩
  · exact v141 hP (nI 12) h ⟨fun z => absurd z (by decide), fun _ => ⟨fun z => absurd z (by decide), fun _ => ⟨fun z => absurd z (by decide), fun _ => ⟨fun z => absurd z (by decide), fun _ => ⟨fun z => absurd z (by decide), fun _ => ⟨fun z => absurd z (by decide), fun _ => ⟨fun z => absurd z (by decide), fun _ => ⟨fun z => absurd z (by decide), fun _ => ⟨fun z => absurd z (by decide), fun _ => ⟨fun z => absurd z (by decide), fun _ => ⟨fun z => absurd z (by decide), fun _ => ⟨fun z => absurd z (by decide), fun _ => ⟨fun _ => ⟨_, rfl, k⟩, fun z => absurd rfl z⟩⟩⟩⟩⟩⟩⟩⟩⟩⟩⟩⟩⟩
  · exact v141 hP (nI 13) h ⟨fun z => absurd z (by decide), fun _ => ⟨fun z => absurd z (by decide), fun _ => ⟨fun z => absurd z (by decide), fun _ => ⟨fun z => absurd z (by decide), fun _ => ⟨fun z => absurd z (by decide), fun _ => ⟨fun z => absurd z (by decide), fun _ => ⟨fun z => absurd z (by decide), fun _ => ⟨fun z => absurd z (by decide), fun _ => ⟨fun z => absurd z (by decide), fun _ => ⟨fun z => absurd z (by decide), fun _ => ⟨fun z => absurd z (by decide), fun _ => ⟨fun z => absurd z (by decide), fun _ => ⟨fun z => absurd z (by decide), fun _ => ⟨fun _ => ⟨_, rfl, k⟩, fun z => absurd rfl z⟩⟩⟩⟩⟩⟩⟩⟩⟩⟩⟩⟩⟩⟩
  · exact v141 hP (nI 14) h ⟨fun z => absurd z (by decide), fun _ => ⟨fun z => absurd z (by decide), fun _ => ⟨fun z => absurd z (by decide), fun _ => ⟨fun z => absurd z (by decide), fun _ => ⟨fun z => absurd z (by decide), fun _ => ⟨fun z => absurd z (by decide), fun _ => ⟨fun z => absurd z (by decide), fun _ => ⟨fun z => absurd z (by decide), fun _ => ⟨fun z => absurd z (by decide), fun _ => ⟨fun z => absurd z (by decide), fun _ => ⟨fun z => absurd z (by decide), fun _ => ⟨fun z => absurd z (by decide), fun _ => ⟨fun z => absurd z (by decide), fun _ => ⟨fun z => absurd z (by decide), fun _ => ⟨fun _ => ⟨_, rfl, k⟩, fun z => absurd rfl z⟩⟩⟩⟩⟩⟩⟩⟩⟩⟩⟩⟩⟩⟩⟩
  · exact v141 hP (nI 15) h ⟨fun z => absurd z (by decide), fun _ => ⟨fun z => absurd z (by decide), fun _ => ⟨fun z => absurd z (by decide), fun _ => ⟨fun z => absurd z (by decide), fun _ => ⟨fun z => absurd z (by decide), fun _ => ⟨fun z => absurd z (by decide), fun _ => ⟨fun z => absurd z (by decide), fun _ => ⟨fun z => absurd z (by decide), fun _ => ⟨fun z => absurd z (by decide), fun _ => ⟨fun z => absurd z (by decide), fun _ => ⟨fun z => absurd z (by decide), fun _ => ⟨fun z => absurd z (by decide), fun _ => ⟨fun z => absurd z (by decide), fun _ => ⟨fun z => absurd z (by decide), fun _ => ⟨fun z => absurd z (by decide), fun _ => ⟨fun _ => ⟨_, rfl, k⟩, fun z => absurd rfl z⟩⟩⟩⟩⟩⟩⟩⟩⟩⟩⟩⟩⟩⟩⟩⟩
  · exact v141 hP (nI 16) h ⟨fun z => absurd z (by decide), fun _ => ⟨fun z => absurd z (by decide), fun _ => ⟨fun z => absurd z (by decide), fun _ => ⟨fun z => absurd z (by decide), fun _ => ⟨fun z => absurd z (by decide), fun _ => ⟨fun z => absurd z (by decide), fun _ => ⟨fun z => absurd z (by decide), fun _ => ⟨fun z => absurd z (by decide), fun _ => ⟨fun z => absurd z (by decide), fun _ => ⟨fun z => absurd z (by decide), fun _ => ⟨fun z => absurd z (by decide), fun _ => ⟨fun z => absurd z (by decide), fun _ => ⟨fun z => absurd z (by decide), fun _ => ⟨fun z => absurd z (by decide), fun _ => ⟨fun z => absurd z (by decide), fun _ => ⟨fun z => absurd z (by decide), fun _ => ⟨fun _ => ⟨_, rfl, k⟩, fun z => absurd rfl z⟩⟩⟩⟩⟩⟩⟩⟩⟩⟩⟩⟩⟩⟩⟩⟩⟩
  · exact v141 hP (nI 17) h ⟨fun z => absurd z (by decide), fun _ => ⟨fun z => absurd z (by decide), fun _ => ⟨fun z => absurd z (by decide), fun _ => ⟨fun z => absurd z (by decide), fun _ => ⟨fun z => absurd z (by decide), fun _ => ⟨fun z => absurd z (by decide), fun _ => ⟨fun z => absurd z (by decide), fun _ => ⟨fun z => absurd z (by decide), fun _ => ⟨fun z => absurd z (by decide), fun _ => ⟨fun z => absurd z (by decide), fun _ => ⟨fun z => absurd z (by decide), fun _ => ⟨fun z => absurd z (by decide), fun _ => ⟨fun z => absurd z (by decide), fun _ => ⟨fun z => absurd z (by decide), fun _ => ⟨fun z => absurd z (by decide), fun _ => ⟨fun z => absurd z (by decide), fun _ => ⟨fun z => absurd z (by decide), fun _ => ⟨fun _ => ⟨_, rfl, k⟩, fun z => absurd rfl z⟩⟩⟩⟩⟩⟩⟩⟩⟩⟩⟩⟩⟩⟩⟩⟩⟩⟩
  · exact v141 hP (nI 18) h ⟨fun z => absurd z (by decide), fun _ => ⟨fun z => absurd z (by decide), fun _ => ⟨fun z => absurd z (by decide), fun _ => ⟨fun z => absurd z (by decide), fun _ => ⟨fun z => absurd z (by decide), fun _ => ⟨fun z => absurd z (by decide), fun _ => ⟨fun z => absurd z (by decide), fun _ => ⟨fun z => absurd z (by decide), fun _ => ⟨fun z => absurd z (by decide), fun _ => ⟨fun z => absurd z (by decide), fun _ => ⟨fun z => absurd z (by decide), fun _ => ⟨fun z => absurd z (by decide), fun _ => ⟨fun z => absurd z (by decide), fun _ => ⟨fun z => absurd z (by decide), fun _ => ⟨fun z => absurd z (by decide), fun _ => ⟨fun z => absurd z (by decide), fun _ => ⟨fun z => absurd z (by decide), fun _ => ⟨fun z => absurd z (by decide), fun _ => ⟨fun _ => ⟨_, rfl, k⟩, fun z => absurd rfl z⟩⟩⟩⟩⟩⟩⟩⟩⟩⟩⟩⟩⟩⟩⟩⟩⟩⟩⟩
  · exact v141 hP (nI 19) h ⟨fun z => absurd z (by decide), fun _ => ⟨fun z => absurd z (by decide), fun _ => ⟨fun z => absurd z (by decide), fun _ => ⟨fun z => absurd z (by decide), fun _ => ⟨fun z => absurd z (by decide), fun _ => ⟨fun z => absurd z (by decide), fun _ => ⟨fun z => absurd z (by decide), fun _ => ⟨fun z => absurd z (by decide), fun _ => ⟨fun z => absurd z (by decide), fun _ => ⟨fun z => absurd z (by decide), fun _ => ⟨fun z => absurd z (by decide), fun _ => ⟨fun z => absurd z (by decide), fun _ => ⟨fun z => absurd z (by decide), fun _ => ⟨fun z => absurd z (by decide), fun _ => ⟨fun z => absurd z (by decide), fun _ => ⟨fun z => absurd z (by decide), fun _ => ⟨fun z => absurd z (by decide), fun _ => ⟨fun z => absurd z (by decide), fun _ => ⟨fun z => absurd z (by decide), fun _ => ⟨fun _ => ⟨_, rfl, k⟩, fun z => absurd rfl z⟩⟩⟩⟩⟩⟩⟩⟩⟩⟩⟩⟩⟩⟩⟩⟩⟩⟩⟩⟩
  · exact v141 hP (nI 20) h ⟨fun z => absurd z (by decide), fun _ => ⟨fun z => absurd z (by decide), fun _ => ⟨fun z => absurd z (by decide), fun _ => ⟨fun z => absurd z (by decide), fun _ => ⟨fun z => absurd z (by decide), fun _ => ⟨fun z => absurd z (by decide), fun _ => ⟨fun z => absurd z (by decide), fun _ => ⟨fun z => absurd z (by decide), fun _ => ⟨fun z => absurd z (by decide), fun _ => ⟨fun z => absurd z (by decide), fun _ => ⟨fun z => absurd z (by decide), fun _ => ⟨fun z => absurd z (by decide), fun _ => ⟨fun z => absurd z (by decide), fun _ => ⟨fun z => absurd z (by decide), fun _ => ⟨fun z => absurd z (by decide), fun _ => ⟨fun z => absurd z (by decide), fun _ => ⟨fun z => absurd z (by decide), fun _ => ⟨fun z => absurd z (by decide), fun _ => ⟨fun z => absurd z (by decide), fun _ => ⟨fun z => absurd z (by decide), fun _ => ⟨fun _ => ⟨_, rfl, k⟩, fun z => absurd rfl z⟩⟩⟩⟩⟩⟩⟩⟩⟩⟩⟩⟩⟩⟩⟩⟩⟩⟩⟩⟩⟩
  · exact v141 hP (nI 21) h ⟨fun z => absurd z (by decide), fun _ => ⟨fun z => absurd z (by decide), fun _ => ⟨fun z => absurd z (by decide), fun _ => ⟨fun z => absurd z (by decide), fun _ => ⟨fun z => absurd z (by decide), fun _ => ⟨fun z => absurd z (by decide), fun _ => ⟨fun z => absurd z (by decide), fun _ => ⟨fun z => absurd z (by decide), fun _ => ⟨fun z => absurd z (by decide), fun _ => ⟨fun z => absurd z (by decide), fun _ => ⟨fun z => absurd z (by decide), fun _ => ⟨fun z => absurd z (by decide), fun _ => ⟨fun z => absurd z (by decide), fun _ => ⟨fun z => absurd z (by decide), fun _ => ⟨fun z => absurd z (by decide), fun _ => ⟨fun z => absurd z (by decide), fun _ => ⟨fun z => absurd z (by decide), fun _ => ⟨fun z => absurd z (by decide), fun _ => ⟨fun z => absurd z (by decide), fun _ => ⟨fun z => absurd z (by decide), fun _ => ⟨fun z => absurd z (by decide), fun _ => ⟨fun _ => ⟨_, rfl, k⟩, fun z => absurd rfl z⟩⟩⟩⟩⟩⟩⟩⟩⟩⟩⟩⟩⟩⟩⟩⟩⟩⟩⟩⟩⟩⟩
  · exact v141 hP (nI 22) h ⟨fun z => absurd z (by decide), fun _ => ⟨fun z => absurd z (by decide), fun _ => ⟨fun z => absurd z (by decide), fun _ => ⟨fun z => absurd z (by decide), fun _ => ⟨fun z => absurd z (by decide), fun _ => ⟨fun z => absurd z (by decide), fun _ => ⟨fun z => absurd z (by decide), fun _ => ⟨fun z => absurd z (by decide), fun _ => ⟨fun z => absurd z (by decide), fun _ => ⟨fun z => absurd z (by decide), fun _ => ⟨fun z => absurd z (by decide), fun _ => ⟨fun z => absurd z (by decide), fun _ => ⟨fun z => absurd z (by decide), fun _ => ⟨fun z => absurd z (by decide), fun _ => ⟨fun z => absurd z (by decide), fun _ => ⟨fun z => absurd z (by decide), fun _ => ⟨fun z => absurd z (by decide), fun _ => ⟨fun z => absurd z (by decide), fun _ => ⟨fun z => absurd z (by decide), fun _ => ⟨fun z => absurd z (by decide), fun _ => ⟨fun z => absurd z (by decide), fun _ => ⟨fun z => absurd z (by decide), fun _ => ⟨fun _ => ⟨_, rfl, k⟩, fun z => absurd rfl z⟩⟩⟩⟩⟩⟩⟩⟩⟩⟩⟩⟩⟩⟩⟩⟩⟩⟩⟩⟩⟩⟩⟩
  · exact v141 hP (nI 23) h ⟨fun z => absurd z (by decide), fun _ => ⟨fun z => absurd z (by decide), fun _ => ⟨fun z => absurd z (by decide), fun _ => ⟨fun z => absurd z (by decide), fun _ => ⟨fun z => absurd z (by decide), fun _ => ⟨fun z => absurd z (by decide), fun _ => ⟨fun z => absurd z (by decide), fun _ => ⟨fun z => absurd z (by decide), fun _ => ⟨fun z => absurd z (by decide), fun _ => ⟨fun z => absurd z (by decide), fun _ => ⟨fun z => absurd z (by decide), fun _ => ⟨fun z => absurd z (by decide), fun _ => ⟨fun z => absurd z (by decide), fun _ => ⟨fun z => absurd z (by decide), fun _ => ⟨fun z => absurd z (by decide), fun _ => ⟨fun z => absurd z (by decide), fun _ => ⟨fun z => absurd z (by decide), fun _ => ⟨fun z => absurd z (by decide), fun _ => ⟨fun z => absurd z (by decide), fun _ => ⟨fun z => absurd z (by decide), fun _ => ⟨fun z => absurd z (by decide), fun _ => ⟨fun z => absurd z (by decide), fun _ => ⟨fun z => absurd z (by decide), fun _ => ⟨fun _ => ⟨_, rfl, k⟩, fun z => absurd rfl z⟩⟩⟩⟩⟩⟩⟩⟩⟩⟩⟩⟩⟩⟩⟩⟩⟩⟩⟩⟩⟩⟩⟩⟩
  · exact v141 hP (nI 24) h ⟨fun z => absurd z (by decide), fun _ => ⟨fun z => absurd z (by decide), fun _ => ⟨fun z => absurd z (by decide), fun _ => ⟨fun z => absurd z (by decide), fun _ => ⟨fun z => absurd z (by decide), fun _ => ⟨fun z => absurd z (by decide), fun _ => ⟨fun z => absurd z (by decide), fun _ => ⟨fun z => absurd z (by decide), fun _ => ⟨fun z => absurd z (by decide), fun _ => ⟨fun z => absurd z (by decide), fun _ => ⟨fun z => absurd z (by decide), fun _ => ⟨fun z => absurd z (by decide), fun _ => ⟨fun z => absurd z (by decide), fun _ => ⟨fun z => absurd z (by decide), fun _ => ⟨fun z => absurd z (by decide), fun _ => ⟨fun z => absurd z (by decide), fun _ => ⟨fun z => absurd z (by decide), fun _ => ⟨fun z => absurd z (by decide), fun _ => ⟨fun z => absurd z (by decide), fun _ => ⟨fun z => absurd z (by decide), fun _ => ⟨fun z => absurd z (by decide), fun _ => ⟨fun z => absurd z (by decide), fun _ => ⟨fun z => absurd z (by decide), fun _ => ⟨fun z => absurd z (by decide), fun _ => ⟨fun _ => ⟨_, rfl, k⟩, fun z => absurd rfl z⟩⟩⟩⟩⟩⟩⟩⟩⟩⟩⟩⟩⟩⟩⟩⟩⟩⟩⟩⟩⟩⟩⟩⟩⟩
  · exact v141 hP (nI 25) h ⟨fun z => absurd z (by decide), fun _ => ⟨fun z => absurd z (by decide), fun _ => ⟨fun z => absurd z (by decide), fun _ => ⟨fun z => absurd z (by decide), fun _ => ⟨fun z => absurd z (by decide), fun _ => ⟨fun z => absurd z (by decide), fun _ => ⟨fun z => absurd z (by decide), fun _ => ⟨fun z => absurd z (by decide), fun _ => ⟨fun z => absurd z (by decide), fun _ => ⟨fun z => absurd z (by decide), fun _ => ⟨fun z => absurd z (by decide), fun _ => ⟨fun z => absurd z (by decide), fun _ => ⟨fun z => absurd z (by decide), fun _ => ⟨fun z => absurd z (by decide), fun _ => ⟨fun z => absurd z (by decide), fun _ => ⟨fun z => absurd z (by decide), fun _ => ⟨fun z => absurd z (by decide), fun _ => ⟨fun z => absurd z (by decide), fun _ => ⟨fun z => absurd z (by decide), fun _ => ⟨fun z => absurd z (by decide), fun _ => ⟨fun z => absurd z (by decide), fun _ => ⟨fun z => absurd z (by decide), fun _ => ⟨fun z => absurd z (by decide), fun _ => ⟨fun z => absurd z (by decide), fun _ => ⟨fun z => absurd z (by decide), fun _ => ⟨fun _ => ⟨_, rfl, k⟩, fun z => absurd rfl z⟩⟩⟩⟩⟩⟩⟩⟩⟩⟩⟩⟩⟩⟩⟩⟩⟩⟩⟩⟩⟩⟩⟩⟩⟩⟩
  · exact v141 hP (nI 26) h ⟨fun z => absurd z (by decide), fun _ => ⟨fun z => absurd z (by decide), fun _ => ⟨fun z => absurd z (by decide), fun _ => ⟨fun z => absurd z (by decide), fun _ => ⟨fun z => absurd z (by decide), fun _ => ⟨fun z => absurd z (by decide), fun _ => ⟨fun z => absurd z (by decide), fun _ => ⟨fun z => absurd z (by decide), fun _ => ⟨fun z => absurd z (by decide), fun _ => ⟨fun z => absurd z (by decide), fun _ => ⟨fun z => absurd z (by decide), fun _ => ⟨fun z => absurd z (by decide), fun _ => ⟨fun z => absurd z (by decide), fun _ => ⟨fun z => absurd z (by decide), fun _ => ⟨fun z => absurd z (by decide), fun _ => ⟨fun z => absurd z (by decide), fun _ => ⟨fun z => absurd z (by decide), fun _ => ⟨fun z => absurd z (by decide), fun _ => ⟨fun z => absurd z (by decide), fun _ => ⟨fun z => absurd z (by decide), fun _ => ⟨fun z => absurd z (by decide), fun _ => ⟨fun z => absurd z (by decide), fun _ => ⟨fun z => absurd z (by decide), fun _ => ⟨fun z => absurd z (by decide), fun _ => ⟨fun z => absurd z (by decide), fun _ => ⟨fun z => absurd z (by decide), fun _ => ⟨fun _ => ⟨_, rfl, k⟩, fun z => absurd rfl z⟩⟩⟩⟩⟩⟩⟩⟩⟩⟩⟩⟩⟩⟩⟩⟩⟩⟩⟩⟩⟩⟩⟩⟩⟩⟩⟩
  · exact v141 hP (nI 27) h ⟨fun z => absurd z (by decide), fun _ => ⟨fun z => absurd z (by decide), fun _ => ⟨fun z => absurd z (by decide), fun _ => ⟨fun z => absurd z (by decide), fun _ => ⟨fun z => absurd z (by decide), fun _ => ⟨fun z => absurd z (by decide), fun _ => ⟨fun z => absurd z (by decide), fun _ => ⟨fun z => absurd z (by decide), fun _ => ⟨fun z => absurd z (by decide), fun _ => ⟨fun z => absurd z (by decide), fun _ => ⟨fun z => absurd z (by decide), fun _ => ⟨fun z => absurd z (by decide), fun _ => ⟨fun z => absurd z (by decide), fun _ => ⟨fun z => absurd z (by decide), fun _ => ⟨fun z => absurd z (by decide), fun _ => ⟨fun z => absurd z (by decide), fun _ => ⟨fun z => absurd z (by decide), fun _ => ⟨fun z => absurd z (by decide), fun _ => ⟨fun z => absurd z (by decide), fun _ => ⟨fun z => absurd z (by decide), fun _ => ⟨fun z => absurd z (by decide), fun _ => ⟨fun z => absurd z (by decide), fun _ => ⟨fun z => absurd z (by decide), fun _ => ⟨fun z => absurd z (by decide), fun _ => ⟨fun z => absurd z (by decide), fun _ => ⟨fun z => absurd z (by decide), fun _ => ⟨fun z => absurd z (by decide), fun _ => ⟨fun _ => ⟨_, rfl, k⟩, fun z => absurd rfl z⟩⟩⟩⟩⟩⟩⟩⟩⟩⟩⟩⟩⟩⟩⟩⟩⟩⟩⟩⟩⟩⟩⟩⟩⟩⟩⟩⟩
  · exact v141 hP (nI 28) h ⟨fun z => absurd z (by decide), fun _ => ⟨fun z => absurd z (by decide), fun _ => ⟨fun z => absurd z (by decide), fun _ => ⟨fun z => absurd z (by decide), fun _ => ⟨fun z => absurd z (by decide), fun _ => ⟨fun z => absurd z (by decide), fun _ => ⟨fun z => absurd z (by decide), fun _ => ⟨fun z => absurd z (by decide), fun _ => ⟨fun z => absurd z (by decide), fun _ => ⟨fun z => absurd z (by decide), fun _ => ⟨fun z => absurd z (by decide), fun _ => ⟨fun z => absurd z (by decide), fun _ => ⟨fun z => absurd z (by decide), fun _ => ⟨fun z => absurd z (by decide), fun _ => ⟨fun z => absurd z (by decide), fun _ => ⟨fun z => absurd z (by decide), fun _ => ⟨fun z => absurd z (by decide), fun _ => ⟨fun z => absurd z (by decide), fun _ => ⟨fun z => absurd z (by decide), fun _ => ⟨fun z => absurd z (by decide), fun _ => ⟨fun z => absurd z (by decide), fun _ => ⟨fun z => absurd z (by decide), fun _ => ⟨fun z => absurd z (by decide), fun _ => ⟨fun z => absurd z (by decide), fun _ => ⟨fun z => absurd z (by decide), fun _ => ⟨fun z => absurd z (by decide), fun _ => ⟨fun z => absurd z (by decide), fun _ => ⟨fun z => absurd z (by decide), fun _ => ⟨fun _ => ⟨_, rfl, k⟩, fun z => absurd rfl z⟩⟩⟩⟩⟩⟩⟩⟩⟩⟩⟩⟩⟩⟩⟩⟩⟩⟩⟩⟩⟩⟩⟩⟩⟩⟩⟩⟩⟩
  · exact v141 hP (nI 29) h ⟨fun z => absurd z (by decide), fun _ => ⟨fun z => absurd z (by decide), fun _ => ⟨fun z => absurd z (by decide), fun _ => ⟨fun z => absurd z (by decide), fun _ => ⟨fun z => absurd z (by decide), fun _ => ⟨fun z => absurd z (by decide), fun _ => ⟨fun z => absurd z (by decide), fun _ => ⟨fun z => absurd z (by decide), fun _ => ⟨fun z => absurd z (by decide), fun _ => ⟨fun z => absurd z (by decide), fun _ => ⟨fun z => absurd z (by decide), fun _ => ⟨fun z => absurd z (by decide), fun _ => ⟨fun z => absurd z (by decide), fun _ => ⟨fun z => absurd z (by decide), fun _ => ⟨fun z => absurd z (by decide), fun _ => ⟨fun z => absurd z (by decide), fun _ => ⟨fun z => absurd z (by decide), fun _ => ⟨fun z => absurd z (by decide), fun _ => ⟨fun z => absurd z (by decide), fun _ => ⟨fun z => absurd z (by decide), fun _ => ⟨fun z => absurd z (by decide), fun _ => ⟨fun z => absurd z (by decide), fun _ => ⟨fun z => absurd z (by decide), fun _ => ⟨fun z => absurd z (by decide), fun _ => ⟨fun z => absurd z (by decide), fun _ => ⟨fun z => absurd z (by decide), fun _ => ⟨fun z => absurd z (by decide), fun _ => ⟨fun z => absurd z (by decide), fun _ => ⟨fun z => absurd z (by decide), fun _ => ⟨fun _ => ⟨_, rfl, k⟩, fun z => absurd rfl z⟩⟩⟩⟩⟩⟩⟩⟩⟩⟩⟩⟩⟩⟩⟩⟩⟩⟩⟩⟩⟩⟩⟩⟩⟩⟩⟩⟩⟩⟩
  · exact v141 hP (nI 30) h ⟨fun z => absurd z (by decide), fun _ => ⟨fun z => absurd z (by decide), fun _ => ⟨fun z => absurd z (by decide), fun _ => ⟨fun z => absurd z (by decide), fun _ => ⟨fun z => absurd z (by decide), fun _ => ⟨fun z => absurd z (by decide), fun _ => ⟨fun z => absurd z (by decide), fun _ => ⟨fun z => absurd z (by decide), fun _ => ⟨fun z => absurd z (by decide), fun _ => ⟨fun z => absurd z (by decide), fun _ => ⟨fun z => absurd z (by decide), fun _ => ⟨fun z => absurd z (by decide), fun _ => ⟨fun z => absurd z (by decide), fun _ => ⟨fun z => absurd z (by decide), fun _ => ⟨fun z => absurd z (by decide), fun _ => ⟨fun z => absurd z (by decide), fun _ => ⟨fun z => absurd z (by decide), fun _ => ⟨fun z => absurd z (by decide), fun _ => ⟨fun z => absurd z (by decide), fun _ => ⟨fun z => absurd z (by decide), fun _ => ⟨fun z => absurd z (by decide), fun _ => ⟨fun z => absurd z (by decide), fun _ => ⟨fun z => absurd z (by decide), fun _ => ⟨fun z => absurd z (by decide), fun _ => ⟨fun z => absurd z (by decide), fun _ => ⟨fun z => absurd z (by decide), fun _ => ⟨fun z => absurd z (by decide), fun _ => ⟨fun z => absurd z (by decide), fun _ => ⟨fun z => absurd z (by decide), fun _ => ⟨fun z => absurd z (by decide), fun _ => ⟨_, rfl, k⟩⟩⟩⟩⟩⟩⟩⟩⟩⟩⟩⟩⟩⟩⟩⟩⟩⟩⟩⟩⟩⟩⟩⟩⟩⟩⟩⟩⟩⟩⟩
def nmbL : List Int64 := [0, 97, 7632751, 499968533861, 1718580594, 1718187621, 7563640]
theorem s143 {d t : Nat} {h : Hp} {K : Int64 → Hp → Prop} (h1 : 1 ≤ t) (h2 : t ≤ 6) (k : K (nmbL.getD t 0) h) : CJ (d + 1) 143 [vI (nI t)] h K := by
  intro P hP
  have hc : t = 1 ∨ t = 2 ∨ t = 3 ∨ t = 4 ∨ t = 5 ∨ t = 6 := by omega
  rcases hc with rfl | rfl | rfl | rfl | rfl | rfl
  · exact v143 hP (nI 1) h ⟨fun _ => ⟨_, rfl, k⟩, fun z => absurd rfl z⟩
  · exact v143 hP (nI 2) h ⟨fun z => absurd z (by decide), fun _ => ⟨fun _ => ⟨_, rfl, k⟩, fun z => absurd rfl z⟩⟩
  · exact v143 hP (nI 3) h ⟨fun z => absurd z (by decide), fun _ => ⟨fun z => absurd z (by decide), fun _ => ⟨fun _ => ⟨_, rfl, k⟩, fun z => absurd rfl z⟩⟩⟩
  · exact v143 hP (nI 4) h ⟨fun z => absurd z (by decide), fun _ => ⟨fun z => absurd z (by decide), fun _ => ⟨fun z => absurd z (by decide), fun _ => ⟨fun _ => ⟨_, rfl, k⟩, fun z => absurd rfl z⟩⟩⟩⟩
  · exact v143 hP (nI 5) h ⟨fun z => absurd z (by decide), fun _ => ⟨fun z => absurd z (by decide), fun _ => ⟨fun z => absurd z (by decide), fun _ => ⟨fun z => absurd z (by decide), fun _ => ⟨fun _ => ⟨_, rfl, k⟩, fun z => absurd rfl z⟩⟩⟩⟩⟩
  · exact v143 hP (nI 6) h ⟨fun z => absurd z (by decide), fun _ => ⟨fun z => absurd z (by decide), fun _ => ⟨fun z => absurd z (by decide), fun _ => ⟨fun z => absurd z (by decide), fun _ => ⟨fun z => absurd z (by decide), fun _ => ⟨_, rfl, k⟩⟩⟩⟩⟩⟩
def attL : List Int64 := [0, 32195270009777780, 31632345876491892, 126879413661300, 7235441203039271269, 427021005669]
theorem s152 {d t : Nat} {h : Hp} {K : Int64 → Hp → Prop} (h1 : 1 ≤ t) (h2 : t ≤ 5) (k : K (attL.getD t 0) h) : CJ (d + 1) 152 [vI (nI t)] h K := by
  intro P hP
  have hc : t = 1 ∨ t = 2 ∨ t = 3 ∨ t = 4 ∨ t = 5 := by omega
  rcases hc with rfl | rfl | rfl | rfl | rfl
  · exact v152 hP (nI 1) h ⟨fun _ => ⟨_, rfl, k⟩, fun z => absurd rfl z⟩
  · exact v152 hP (nI 2) h ⟨fun z => absurd z (by decide), fun _ => ⟨fun _ => ⟨_, rfl, k⟩, fun z => absurd rfl z⟩⟩
  · exact v152 hP (nI 3) h ⟨fun z => absurd z (by decide), fun _ => ⟨fun z => absurd z (by decide), fun _ => ⟨fun _ => ⟨_, rfl, k⟩, fun z => absurd rfl z⟩⟩⟩
  · exact v152 hP (nI 4) h ⟨fun z => absurd z (by decide), fun _ => ⟨fun z => absurd z (by decide), fun _ => ⟨fun z => absurd z (by decide), fun _ => ⟨fun _ => ⟨_, rfl, k⟩, fun z => absurd rfl z⟩⟩⟩⟩
  · exact v152 hP (nI 5) h ⟨fun z => absurd z (by decide), fun _ => ⟨fun z => absurd z (by decide), fun _ => ⟨fun z => absurd z (by decide), fun _ => ⟨fun z => absurd z (by decide), fun _ => ⟨_, rfl, k⟩⟩⟩⟩⟩
def dutL : List Int64 := [418531599716, 27431116075066724, 27991845765014884, 126879329969508, 30787920880100708]
theorem s154 {d t : Nat} {h : Hp} {K : Int64 → Hp → Prop} (h1 : 0 ≤ t) (h2 : t ≤ 4) (k : K (dutL.getD t 0) h) : CJ (d + 1) 154 [vI (nI t)] h K := by
  intro P hP
  have hc : t = 0 ∨ t = 1 ∨ t = 2 ∨ t = 3 ∨ t = 4 := by omega
  rcases hc with rfl | rfl | rfl | rfl | rfl
  · exact v154 hP (nI 0) h ⟨fun _ => ⟨_, rfl, k⟩, fun z => absurd rfl z⟩
  · exact v154 hP (nI 1) h ⟨fun z => absurd z (by decide), fun _ => ⟨fun _ => ⟨_, rfl, k⟩, fun z => absurd rfl z⟩⟩
  · exact v154 hP (nI 2) h ⟨fun z => absurd z (by decide), fun _ => ⟨fun z => absurd z (by decide), fun _ => ⟨fun _ => ⟨_, rfl, k⟩, fun z => absurd rfl z⟩⟩⟩
  · exact v154 hP (nI 3) h ⟨fun z => absurd z (by decide), fun _ => ⟨fun z => absurd z (by decide), fun _ => ⟨fun z => absurd z (by decide), fun _ => ⟨fun _ => ⟨_, rfl, k⟩, fun z => absurd rfl z⟩⟩⟩⟩
  · exact v154 hP (nI 4) h ⟨fun z => absurd z (by decide), fun _ => ⟨fun z => absurd z (by decide), fun _ => ⟨fun z => absurd z (by decide), fun _ => ⟨fun z => absurd z (by decide), fun _ => ⟨_, rfl, k⟩⟩⟩⟩⟩
def prtL : List Int64 := [0, 1885432933, 1717924723, 1650814564, 27980807682551662, 32476740759155301, 8175547842767975020, 1885432953, 422541685369, 422608528505, 109300029683065]
theorem s136 {d t : Nat} {h : Hp} {K : Int64 → Hp → Prop} (h1 : 1 ≤ t) (h2 : t ≤ 10) (k : K (prtL.getD t 0) h) : CJ (d + 1) 136 [vI (nI t)] h K := by
  intro P hP
  have hc : t = 1 ∨ t = 2 ∨ t = 3 ∨ t = 4 ∨ t = 5 ∨ t = 6 ∨ t = 7 ∨ t = 8 ∨ t = 9 ∨ t = 10 := by omega
  rcases hc with rfl | rfl | rfl | rfl | rfl | rfl | rfl | rfl | rfl | rfl
  · exact v136 hP (nI 1) h ⟨fun _ => ⟨_, rfl, k⟩, fun z => absurd rfl z⟩
  · exact v136 hP (nI 2) h ⟨fun z => absurd z (by decide), fun _ => ⟨fun _ => ⟨_, rfl, k⟩, fun z => absurd rfl z⟩⟩
  · exact v136 hP (nI 3) h ⟨fun z => absurd z (by decide), fun _ => ⟨fun z => absurd z (by decide), fun _ => ⟨fun _ => ⟨_, rfl, k⟩, fun z => absurd rfl z⟩⟩⟩
  · exact v136 hP (nI 4) h ⟨fun z => absurd z (by decide), fun _ => ⟨fun z => absurd z (by decide), fun _ => ⟨fun z => absurd z (by decide), fun _ => ⟨fun _ => ⟨_, rfl, k⟩, fun z => absurd rfl z⟩⟩⟩⟩
  · exact v136 hP (nI 5) h ⟨fun z => absurd z (by decide), fun _ => ⟨fun z => absurd z (by decide), fun _ => ⟨fun z => absurd z (by decide), fun _ => ⟨fun z => absurd z (by decide), fun _ => ⟨fun _ => ⟨_, rfl, k⟩, fun z => absurd rfl z⟩⟩⟩⟩⟩
  · exact v136 hP (nI 6) h ⟨fun z => absurd z (by decide), fun _ => ⟨fun z => absurd z (by decide), fun _ => ⟨fun z => absurd z (by decide), fun _ => ⟨fun z => absurd z (by decide), fun _ => ⟨fun z => absurd z (by decide), fun _ => ⟨fun _ => ⟨_, rfl, k⟩, fun z => absurd rfl z⟩⟩⟩⟩⟩⟩
  · exact v136 hP (nI 7) h ⟨fun z => absurd z (by decide), fun _ => ⟨fun z => absurd z (by decide), fun _ => ⟨fun z => absurd z (by decide), fun _ => ⟨fun z => absurd z (by decide), fun _ => ⟨fun z => absurd z (by decide), fun _ => ⟨fun z => absurd z (by decide), fun _ => ⟨fun _ => ⟨_, rfl, k⟩, fun z => absurd rfl z⟩⟩⟩⟩⟩⟩⟩
  · exact v136 hP (nI 8) h ⟨fun z => absurd z (by decide), fun _ => ⟨fun z => absurd z (by decide), fun _ => ⟨fun z => absurd z (by decide), fun _ => ⟨fun z => absurd z (by decide), fun _ => ⟨fun z => absurd z (by decide), fun _ => ⟨fun z => absurd z (by decide), fun _ => ⟨fun z => absurd z (by decide), fun _ => ⟨fun _ => ⟨_, rfl, k⟩, fun z => absurd rfl z⟩⟩⟩⟩⟩⟩⟩⟩
  · exact v136 hP (nI 9) h ⟨fun z => absurd z (by decide), fun _ => ⟨fun z => absurd z (by decide), fun _ => ⟨fun z => absurd z (by decide), fun _ => ⟨fun z => absurd z (by decide), fun _ => ⟨fun z => absurd z (by decide), fun _ => ⟨fun z => absurd z (by decide), fun _ => ⟨fun z => absurd z (by decide), fun _ => ⟨fun z => absurd z (by decide), fun _ => ⟨fun _ => ⟨_, rfl, k⟩, fun z => absurd rfl z⟩⟩⟩⟩⟩⟩⟩⟩⟩
  · exact v136 hP (nI 10) h ⟨fun z => absurd z (by decide), fun _ => ⟨fun z => absurd z (by decide), fun _ => ⟨fun z => absurd z (by decide), fun _ => ⟨fun z => absurd z (by decide), fun _ => ⟨fun z => absurd z (by decide), fun _ => ⟨fun z => absurd z (by decide), fun _ => ⟨fun z => absurd z (by decide), fun _ => ⟨fun z => absurd z (by decide), fun _ => ⟨fun z => absurd z (by decide), fun _ => ⟨_, rfl, k⟩⟩⟩⟩⟩⟩⟩⟩⟩⟩
def mrkL : List Int32 := [30, 25, 24, 20, 26, 22, 21]
theorem s140 {d t : Nat} {h : Hp} {K : Int32 → Hp → Prop} (h1 : 0 ≤ t) (h2 : t ≤ 6) (k : K (mrkL.getD t 0) h) : CI (d + 1) 140 [vI (nI t)] h K := by
  intro P hP
  have hc : t = 0 ∨ t = 1 ∨ t = 2 ∨ t = 3 ∨ t = 4 ∨ t = 5 ∨ t = 6 := by omega
  rcases hc with rfl | rfl | rfl | rfl | rfl | rfl | rfl
  · exact v140 hP (nI 0) h ⟨fun _ => ⟨_, rfl, k⟩, fun z => absurd rfl z⟩
  · exact v140 hP (nI 1) h ⟨fun z => absurd z (by decide), fun _ => ⟨fun _ => ⟨_, rfl, k⟩, fun z => absurd rfl z⟩⟩
  · exact v140 hP (nI 2) h ⟨fun z => absurd z (by decide), fun _ => ⟨fun z => absurd z (by decide), fun _ => ⟨fun _ => ⟨_, rfl, k⟩, fun z => absurd rfl z⟩⟩⟩
  · exact v140 hP (nI 3) h ⟨fun z => absurd z (by decide), fun _ => ⟨fun z => absurd z (by decide), fun _ => ⟨fun z => absurd z (by decide), fun _ => ⟨fun _ => ⟨_, rfl, k⟩, fun z => absurd rfl z⟩⟩⟩⟩
  · exact v140 hP (nI 4) h ⟨fun z => absurd z (by decide), fun _ => ⟨fun z => absurd z (by decide), fun _ => ⟨fun z => absurd z (by decide), fun _ => ⟨fun z => absurd z (by decide), fun _ => ⟨fun _ => ⟨_, rfl, k⟩, fun z => absurd rfl z⟩⟩⟩⟩⟩
  · exact v140 hP (nI 5) h ⟨fun z => absurd z (by decide), fun _ => ⟨fun z => absurd z (by decide), fun _ => ⟨fun z => absurd z (by decide), fun _ => ⟨fun z => absurd z (by decide), fun _ => ⟨fun z => absurd z (by decide), fun _ => ⟨fun _ => ⟨_, rfl, k⟩, fun z => absurd rfl z⟩⟩⟩⟩⟩⟩
  · exact v140 hP (nI 6) h ⟨fun z => absurd z (by decide), fun _ => ⟨fun z => absurd z (by decide), fun _ => ⟨fun z => absurd z (by decide), fun _ => ⟨fun z => absurd z (by decide), fun _ => ⟨fun z => absurd z (by decide), fun _ => ⟨fun z => absurd z (by decide), fun _ => ⟨_, rfl, k⟩⟩⟩⟩⟩⟩⟩
theorem tin_w : (List.range 9).all (fun t => isW t (tinL.getD t 0)) = true := by decide +kernel
theorem kin_w : (List.range 31).all (fun t => isW (9 + t) (kinL.getD t 0)) = true := by decide +kernel
theorem nmb_w : (List.range 6).all (fun t => isW (54 + t) (nmbL.getD (t + 1) 0)) = true := by decide +kernel
theorem dut_w : (List.range 5).all (fun t => isW (65 + t) (dutL.getD t 0)) = true := by decide +kernel
theorem all_r {f : Nat → Bool} {n t : Nat} (h : (List.range n).all f = true) (ht : t < n) : f t = true := List.all_eq_true.mp h t (List.mem_range.mpr ht)
/-- the tincture, the kind, the number that a code names -/
def tiS (c : Nat) : Int32 := if c < 9 then nI c else -1
def kiS (c : Nat) : Int32 := if 9 ≤ c ∧ c < 40 then nI (c - 9) else -1
def mnS (c : Nat) : Int32 := if 54 ≤ c ∧ c < 60 then nI (c - 53) else 0
theorem rt131 {d o a n p : Nat} {tx : Nat → Int32} {h : Hp} {Q : Option AV → Hp → Prop} {P : Nat → List AV → List AV → Hp → Prop} (hP : Cl (Call (d + 1)) 131 Q P) (R : RtAt h o a n tx p) (kk : Q (some (vI (tiS (kd tx n p)))) h) : ∀ k t, t + k = 9 → t ≤ kd tx n p → P 2 [vR 11 (some o), vI (nI t)] [] h
  | 0, t, ht, hc => by
    refine v131_2 hP o (nI t) h ⟨fun _ => ?_, fun c => absurd (nI_le (a := 9) (by omega) (by omega)) c⟩
    unfold tiS at kk
    rw [if_neg (by omega)] at kk
    exact kk
  | k + 1, t, ht, hc => by
    refine v131_2 hP o (nI t) h ⟨fun c => absurd c (nI_ge (b := 9) (by omega) (by omega)), fun _ => s132 (by omega) (by omega) (s133 R (all_r tin_w (by omega)) ⟨fun c => ?_, fun c => ?_⟩)⟩
    · have c := bi0.mp c
      rw [nI_1]
      exact rt131 hP R kk k (t + 1) (by omega) (by omega)
    · have c : kd tx n p = t := Classical.not_not.mp (fun y => c (bi0.mpr y))
      unfold tiS at kk
      rw [if_pos (by omega), c] at kk
      exact kk
theorem s131 {d o a n p : Nat} {tx : Nat → Int32} {h : Hp} {K : Int32 → Hp → Prop} (R : RtAt h o a n tx p) (k : K (tiS (kd tx n p)) h) : CI (d + 2) 131 [vR 11 (some o)] h K := fun P hP => v131 hP o h (rt131 (t := 0) hP R ⟨_, rfl, k⟩ 9 rfl (Nat.zero_le _))
theorem rt144 {d o a n p : Nat} {tx : Nat → Int32} {h : Hp} {Q : Option AV → Hp → Prop} {P : Nat → List AV → List AV → Hp → Prop} (hP : Cl (Call (d + 1)) 144 Q P) (R : RtAt h o a n tx p) (kk : Q (some (vI (kiS (kd tx n p)))) h) : ∀ k t, t + k = 31 → (9 ≤ kd tx n p → 9 + t ≤ kd tx n p) → P 2 [vR 11 (some o), vI (nI t)] [] h
  | 0, t, ht, hc => by
    refine v144_2 hP o (nI t) h ⟨fun _ => ?_, fun c => absurd (nI_lt (a := 30) (by omega) (by omega)) c⟩
    unfold kiS at kk
    rw [if_neg (by omega)] at kk
    exact kk
  | k + 1, t, ht, hc => by
    refine v144_2 hP o (nI t) h ⟨fun c => absurd c (nI_nlt (a := 30) (by omega) (by omega)), fun _ => s141 (by omega) (by omega) (s133 R (all_r kin_w (by omega)) ⟨fun c => ?_, fun c => ?_⟩)⟩
    · have c := bi0.mp c
      rw [nI_1]
      exact rt144 hP R kk k (t + 1) (by omega) (by omega)
    · have c : kd tx n p = 9 + t := Classical.not_not.mp (fun y => c (bi0.mpr y))
      unfold kiS at kk
      rw [if_pos (by omega), c, show 9 + t - 9 = t by omega] at kk
      exact kk
theorem s144 {d o a n p : Nat} {tx : Nat → Int32} {h : Hp} {K : Int32 → Hp → Prop} (R : RtAt h o a n tx p) (k : K (kiS (kd tx n p)) h) : CI (d + 2) 144 [vR 11 (some o)] h K := fun P hP => v144 hP o h (rt144 (t := 0) hP R ⟨_, rfl, k⟩ 31 rfl (fun z => z))
theorem rt142 {d o a n p : Nat} {tx : Nat → Int32} {h : Hp} {Q : Option AV → Hp → Prop} {P : Nat → List AV → List AV → Hp → Prop} (hP : Cl (Call (d + 1)) 142 Q P) (R : RtAt h o a n tx p) (kk : Q (some (vI (mnS (kd tx n p)))) h) : ∀ k t, t + k = 6 → (54 ≤ kd tx n p → 54 + t ≤ kd tx n p) → P 2 [vR 11 (some o), vI (nI (t + 1))] [] h
  | 0, t, ht, hc => by
    refine v142_2 hP o (nI (t + 1)) h ⟨fun _ => ?_, fun c => absurd (nI_lt (a := 6) (by omega) (by omega)) c⟩
    unfold mnS at kk
    rw [if_neg (by omega)] at kk
    exact kk
  | k + 1, t, ht, hc => by
    refine v142_2 hP o (nI (t + 1)) h ⟨fun c => absurd c (nI_nlt (a := 6) (by omega) (by omega)), fun _ => s143 (by omega) (by omega) (s133 R (all_r nmb_w (by omega)) ⟨fun c => ?_, fun c => ?_⟩)⟩
    · have c := bi0.mp c
      rw [nI_1]
      exact rt142 hP R kk k (t + 1) (by omega) (by omega)
    · have c : kd tx n p = 54 + t := Classical.not_not.mp (fun y => c (bi0.mpr y))
      unfold mnS at kk
      rw [if_pos (by omega), c, show 54 + t - 53 = t + 1 by omega] at kk
      exact kk
theorem s142 {d o a n p : Nat} {tx : Nat → Int32} {h : Hp} {K : Int32 → Hp → Prop} (R : RtAt h o a n tx p) (k : K (mnS (kd tx n p)) h) : CI (d + 2) 142 [vR 11 (some o)] h K := fun P hP => v142 hP o h (rt142 (t := 0) hP R ⟨_, rfl, k⟩ 6 rfl (fun z => z))
/-- takesTincture() -/
theorem s130 {d o a n p : Nat} {tx : Nat → Int32} {H h : Hp} {K : Int32 → Hp → Prop} (R : RtN H h o a n tx p) (k0 : ¬ kd tx n p < 9 → K (-1) h) (k1 : kd tx n p < 9 → ∀ h', RtN H h' o a n tx (np tx n p) → K (nI (kd tx n p)) h') : CI (d + 3) 130 [vR 11 (some o)] h K := by
  intro P hP
  refine v130 hP o h (s131 R.2 ?_)
  unfold tiS
  by_cases z : kd tx n p < 9
  · rw [if_pos z]
    exact ⟨fun c => absurd c (nI_m1 (by omega)), fun _ => s125n R (fun h' R' => ⟨_, rfl, k1 z h' R'⟩)⟩
  · rw [if_neg z]
    exact ⟨fun _ => ⟨_, rfl, k0 z⟩, fun c => absurd rfl c⟩
/-- isMany(k) -/
theorem s147 {d o a n p t : Nat} {tx : Nat → Int32} {h : Hp} {K : Int32 → Hp → Prop} (R : RtAt h o a n tx p) (h1 : 16 ≤ t) (h2 : t ≤ 29) (k : K (bi (decide (kd tx n p = 24 + t))) h) : CI (d + 2) 147 [vR 11 (some o), vI (nI t)] h K := by
  intro P hP
  refine v147 hP o (nI t) h ⟨fun c0 => ?_, fun c0 => ⟨_, rfl, ?_⟩⟩
  · have hc : t = 16 ∨ t = 17 ∨ t = 18 ∨ t = 19 ∨ t = 20 ∨ t = 21 ∨ t = 22 ∨ t = 23 ∨ t = 24 ∨ t = 25 ∨ t = 26 ∨ t = 27 ∨ t = 28 ∨ t = 29 := by omega
    have nar : ∀ b : Bool, narrow .boolean (.int (bi b)) = .int (bi b) := by decide
    rcases hc with rfl | rfl | rfl | rfl | rfl | rfl | rfl | rfl | rfl | rfl | rfl | rfl | rfl | rfl
    · exact ⟨fun _ => s141 (by omega) (by omega) ⟨fun z => absurd (by decide +kernel) z, fun _ => s133 (i := 40) R (by decide +kernel) ⟨nar _, _, rfl, k⟩⟩, fun z => absurd (by decide) z⟩
    · exact ⟨fun _ => s141 (by omega) (by omega) ⟨fun z => absurd (by decide +kernel) z, fun _ => s133 (i := 41) R (by decide +kernel) ⟨nar _, _, rfl, k⟩⟩, fun z => absurd (by decide) z⟩
    · exact ⟨fun _ => s141 (by omega) (by omega) ⟨fun z => absurd (by decide +kernel) z, fun _ => s133 (i := 42) R (by decide +kernel) ⟨nar _, _, rfl, k⟩⟩, fun z => absurd (by decide) z⟩
    · exact ⟨fun _ => s141 (by omega) (by omega) ⟨fun z => absurd (by decide +kernel) z, fun _ => s133 (i := 43) R (by decide +kernel) ⟨nar _, _, rfl, k⟩⟩, fun z => absurd (by decide) z⟩
    · exact ⟨fun _ => s141 (by omega) (by omega) ⟨fun z => absurd (by decide +kernel) z, fun _ => s133 (i := 44) R (by decide +kernel) ⟨nar _, _, rfl, k⟩⟩, fun z => absurd (by decide) z⟩
    · exact ⟨fun _ => s141 (by omega) (by omega) ⟨fun z => absurd (by decide +kernel) z, fun _ => s133 (i := 45) R (by decide +kernel) ⟨nar _, _, rfl, k⟩⟩, fun z => absurd (by decide) z⟩
    · exact ⟨fun z => absurd rfl z, fun _ => s133 (i := 46) R (by decide +kernel) ⟨nar _, _, rfl, k⟩⟩
    · exact ⟨fun _ => s141 (by omega) (by omega) ⟨fun z => absurd (by decide +kernel) z, fun _ => s133 (i := 47) R (by decide +kernel) ⟨nar _, _, rfl, k⟩⟩, fun z => absurd (by decide) z⟩
    · exact ⟨fun _ => s141 (by omega) (by omega) ⟨fun z => absurd (by decide +kernel) z, fun _ => s133 (i := 48) R (by decide +kernel) ⟨nar _, _, rfl, k⟩⟩, fun z => absurd (by decide) z⟩
    · have hw := rt_word (i := 49) R (by decide)
      rw [show hdW (VOC.getD 49 []) = kinL.getD 25 0 by decide +kernel, show tlW (VOC.getD 49 []) = 115 by decide +kernel] at hw
      refine ⟨fun _ => s141 (by omega) (by omega) ⟨fun _ => ⟨fun c => ⟨_, rfl, ?_⟩, fun c => ⟨fun c2 => ⟨_, rfl, ?_⟩, fun c2 => ⟨_, rfl, ?_⟩⟩⟩, fun z => absurd (by decide +kernel) z⟩, fun z => absurd (by decide) z⟩
      · rw [decide_eq_false (fun z => c ((lg_cmp_eq _ _).mpr (hw.mpr z).2.1))] at k; exact k
      · rw [decide_eq_false (fun z => c2 ((lg_cmp_eq _ _).mpr (hw.mpr z).2.2))] at k; exact k
      · rw [decide_eq_true (hw.mp ⟨c0, (lg_cmp_eq _ _).mp (Classical.not_not.mp c), (lg_cmp_eq _ _).mp (Classical.not_not.mp c2)⟩)] at k; exact k
    · exact ⟨fun _ => s141 (by omega) (by omega) ⟨fun z => absurd (by decide +kernel) z, fun _ => s133 (i := 50) R (by decide +kernel) ⟨nar _, _, rfl, k⟩⟩, fun z => absurd (by decide) z⟩
    · exact ⟨fun _ => s141 (by omega) (by omega) ⟨fun z => absurd (by decide +kernel) z, fun _ => s133 (i := 51) R (by decide +kernel) ⟨nar _, _, rfl, k⟩⟩, fun z => absurd (by decide) z⟩
    · exact ⟨fun _ => s141 (by omega) (by omega) ⟨fun z => absurd (by decide +kernel) z, fun _ => s133 (i := 52) R (by decide +kernel) ⟨nar _, _, rfl, k⟩⟩, fun z => absurd (by decide) z⟩
    · exact ⟨fun _ => s141 (by omega) (by omega) ⟨fun z => absurd (by decide +kernel) z, fun _ => s133 (i := 53) R (by decide +kernel) ⟨nar _, _, rfl, k⟩⟩, fun z => absurd (by decide) z⟩
  · have hw := rt_word (i := 24 + t) R (by omega)
    rw [decide_eq_false (fun z => c0 (hw.mpr z).1)] at k
    exact k
/-- the charge named: in the singular for 1, else in the plural -/
def chS (m c : Nat) : Int32 := if m = 1 then (if 25 ≤ c ∧ c < 39 then nI (c - 9) else -1) else (if 40 ≤ c ∧ c < 54 then nI (c - 24) else -1)
theorem rt146 {d o a n p m : Nat} {tx : Nat → Int32} {h : Hp} {Q : Option AV → Hp → Prop} {P : Nat → List AV → List AV → Hp → Prop} (hP : Cl (Call (d + 2)) 146 Q P) (R : RtAt h o a n tx p) (hm : m < 2 ^ 20) (kk : Q (some (vI (chS m (kd tx n p)))) h) : ∀ k t, t + k = 30 → 16 ≤ t → (if m = 1 then 25 ≤ kd tx n p → 9 + t ≤ kd tx n p else 40 ≤ kd tx n p → 24 + t ≤ kd tx n p) → P 3 [vR 11 (some o), vI (nI m), vI (nI t)] [] h
  | 0, t, ht, h16, hc => by
    refine v146_3 hP o (nI m) (nI t) h ⟨fun _ => ?_, fun c => absurd (nI_le (a := 30) (by omega) (by omega)) c⟩
    unfold chS at kk
    by_cases z : m = 1
    · rw [if_pos z] at hc kk
      rw [if_neg (by omega)] at kk
      exact kk
    · rw [if_neg z] at hc kk
      rw [if_neg (by omega)] at kk
      exact kk
  | k + 1, t, ht, h16, hc => by
    refine v146_3 hP o (nI m) (nI t) h ⟨fun c => absurd c (nI_ge (b := 30) (by omega) (by omega)), fun _ => ⟨fun c1 => ?_, fun c1 => ?_⟩⟩
    · have z : ¬ m = 1 := fun y => c1 (by rw [y]; rfl)
      have hc0 := hc
      rw [if_neg z] at hc
      refine s147 R h16 (by omega) ⟨fun c => ?_, fun c => ?_⟩
      · have c := bi0.mp c
        rw [nI_1]
        exact rt146 hP R hm kk k (t + 1) (by omega) (by omega) (by rw [if_neg z]; omega)
      · have c : kd tx n p = 24 + t := Classical.not_not.mp (fun y => c (bi0.mpr y))
        unfold chS at kk
        rw [if_neg z, if_pos (by omega), c, show 24 + t - 24 = t by omega] at kk
        exact kk
    · have z : m = 1 := (nI_eq (a := m) (b := 1) (by omega) (by decide)).mp (Classical.not_not.mp c1)
      rw [if_pos z] at hc
      refine s141 (by omega) (by omega) (s133 R (all_r kin_w (by omega)) ⟨fun c => ?_, fun c => ?_⟩)
      · have c := bi0.mp c
        rw [nI_1]
        exact rt146 hP R hm kk k (t + 1) (by omega) (by omega) (by rw [if_pos z]; omega)
      · have c : kd tx n p = 9 + t := Classical.not_not.mp (fun y => c (bi0.mpr y))
        unfold chS at kk
        rw [if_pos z, if_pos (by omega), c, show 9 + t - 9 = t by omega] at kk
        exact kk
theorem s146 {d o a n p m : Nat} {tx : Nat → Int32} {h : Hp} {K : Int32 → Hp → Prop} (R : RtAt h o a n tx p) (hm : m < 2 ^ 20) (k : K (chS m (kd tx n p)) h) : CI (d + 3) 146 [vR 11 (some o), vI (nI m)] h K := fun P hP => v146 hP o (nI m) h (rt146 (t := 16) hP R hm ⟨_, rfl, k⟩ 14 rfl (by decide) (by split <;> intro z <;> omega))
theorem s151 {d o a n p t : Nat} {tx : Nat → Int32} {h : Hp} {K : Int32 → Hp → Prop} (R : RtAt h o a n tx p) (h1 : 1 ≤ t) (h2 : t ≤ 5) (k : K (bi (decide (kd tx n p = 59 + t))) h) : CI (d + 2) 151 [vR 11 (some o), vI (nI t)] h K := by
  intro P hP
  have nar : ∀ b : Bool, narrow .boolean (.int (bi b)) = .int (bi b) := by decide
  have hc : t = 1 ∨ t = 2 ∨ t = 3 ∨ t = 4 ∨ t = 5 := by omega
  rcases hc with rfl | rfl | rfl | rfl | rfl
  · exact v151 hP o (nI 1) h ⟨fun _ => s152 (by omega) (by omega) (s133 (i := 60) R (by decide +kernel) ⟨nar _, _, rfl, k⟩), fun z => absurd (by decide) z⟩
  · exact v151 hP o (nI 2) h ⟨fun _ => s152 (by omega) (by omega) (s133 (i := 61) R (by decide +kernel) ⟨nar _, _, rfl, k⟩), fun z => absurd (by decide) z⟩
  · exact v151 hP o (nI 3) h ⟨fun _ => s152 (by omega) (by omega) (s133 (i := 62) R (by decide +kernel) ⟨nar _, _, rfl, k⟩), fun z => absurd (by decide) z⟩
  · have hw := rt_word (i := 63) R (by decide)
    rw [show hdW (VOC.getD 63 []) = attL.getD 4 0 by decide +kernel, show tlW (VOC.getD 63 []) = 100 by decide +kernel] at hw
    have k : K (bi (decide (kd tx n p = 63))) h := k
    refine v151 hP o (nI 4) h ⟨fun z => absurd rfl z, fun _ => ⟨fun c0 => ⟨_, rfl, ?_⟩, fun c0 => s152 (t := 4) (by omega) (by omega) ⟨fun c => ⟨_, rfl, ?_⟩, fun c => ⟨fun c2 => ⟨_, rfl, ?_⟩, fun c2 => ⟨_, rfl, ?_⟩⟩⟩⟩⟩
    · rw [decide_eq_false (fun z => c0 (hw.mpr z).1)] at k; exact k
    · rw [decide_eq_false (fun z => c ((lg_cmp_eq _ _).mpr (hw.mpr z).2.1))] at k; exact k
    · rw [decide_eq_false (fun z => c2 ((lg_cmp_eq _ _).mpr (hw.mpr z).2.2))] at k; exact k
    · rw [decide_eq_true (hw.mp ⟨Classical.not_not.mp c0, (lg_cmp_eq _ _).mp (Classical.not_not.mp c), (lg_cmp_eq _ _).mp (Classical.not_not.mp c2)⟩)] at k; exact k
  · exact v151 hP o (nI 5) h ⟨fun _ => s152 (by omega) (by omega) (s133 (i := 64) R (by decide +kernel) ⟨nar _, _, rfl, k⟩), fun z => absurd (by decide) z⟩
def paC (t : Nat) : Nat := [0, 17, 18, 19, 20, 22, 71, 72, 73, 74, 75].getD t 0
theorem s135 {d o a n p t : Nat} {tx : Nat → Int32} {h : Hp} {K : Int32 → Hp → Prop} (R : RtAt h o a n tx p) (h1 : 1 ≤ t) (h2 : t ≤ 10) (k : K (bi (decide (kd tx n p = paC t))) h) : CI (d + 2) 135 [vR 11 (some o), vI (nI t)] h K := by
  intro P hP
  have nar : ∀ b : Bool, narrow .boolean (.int (bi b)) = .int (bi b) := by decide
  have hc : t = 1 ∨ t = 2 ∨ t = 3 ∨ t = 4 ∨ t = 5 ∨ t = 6 ∨ t = 7 ∨ t = 8 ∨ t = 9 ∨ t = 10 := by omega
  rcases hc with rfl | rfl | rfl | rfl | rfl | rfl | rfl | rfl | rfl | rfl
  · exact v135 hP o (nI 1) h ⟨fun _ => s136 (by omega) (by omega) (s133 (i := 17) R (by decide +kernel) ⟨nar _, _, rfl, k⟩), fun z => absurd (by decide) z⟩
  · exact v135 hP o (nI 2) h ⟨fun _ => s136 (by omega) (by omega) (s133 (i := 18) R (by decide +kernel) ⟨nar _, _, rfl, k⟩), fun z => absurd (by decide) z⟩
  · exact v135 hP o (nI 3) h ⟨fun _ => s136 (by omega) (by omega) (s133 (i := 19) R (by decide +kernel) ⟨nar _, _, rfl, k⟩), fun z => absurd (by decide) z⟩
  · exact v135 hP o (nI 4) h ⟨fun _ => s136 (by omega) (by omega) (s133 (i := 20) R (by decide +kernel) ⟨nar _, _, rfl, k⟩), fun z => absurd (by decide) z⟩
  · exact v135 hP o (nI 5) h ⟨fun _ => s136 (by omega) (by omega) (s133 (i := 22) R (by decide +kernel) ⟨nar _, _, rfl, k⟩), fun z => absurd (by decide) z⟩
  · have hw := rt_word (i := 71) R (by decide)
    rw [show hdW (VOC.getD 71 []) = prtL.getD 6 0 by decide +kernel, show tlW (VOC.getD 71 []) = 121 by decide +kernel] at hw
    have k : K (bi (decide (kd tx n p = 71))) h := k
    refine v135 hP o (nI 6) h ⟨fun z => absurd rfl z, fun _ => ⟨fun c0 => ⟨_, rfl, ?_⟩, fun c0 => s136 (t := 6) (by omega) (by omega) ⟨fun c => ⟨_, rfl, ?_⟩, fun c => ⟨fun c2 => ⟨_, rfl, ?_⟩, fun c2 => ⟨_, rfl, ?_⟩⟩⟩⟩⟩
    · rw [decide_eq_false (fun z => c0 (hw.mpr z).1)] at k; exact k
    · rw [decide_eq_false (fun z => c ((lg_cmp_eq _ _).mpr (hw.mpr z).2.1))] at k; exact k
    · rw [decide_eq_false (fun z => c2 ((lg_cmp_eq _ _).mpr (hw.mpr z).2.2))] at k; exact k
    · rw [decide_eq_true (hw.mp ⟨Classical.not_not.mp c0, (lg_cmp_eq _ _).mp (Classical.not_not.mp c), (lg_cmp_eq _ _).mp (Classical.not_not.mp c2)⟩)] at k; exact k
  · exact v135 hP o (nI 7) h ⟨fun _ => s136 (by omega) (by omega) (s133 (i := 72) R (by decide +kernel) ⟨nar _, _, rfl, k⟩), fun z => absurd (by decide) z⟩
  · exact v135 hP o (nI 8) h ⟨fun _ => s136 (by omega) (by omega) (s133 (i := 73) R (by decide +kernel) ⟨nar _, _, rfl, k⟩), fun z => absurd (by decide) z⟩
  · exact v135 hP o (nI 9) h ⟨fun _ => s136 (by omega) (by omega) (s133 (i := 74) R (by decide +kernel) ⟨nar _, _, rfl, k⟩), fun z => absurd (by decide) z⟩
  · exact v135 hP o (nI 10) h ⟨fun _ => s136 (by omega) (by omega) (s133 (i := 75) R (by decide +kernel) ⟨nar _, _, rfl, k⟩), fun z => absurd (by decide) z⟩
