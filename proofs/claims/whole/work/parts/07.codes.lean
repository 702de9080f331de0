def ilen : Instr → Nat
  | .iload _ | .lload _ | .aload _ | .istore _ | .lstore _ | .astore _ | .bipush _ | .ldc _ | .newarray _ => 2
  | .sipush _ | .ldc_w _ | .ldc2_w _ | .iinc _ _ | .ifCond _ _ | .if_icmp _ _ | .if_acmp _ _ | .ifnull _ | .ifnonnull _ | .goto _ | .getfield _ | .putfield _ | .getstatic _ | .putstatic _ | .invokevirtual _ | .invokestatic _ | .invokespecial _ | .new _ | .anewarray _ | .checkcast _ | .instanceof _ => 3
  | _ => 1
/-- an instruction stands where the list says; switches are whole; a final field is put in its own class's constructor alone -/
def chkD (y : Nat) (q : Nat × Instr) : Bool := match decode (mBy y) q.1 with
  | .ok (i, n) => decide (i = q.2) && (match q.2 with
    | .tableswitch _ lo hi os => decide (lo + os.size = hi + 1) && decide (-2147483648 ≤ lo) && decide (hi < 2147483648)
    | .lookupswitch _ os => os.toList.all (fun p => decide (-2147483648 ≤ p.1) && decide (p.1 < 2147483648)) && (os.toList.zip (os.toList.drop 1)).all (fun (a, next) => decide (a.1 < next.1))
    | .putfield idx => Nat.beq n 3 && (match fld (mOw y) idx with
      | some (t, k, ns) => !(TRs t k).2.2.2 || (Nat.beq (mKi y) 2 && Nat.beq ns 0 && decide ((TRs t k).1 = cnm (mOw y)))
      | none => true)
    | i => Nat.beq n (ilen i))
  | _ => false
set_option maxRecDepth 100000 in
theorem dk0 : (mCo 0).all (chkD 0) = true := by decide +kernel
set_option maxRecDepth 100000 in
theorem dk1 : (mCo 1).all (chkD 1) = true := by decide +kernel
set_option maxRecDepth 100000 in
theorem dk2 : (mCo 2).all (chkD 2) = true := by decide +kernel
set_option maxRecDepth 100000 in
theorem dk3 : (mCo 3).all (chkD 3) = true := by decide +kernel
set_option maxRecDepth 100000 in
theorem dk4 : (mCo 4).all (chkD 4) = true := by decide +kernel
set_option maxRecDepth 100000 in
theorem dk5 : (mCo 5).all (chkD 5) = true := by decide +kernel
set_option maxRecDepth 100000 in
theorem dk6 : (mCo 6).all (chkD 6) = true := by decide +kernel
set_option maxRecDepth 100000 in
theorem dk7 : (mCo 7).all (chkD 7) = true := by decide +kernel
set_option maxRecDepth 100000 in
theorem dk8 : (mCo 8).all (chkD 8) = true := by decide +kernel
set_option maxRecDepth 100000 in
theorem dk9 : (mCo 9).all (chkD 9) = true := by decide +kernel
set_option maxRecDepth 100000 in
theorem dk10 : (mCo 10).all (chkD 10) = true := by decide +kernel
set_option maxRecDepth 100000 in
theorem dk11 : (mCo 11).all (chkD 11) = true := by decide +kernel
set_option maxRecDepth 100000 in
theorem dk12 : (mCo 12).all (chkD 12) = true := by decide +kernel
set_option maxRecDepth 100000 in
theorem dk13 : (mCo 13).all (chkD 13) = true := by decide +kernel
set_option maxRecDepth 100000 in
theorem dk14 : (mCo 14).all (chkD 14) = true := by decide +kernel
set_option maxRecDepth 100000 in
theorem dk15 : (mCo 15).all (chkD 15) = true := by decide +kernel
set_option maxRecDepth 100000 in
theorem dk16 : (mCo 16).all (chkD 16) = true := by decide +kernel
set_option maxRecDepth 100000 in
theorem dk17 : (mCo 17).all (chkD 17) = true := by decide +kernel
set_option maxRecDepth 100000 in
theorem dk18 : (mCo 18).all (chkD 18) = true := by decide +kernel
set_option maxRecDepth 100000 in
theorem dk19 : (mCo 19).all (chkD 19) = true := by decide +kernel
set_option maxRecDepth 100000 in
theorem dk20 : (mCo 20).all (chkD 20) = true := by decide +kernel
set_option maxRecDepth 100000 in
theorem dk21 : (mCo 21).all (chkD 21) = true := by decide +kernel
set_option maxRecDepth 100000 in
theorem dk22 : (mCo 22).all (chkD 22) = true := by decide +kernel
set_option maxRecDepth 100000 in
theorem dk23 : (mCo 23).all (chkD 23) = true := by decide +kernel
set_option maxRecDepth 100000 in
theorem dk24 : (mCo 24).all (chkD 24) = true := by decide +kernel
set_option maxRecDepth 100000 in
theorem dk25 : (mCo 25).all (chkD 25) = true := by decide +kernel
set_option maxRecDepth 100000 in
theorem dk26 : (mCo 26).all (chkD 26) = true := by decide +kernel
set_option maxRecDepth 100000 in
theorem dk27 : (mCo 27).all (chkD 27) = true := by decide +kernel
set_option maxRecDepth 100000 in
theorem dk28 : (mCo 28).all (chkD 28) = true := by decide +kernel
set_option maxRecDepth 100000 in
theorem dk29 : (mCo 29).all (chkD 29) = true := by decide +kernel
set_option maxRecDepth 100000 in
theorem dk30 : (mCo 30).all (chkD 30) = true := by decide +kernel
set_option maxRecDepth 100000 in
theorem dk31 : (mCo 31).all (chkD 31) = true := by decide +kernel
set_option maxRecDepth 100000 in
theorem dk32 : (mCo 32).all (chkD 32) = true := by decide +kernel
set_option maxRecDepth 100000 in
theorem dk33 : (mCo 33).all (chkD 33) = true := by decide +kernel
set_option maxRecDepth 100000 in
theorem dk34 : (mCo 34).all (chkD 34) = true := by decide +kernel
set_option maxRecDepth 100000 in
theorem dk35 : (mCo 35).all (chkD 35) = true := by decide +kernel
set_option maxRecDepth 100000 in
theorem dk36 : (mCo 36).all (chkD 36) = true := by decide +kernel
set_option maxRecDepth 100000 in
theorem dk37 : (mCo 37).all (chkD 37) = true := by decide +kernel
set_option maxRecDepth 100000 in
theorem dk38 : (mCo 38).all (chkD 38) = true := by decide +kernel
set_option maxRecDepth 100000 in
theorem dk39 : (mCo 39).all (chkD 39) = true := by decide +kernel
set_option maxRecDepth 100000 in
theorem dk40 : (mCo 40).all (chkD 40) = true := by decide +kernel
set_option maxRecDepth 100000 in
theorem dk41 : (mCo 41).all (chkD 41) = true := by decide +kernel
set_option maxRecDepth 100000 in
theorem dk42 : (mCo 42).all (chkD 42) = true := by decide +kernel
set_option maxRecDepth 100000 in
theorem dk43 : (mCo 43).all (chkD 43) = true := by decide +kernel
set_option maxRecDepth 100000 in
theorem dk44 : (mCo 44).all (chkD 44) = true := by decide +kernel
set_option maxRecDepth 100000 in
theorem dk45 : (mCo 45).all (chkD 45) = true := by decide +kernel
set_option maxRecDepth 100000 in
theorem dk46 : (mCo 46).all (chkD 46) = true := by decide +kernel
set_option maxRecDepth 100000 in
theorem dk47 : (mCo 47).all (chkD 47) = true := by decide +kernel
set_option maxRecDepth 100000 in
theorem dk48 : (mCo 48).all (chkD 48) = true := by decide +kernel
set_option maxRecDepth 100000 in
theorem dk49 : (mCo 49).all (chkD 49) = true := by decide +kernel
set_option maxRecDepth 100000 in
theorem dk50 : (mCo 50).all (chkD 50) = true := by decide +kernel
set_option maxRecDepth 100000 in
theorem dk51 : (mCo 51).all (chkD 51) = true := by decide +kernel
set_option maxRecDepth 100000 in
theorem dk52 : (mCo 52).all (chkD 52) = true := by decide +kernel
set_option maxRecDepth 100000 in
theorem dk53 : (mCo 53).all (chkD 53) = true := by decide +kernel
set_option maxRecDepth 100000 in
theorem dk54 : (mCo 54).all (chkD 54) = true := by decide +kernel
set_option maxRecDepth 100000 in
theorem dk55 : (mCo 55).all (chkD 55) = true := by decide +kernel
set_option maxRecDepth 100000 in
theorem dk56 : (mCo 56).all (chkD 56) = true := by decide +kernel
set_option maxRecDepth 100000 in
theorem dk57 : (mCo 57).all (chkD 57) = true := by decide +kernel
set_option maxRecDepth 100000 in
theorem dk58 : (mCo 58).all (chkD 58) = true := by decide +kernel
set_option maxRecDepth 100000 in
theorem dk59 : (mCo 59).all (chkD 59) = true := by decide +kernel
set_option maxRecDepth 100000 in
theorem dk60 : (mCo 60).all (chkD 60) = true := by decide +kernel
set_option maxRecDepth 100000 in
theorem dk61 : (mCo 61).all (chkD 61) = true := by decide +kernel
set_option maxRecDepth 100000 in
theorem dk62 : (mCo 62).all (chkD 62) = true := by decide +kernel
set_option maxRecDepth 100000 in
theorem dk63 : (mCo 63).all (chkD 63) = true := by decide +kernel
set_option maxRecDepth 100000 in
theorem dk64 : (mCo 64).all (chkD 64) = true := by decide +kernel
set_option maxRecDepth 100000 in
theorem dk65 : (mCo 65).all (chkD 65) = true := by decide +kernel
set_option maxRecDepth 100000 in
theorem dk66 : (mCo 66).all (chkD 66) = true := by decide +kernel
set_option maxRecDepth 100000 in
theorem dk67 : (mCo 67).all (chkD 67) = true := by decide +kernel
set_option maxRecDepth 100000 in
theorem dk68 : (mCo 68).all (chkD 68) = true := by decide +kernel
set_option maxRecDepth 100000 in
theorem dk69 : (mCo 69).all (chkD 69) = true := by decide +kernel
set_option maxRecDepth 100000 in
theorem dk70 : (mCo 70).all (chkD 70) = true := by decide +kernel
set_option maxRecDepth 100000 in
theorem dk71 : (mCo 71).all (chkD 71) = true := by decide +kernel
set_option maxRecDepth 100000 in
theorem dk72 : (mCo 72).all (chkD 72) = true := by decide +kernel
set_option maxRecDepth 100000 in
theorem dk73 : (mCo 73).all (chkD 73) = true := by decide +kernel
set_option maxRecDepth 100000 in
theorem dk74 : (mCo 74).all (chkD 74) = true := by decide +kernel
set_option maxRecDepth 100000 in
theorem dk75 : (mCo 75).all (chkD 75) = true := by decide +kernel
set_option maxRecDepth 100000 in
theorem dk76 : (mCo 76).all (chkD 76) = true := by decide +kernel
set_option maxRecDepth 100000 in
theorem dk77 : (mCo 77).all (chkD 77) = true := by decide +kernel
set_option maxRecDepth 100000 in
theorem dk78 : (mCo 78).all (chkD 78) = true := by decide +kernel
set_option maxRecDepth 100000 in
theorem dk79 : (mCo 79).all (chkD 79) = true := by decide +kernel
set_option maxRecDepth 100000 in
theorem dk80 : (mCo 80).all (chkD 80) = true := by decide +kernel
set_option maxRecDepth 100000 in
theorem dk81 : (mCo 81).all (chkD 81) = true := by decide +kernel
set_option maxRecDepth 100000 in
theorem dk82 : (mCo 82).all (chkD 82) = true := by decide +kernel
set_option maxRecDepth 100000 in
theorem dk83 : (mCo 83).all (chkD 83) = true := by decide +kernel
set_option maxRecDepth 100000 in
theorem dk84 : (mCo 84).all (chkD 84) = true := by decide +kernel
set_option maxRecDepth 100000 in
theorem dk85 : (mCo 85).all (chkD 85) = true := by decide +kernel
set_option maxRecDepth 100000 in
theorem dk86 : (mCo 86).all (chkD 86) = true := by decide +kernel
set_option maxRecDepth 100000 in
theorem dk87 : (mCo 87).all (chkD 87) = true := by decide +kernel
set_option maxRecDepth 100000 in
theorem dk88 : (mCo 88).all (chkD 88) = true := by decide +kernel
set_option maxRecDepth 100000 in
theorem dk89 : (mCo 89).all (chkD 89) = true := by decide +kernel
set_option maxRecDepth 100000 in
theorem dk90 : (mCo 90).all (chkD 90) = true := by decide +kernel
set_option maxRecDepth 100000 in
theorem dk91 : (mCo 91).all (chkD 91) = true := by decide +kernel
set_option maxRecDepth 100000 in
theorem dk92 : (mCo 92).all (chkD 92) = true := by decide +kernel
set_option maxRecDepth 100000 in
theorem dk93 : (mCo 93).all (chkD 93) = true := by decide +kernel
set_option maxRecDepth 100000 in
theorem dk94 : (mCo 94).all (chkD 94) = true := by decide +kernel
set_option maxRecDepth 100000 in
theorem dk95 : (mCo 95).all (chkD 95) = true := by decide +kernel
set_option maxRecDepth 100000 in
theorem dk96 : (mCo 96).all (chkD 96) = true := by decide +kernel
set_option maxRecDepth 100000 in
theorem dk97 : (mCo 97).all (chkD 97) = true := by decide +kernel
set_option maxRecDepth 100000 in
theorem dk98 : (mCo 98).all (chkD 98) = true := by decide +kernel
set_option maxRecDepth 100000 in
theorem dk99 : (mCo 99).all (chkD 99) = true := by decide +kernel
set_option maxRecDepth 100000 in
theorem dk100 : (mCo 100).all (chkD 100) = true := by decide +kernel
set_option maxRecDepth 100000 in
theorem dk101 : (mCo 101).all (chkD 101) = true := by decide +kernel
set_option maxRecDepth 100000 in
theorem dk102 : (mCo 102).all (chkD 102) = true := by decide +kernel
set_option maxRecDepth 100000 in
theorem dk103 : (mCo 103).all (chkD 103) = true := by decide +kernel
set_option maxRecDepth 100000 in
theorem dk104 : (mCo 104).all (chkD 104) = true := by decide +kernel
set_option maxRecDepth 100000 in
theorem dk105 : (mCo 105).all (chkD 105) = true := by decide +kernel
set_option maxRecDepth 100000 in
theorem dk106 : (mCo 106).all (chkD 106) = true := by decide +kernel
set_option maxRecDepth 100000 in
theorem dk107 : (mCo 107).all (chkD 107) = true := by decide +kernel
set_option maxRecDepth 100000 in
theorem dk108 : (mCo 108).all (chkD 108) = true := by decide +kernel
set_option maxRecDepth 100000 in
theorem dk109 : (mCo 109).all (chkD 109) = true := by decide +kernel
set_option maxRecDepth 100000 in
theorem dk110 : (mCo 110).all (chkD 110) = true := by decide +kernel
set_option maxRecDepth 100000 in
theorem dk111 : (mCo 111).all (chkD 111) = true := by decide +kernel
set_option maxRecDepth 100000 in
theorem dk112 : (mCo 112).all (chkD 112) = true := by decide +kernel
set_option maxRecDepth 100000 in
theorem dk113 : (mCo 113).all (chkD 113) = true := by decide +kernel
set_option maxRecDepth 100000 in
theorem dk114 : (mCo 114).all (chkD 114) = true := by decide +kernel
set_option maxRecDepth 100000 in
theorem dk115 : (mCo 115).all (chkD 115) = true := by decide +kernel
set_option maxRecDepth 100000 in
theorem dk116 : (mCo 116).all (chkD 116) = true := by decide +kernel
set_option maxRecDepth 100000 in
theorem dk117 : (mCo 117).all (chkD 117) = true := by decide +kernel
set_option maxRecDepth 100000 in
theorem dk118 : (mCo 118).all (chkD 118) = true := by decide +kernel
set_option maxRecDepth 100000 in
theorem dk119 : (mCo 119).all (chkD 119) = true := by decide +kernel
set_option maxRecDepth 100000 in
theorem dk120 : (mCo 120).all (chkD 120) = true := by decide +kernel
set_option maxRecDepth 100000 in
theorem dk121 : (mCo 121).all (chkD 121) = true := by decide +kernel
set_option maxRecDepth 100000 in
theorem dk122 : (mCo 122).all (chkD 122) = true := by decide +kernel
set_option maxRecDepth 100000 in
theorem dk123 : (mCo 123).all (chkD 123) = true := by decide +kernel
set_option maxRecDepth 100000 in
theorem dk124 : (mCo 124).all (chkD 124) = true := by decide +kernel
set_option maxRecDepth 100000 in
theorem dk125 : (mCo 125).all (chkD 125) = true := by decide +kernel
set_option maxRecDepth 100000 in
theorem dk126 : (mCo 126).all (chkD 126) = true := by decide +kernel
set_option maxRecDepth 100000 in
theorem dk127 : (mCo 127).all (chkD 127) = true := by decide +kernel
set_option maxRecDepth 100000 in
theorem dk128 : (mCo 128).all (chkD 128) = true := by decide +kernel
set_option maxRecDepth 100000 in
theorem dk129 : (mCo 129).all (chkD 129) = true := by decide +kernel
set_option maxRecDepth 100000 in
theorem dk130 : (mCo 130).all (chkD 130) = true := by decide +kernel
set_option maxRecDepth 100000 in
theorem dk131 : (mCo 131).all (chkD 131) = true := by decide +kernel
set_option maxRecDepth 100000 in
theorem dk132 : (mCo 132).all (chkD 132) = true := by decide +kernel
set_option maxRecDepth 100000 in
theorem dk133 : (mCo 133).all (chkD 133) = true := by decide +kernel
set_option maxRecDepth 100000 in
theorem dk134 : (mCo 134).all (chkD 134) = true := by decide +kernel
set_option maxRecDepth 100000 in
theorem dk135 : (mCo 135).all (chkD 135) = true := by decide +kernel
set_option maxRecDepth 100000 in
theorem dk136 : (mCo 136).all (chkD 136) = true := by decide +kernel
set_option maxRecDepth 100000 in
theorem dk137 : (mCo 137).all (chkD 137) = true := by decide +kernel
set_option maxRecDepth 100000 in
theorem dk138 : (mCo 138).all (chkD 138) = true := by decide +kernel
set_option maxRecDepth 100000 in
theorem dk139 : (mCo 139).all (chkD 139) = true := by decide +kernel
set_option maxRecDepth 100000 in
theorem dk140 : (mCo 140).all (chkD 140) = true := by decide +kernel
set_option maxRecDepth 100000 in
theorem dk141 : (mCo 141).all (chkD 141) = true := by decide +kernel
set_option maxRecDepth 100000 in
theorem dk142 : (mCo 142).all (chkD 142) = true := by decide +kernel
set_option maxRecDepth 100000 in
theorem dk143 : (mCo 143).all (chkD 143) = true := by decide +kernel
set_option maxRecDepth 100000 in
theorem dk144 : (mCo 144).all (chkD 144) = true := by decide +kernel
set_option maxRecDepth 100000 in
theorem dk145 : (mCo 145).all (chkD 145) = true := by decide +kernel
set_option maxRecDepth 100000 in
theorem dk146 : (mCo 146).all (chkD 146) = true := by decide +kernel
set_option maxRecDepth 100000 in
theorem dk147 : (mCo 147).all (chkD 147) = true := by decide +kernel
set_option maxRecDepth 100000 in
theorem dk148 : (mCo 148).all (chkD 148) = true := by decide +kernel
set_option maxRecDepth 100000 in
theorem dk149 : (mCo 149).all (chkD 149) = true := by decide +kernel
set_option maxRecDepth 100000 in
theorem dk150 : (mCo 150).all (chkD 150) = true := by decide +kernel
set_option maxRecDepth 100000 in
theorem dk151 : (mCo 151).all (chkD 151) = true := by decide +kernel
set_option maxRecDepth 100000 in
theorem dk152 : (mCo 152).all (chkD 152) = true := by decide +kernel
set_option maxRecDepth 100000 in
theorem dk153 : (mCo 153).all (chkD 153) = true := by decide +kernel
set_option maxRecDepth 100000 in
theorem dk154 : (mCo 154).all (chkD 154) = true := by decide +kernel
set_option maxRecDepth 100000 in
theorem dk155 : (mCo 155).all (chkD 155) = true := by decide +kernel
set_option maxRecDepth 100000 in
theorem dk156 : (mCo 156).all (chkD 156) = true := by decide +kernel
set_option maxRecDepth 100000 in
theorem dk157 : (mCo 157).all (chkD 157) = true := by decide +kernel
set_option maxRecDepth 100000 in
theorem dk158 : (mCo 158).all (chkD 158) = true := by decide +kernel
set_option maxRecDepth 100000 in
theorem dk159 : (mCo 159).all (chkD 159) = true := by decide +kernel
set_option maxRecDepth 100000 in
theorem dk160 : (mCo 160).all (chkD 160) = true := by decide +kernel
set_option maxRecDepth 100000 in
theorem dk161 : (mCo 161).all (chkD 161) = true := by decide +kernel
set_option maxRecDepth 100000 in
theorem dk162 : (mCo 162).all (chkD 162) = true := by decide +kernel
set_option maxRecDepth 100000 in
theorem dk163 : (mCo 163).all (chkD 163) = true := by decide +kernel
set_option maxRecDepth 100000 in
theorem dk164 : (mCo 164).all (chkD 164) = true := by decide +kernel
set_option maxRecDepth 100000 in
theorem dk165 : (mCo 165).all (chkD 165) = true := by decide +kernel
set_option maxRecDepth 100000 in
theorem dk166 : (mCo 166).all (chkD 166) = true := by decide +kernel
set_option maxRecDepth 100000 in
theorem dk167 : (mCo 167).all (chkD 167) = true := by decide +kernel
set_option maxRecDepth 100000 in
theorem dk168 : (mCo 168).all (chkD 168) = true := by decide +kernel
set_option maxRecDepth 100000 in
theorem dk169 : (mCo 169).all (chkD 169) = true := by decide +kernel
set_option maxRecDepth 100000 in
theorem dk170 : (mCo 170).all (chkD 170) = true := by decide +kernel
set_option maxRecDepth 100000 in
theorem dk171 : (mCo 171).all (chkD 171) = true := by decide +kernel
set_option maxRecDepth 100000 in
theorem dk172 : (mCo 172).all (chkD 172) = true := by decide +kernel
set_option maxRecDepth 100000 in
theorem dk173 : (mCo 173).all (chkD 173) = true := by decide +kernel
set_option maxRecDepth 100000 in
theorem dk174 : (mCo 174).all (chkD 174) = true := by decide +kernel
set_option maxRecDepth 100000 in
theorem dk175 : (mCo 175).all (chkD 175) = true := by decide +kernel
set_option maxRecDepth 100000 in
theorem dk176 : (mCo 176).all (chkD 176) = true := by decide +kernel
set_option maxRecDepth 100000 in
theorem dk177 : (mCo 177).all (chkD 177) = true := by decide +kernel
set_option maxRecDepth 100000 in
theorem dk178 : (mCo 178).all (chkD 178) = true := by decide +kernel
set_option maxRecDepth 100000 in
theorem dk179 : (mCo 179).all (chkD 179) = true := by decide +kernel
set_option maxRecDepth 100000 in
theorem dk180 : (mCo 180).all (chkD 180) = true := by decide +kernel
set_option maxRecDepth 100000 in
theorem dk181 : (mCo 181).all (chkD 181) = true := by decide +kernel
set_option maxRecDepth 100000 in
theorem dk182 : (mCo 182).all (chkD 182) = true := by decide +kernel
set_option maxRecDepth 100000 in
theorem dk183 : (mCo 183).all (chkD 183) = true := by decide +kernel
set_option maxRecDepth 100000 in
theorem dk184 : (mCo 184).all (chkD 184) = true := by decide +kernel
set_option maxRecDepth 100000 in
theorem dk185 : (mCo 185).all (chkD 185) = true := by decide +kernel
set_option maxRecDepth 100000 in
theorem dk186 : (mCo 186).all (chkD 186) = true := by decide +kernel
set_option maxRecDepth 100000 in
theorem dk187 : (mCo 187).all (chkD 187) = true := by decide +kernel
set_option maxRecDepth 100000 in
theorem dk188 : (mCo 188).all (chkD 188) = true := by decide +kernel
set_option maxRecDepth 100000 in
theorem dk189 : (mCo 189).all (chkD 189) = true := by decide +kernel
set_option maxRecDepth 100000 in
theorem dk190 : (mCo 190).all (chkD 190) = true := by decide +kernel
set_option maxRecDepth 100000 in
theorem dk191 : (mCo 191).all (chkD 191) = true := by decide +kernel
set_option maxRecDepth 100000 in
theorem dk192 : (mCo 192).all (chkD 192) = true := by decide +kernel
set_option maxRecDepth 100000 in
theorem dk193 : (mCo 193).all (chkD 193) = true := by decide +kernel
set_option maxRecDepth 100000 in
theorem dk194 : (mCo 194).all (chkD 194) = true := by decide +kernel
set_option maxRecDepth 100000 in
theorem dk195 : (mCo 195).all (chkD 195) = true := by decide +kernel
set_option maxRecDepth 100000 in
theorem dk196 : (mCo 196).all (chkD 196) = true := by decide +kernel
set_option maxRecDepth 100000 in
theorem dk197 : (mCo 197).all (chkD 197) = true := by decide +kernel
set_option maxRecDepth 100000 in
theorem dk198 : (mCo 198).all (chkD 198) = true := by decide +kernel
set_option maxRecDepth 100000 in
theorem dk199 : (mCo 199).all (chkD 199) = true := by decide +kernel
set_option maxRecDepth 100000 in
theorem dk200 : (mCo 200).all (chkD 200) = true := by decide +kernel
set_option maxRecDepth 100000 in
theorem dk201 : (mCo 201).all (chkD 201) = true := by decide +kernel
set_option maxRecDepth 100000 in
theorem dk202 : (mCo 202).all (chkD 202) = true := by decide +kernel
set_option maxRecDepth 100000 in
theorem dk203 : (mCo 203).all (chkD 203) = true := by decide +kernel
set_option maxRecDepth 100000 in
theorem dk204 : (mCo 204).all (chkD 204) = true := by decide +kernel
set_option maxRecDepth 100000 in
theorem dk205 : (mCo 205).all (chkD 205) = true := by decide +kernel
set_option maxRecDepth 100000 in
theorem dk206 : (mCo 206).all (chkD 206) = true := by decide +kernel
set_option maxRecDepth 100000 in
theorem dk207 : (mCo 207).all (chkD 207) = true := by decide +kernel
set_option maxRecDepth 100000 in
theorem dk208 : (mCo 208).all (chkD 208) = true := by decide +kernel
set_option maxRecDepth 100000 in
theorem dk209 : (mCo 209).all (chkD 209) = true := by decide +kernel
set_option maxRecDepth 100000 in
theorem dk210 : (mCo 210).all (chkD 210) = true := by decide +kernel
set_option maxRecDepth 100000 in
theorem dk211 : (mCo 211).all (chkD 211) = true := by decide +kernel
set_option maxRecDepth 100000 in
theorem dk212 : (mCo 212).all (chkD 212) = true := by decide +kernel
set_option maxRecDepth 100000 in
theorem dk213 : (mCo 213).all (chkD 213) = true := by decide +kernel
set_option maxRecDepth 100000 in
theorem dk214 : (mCo 214).all (chkD 214) = true := by decide +kernel
set_option maxRecDepth 100000 in
theorem dk215 : (mCo 215).all (chkD 215) = true := by decide +kernel
set_option maxRecDepth 100000 in
theorem dk216 : (mCo 216).all (chkD 216) = true := by decide +kernel
set_option maxRecDepth 100000 in
theorem dk217 : (mCo 217).all (chkD 217) = true := by decide +kernel
set_option maxRecDepth 100000 in
theorem dk218 : (mCo 218).all (chkD 218) = true := by decide +kernel
set_option maxRecDepth 100000 in
theorem dk219 : (mCo 219).all (chkD 219) = true := by decide +kernel
set_option maxRecDepth 100000 in
theorem dk220 : (mCo 220).all (chkD 220) = true := by decide +kernel
set_option maxRecDepth 100000 in
theorem dk221 : (mCo 221).all (chkD 221) = true := by decide +kernel
set_option maxRecDepth 100000 in
theorem dk222 : (mCo 222).all (chkD 222) = true := by decide +kernel
set_option maxRecDepth 100000 in
theorem dk223 : (mCo 223).all (chkD 223) = true := by decide +kernel
set_option maxRecDepth 100000 in
theorem dk224 : (mCo 224).all (chkD 224) = true := by decide +kernel
set_option maxRecDepth 100000 in
theorem dk225 : (mCo 225).all (chkD 225) = true := by decide +kernel
set_option maxRecDepth 100000 in
theorem dk226 : (mCo 226).all (chkD 226) = true := by decide +kernel
set_option maxRecDepth 100000 in
theorem dk227 : (mCo 227).all (chkD 227) = true := by decide +kernel
set_option maxRecDepth 100000 in
theorem dk228 : (mCo 228).all (chkD 228) = true := by decide +kernel
set_option maxRecDepth 100000 in
theorem dk229 : (mCo 229).all (chkD 229) = true := by decide +kernel
set_option maxRecDepth 100000 in
theorem dk230 : (mCo 230).all (chkD 230) = true := by decide +kernel
set_option maxRecDepth 100000 in
theorem dk231 : (mCo 231).all (chkD 231) = true := by decide +kernel
set_option maxRecDepth 100000 in
theorem dk232 : (mCo 232).all (chkD 232) = true := by decide +kernel
set_option maxRecDepth 100000 in
theorem dk233 : (mCo 233).all (chkD 233) = true := by decide +kernel
set_option maxRecDepth 100000 in
theorem dk234 : (mCo 234).all (chkD 234) = true := by decide +kernel
set_option maxRecDepth 100000 in
theorem dk235 : (mCo 235).all (chkD 235) = true := by decide +kernel
set_option maxRecDepth 100000 in
theorem dk236 : (mCo 236).all (chkD 236) = true := by decide +kernel
set_option maxRecDepth 100000 in
theorem dk237 : (mCo 237).all (chkD 237) = true := by decide +kernel
set_option maxRecDepth 100000 in
theorem dk238 : (mCo 238).all (chkD 238) = true := by decide +kernel
theorem dk_ok : ∀ y, y < 239 → (mCo y).all (chkD y) = true
  | 0, _ => dk0
  | 1, _ => dk1
  | 2, _ => dk2
  | 3, _ => dk3
  | 4, _ => dk4
  | 5, _ => dk5
  | 6, _ => dk6
  | 7, _ => dk7
  | 8, _ => dk8
  | 9, _ => dk9
  | 10, _ => dk10
  | 11, _ => dk11
  | 12, _ => dk12
  | 13, _ => dk13
  | 14, _ => dk14
  | 15, _ => dk15
  | 16, _ => dk16
  | 17, _ => dk17
  | 18, _ => dk18
  | 19, _ => dk19
  | 20, _ => dk20
  | 21, _ => dk21
  | 22, _ => dk22
  | 23, _ => dk23
  | 24, _ => dk24
  | 25, _ => dk25
  | 26, _ => dk26
  | 27, _ => dk27
  | 28, _ => dk28
  | 29, _ => dk29
  | 30, _ => dk30
  | 31, _ => dk31
  | 32, _ => dk32
  | 33, _ => dk33
  | 34, _ => dk34
  | 35, _ => dk35
  | 36, _ => dk36
  | 37, _ => dk37
  | 38, _ => dk38
  | 39, _ => dk39
  | 40, _ => dk40
  | 41, _ => dk41
  | 42, _ => dk42
  | 43, _ => dk43
  | 44, _ => dk44
  | 45, _ => dk45
  | 46, _ => dk46
  | 47, _ => dk47
  | 48, _ => dk48
  | 49, _ => dk49
  | 50, _ => dk50
  | 51, _ => dk51
  | 52, _ => dk52
  | 53, _ => dk53
  | 54, _ => dk54
  | 55, _ => dk55
  | 56, _ => dk56
  | 57, _ => dk57
  | 58, _ => dk58
  | 59, _ => dk59
  | 60, _ => dk60
  | 61, _ => dk61
  | 62, _ => dk62
  | 63, _ => dk63
  | 64, _ => dk64
  | 65, _ => dk65
  | 66, _ => dk66
  | 67, _ => dk67
  | 68, _ => dk68
  | 69, _ => dk69
  | 70, _ => dk70
  | 71, _ => dk71
  | 72, _ => dk72
  | 73, _ => dk73
  | 74, _ => dk74
  | 75, _ => dk75
  | 76, _ => dk76
  | 77, _ => dk77
  | 78, _ => dk78
  | 79, _ => dk79
  | 80, _ => dk80
  | 81, _ => dk81
  | 82, _ => dk82
  | 83, _ => dk83
  | 84, _ => dk84
  | 85, _ => dk85
  | 86, _ => dk86
  | 87, _ => dk87
  | 88, _ => dk88
  | 89, _ => dk89
  | 90, _ => dk90
  | 91, _ => dk91
  | 92, _ => dk92
  | 93, _ => dk93
  | 94, _ => dk94
  | 95, _ => dk95
  | 96, _ => dk96
  | 97, _ => dk97
  | 98, _ => dk98
  | 99, _ => dk99
  | 100, _ => dk100
  | 101, _ => dk101
  | 102, _ => dk102
  | 103, _ => dk103
  | 104, _ => dk104
  | 105, _ => dk105
  | 106, _ => dk106
  | 107, _ => dk107
  | 108, _ => dk108
  | 109, _ => dk109
  | 110, _ => dk110
  | 111, _ => dk111
  | 112, _ => dk112
  | 113, _ => dk113
  | 114, _ => dk114
  | 115, _ => dk115
  | 116, _ => dk116
  | 117, _ => dk117
  | 118, _ => dk118
  | 119, _ => dk119
  | 120, _ => dk120
  | 121, _ => dk121
  | 122, _ => dk122
  | 123, _ => dk123
  | 124, _ => dk124
  | 125, _ => dk125
  | 126, _ => dk126
  | 127, _ => dk127
  | 128, _ => dk128
  | 129, _ => dk129
  | 130, _ => dk130
  | 131, _ => dk131
  | 132, _ => dk132
  | 133, _ => dk133
  | 134, _ => dk134
  | 135, _ => dk135
  | 136, _ => dk136
  | 137, _ => dk137
  | 138, _ => dk138
  | 139, _ => dk139
  | 140, _ => dk140
  | 141, _ => dk141
  | 142, _ => dk142
  | 143, _ => dk143
  | 144, _ => dk144
  | 145, _ => dk145
  | 146, _ => dk146
  | 147, _ => dk147
  | 148, _ => dk148
  | 149, _ => dk149
  | 150, _ => dk150
  | 151, _ => dk151
  | 152, _ => dk152
  | 153, _ => dk153
  | 154, _ => dk154
  | 155, _ => dk155
  | 156, _ => dk156
  | 157, _ => dk157
  | 158, _ => dk158
  | 159, _ => dk159
  | 160, _ => dk160
  | 161, _ => dk161
  | 162, _ => dk162
  | 163, _ => dk163
  | 164, _ => dk164
  | 165, _ => dk165
  | 166, _ => dk166
  | 167, _ => dk167
  | 168, _ => dk168
  | 169, _ => dk169
  | 170, _ => dk170
  | 171, _ => dk171
  | 172, _ => dk172
  | 173, _ => dk173
  | 174, _ => dk174
  | 175, _ => dk175
  | 176, _ => dk176
  | 177, _ => dk177
  | 178, _ => dk178
  | 179, _ => dk179
  | 180, _ => dk180
  | 181, _ => dk181
  | 182, _ => dk182
  | 183, _ => dk183
  | 184, _ => dk184
  | 185, _ => dk185
  | 186, _ => dk186
  | 187, _ => dk187
  | 188, _ => dk188
  | 189, _ => dk189
  | 190, _ => dk190
  | 191, _ => dk191
  | 192, _ => dk192
  | 193, _ => dk193
  | 194, _ => dk194
  | 195, _ => dk195
  | 196, _ => dk196
  | 197, _ => dk197
  | 198, _ => dk198
  | 199, _ => dk199
  | 200, _ => dk200
  | 201, _ => dk201
  | 202, _ => dk202
  | 203, _ => dk203
  | 204, _ => dk204
  | 205, _ => dk205
  | 206, _ => dk206
  | 207, _ => dk207
  | 208, _ => dk208
  | 209, _ => dk209
  | 210, _ => dk210
  | 211, _ => dk211
  | 212, _ => dk212
  | 213, _ => dk213
  | 214, _ => dk214
  | 215, _ => dk215
  | 216, _ => dk216
  | 217, _ => dk217
  | 218, _ => dk218
  | 219, _ => dk219
  | 220, _ => dk220
  | 221, _ => dk221
  | 222, _ => dk222
  | 223, _ => dk223
  | 224, _ => dk224
  | 225, _ => dk225
  | 226, _ => dk226
  | 227, _ => dk227
  | 228, _ => dk228
  | 229, _ => dk229
  | 230, _ => dk230
  | 231, _ => dk231
  | 232, _ => dk232
  | 233, _ => dk233
  | 234, _ => dk234
  | 235, _ => dk235
  | 236, _ => dk236
  | 237, _ => dk237
  | 238, _ => dk238
  | n + 239, h => absurd h (by omega)
