/-! printed by gen2.py: what the methods do, as functions -/
def f_L_law_b1048 (n : Nat) (sc : Nat × (Nat → Int32)) (k18 : Int32 → Mem → Option (Int32 × Mem)) (x3 : Int32) (σ : Mem) : Option (Int32 × Mem) :=
  k18 (x3 + 7) σ
def f_L_law_b18 (n : Nat) (sc : Nat × (Nat → Int32)) (k18 : Int32 → Mem → Option (Int32 × Mem)) (x3 : Int32) (σ : Mem) : Option (Int32 × Mem) :=
  if ((Int32.ofNat sc.1) - 7) < x3 then
  (some (1, σ))
  else
  (if inB x3 sc.1 = true then
  (some ((sc.2 x3.toNatClampNeg) &&& 31 : Int32)).bind fun y2 =>
  if y2 = 0 then
  ((some (x3 + 1 : Int32)).bind fun y4 =>
  if inB y4 sc.1 = true then
  (some (x3 + 2 : Int32)).bind fun y5 =>
  if inB y5 sc.1 = true then
  (some (x3 + 3 : Int32)).bind fun y6 =>
  if inB y6 sc.1 = true then
  (f_X7_row n (sc.2 y4.toNatClampNeg) (sc.2 y5.toNatClampNeg) (sc.2 y6.toNatClampNeg) σ).bind fun (y7, σ8) =>
  (some (x3 + 1 : Int32)).bind fun y9 =>
  if inB y9 sc.1 = true then
  (some (x3 + 2 : Int32)).bind fun y10 =>
  if inB y10 sc.1 = true then
  (some (x3 + 3 : Int32)).bind fun y11 =>
  if inB y11 sc.1 = true then
  (f_X8_row n (sc.2 y9.toNatClampNeg) (sc.2 y10.toNatClampNeg) (sc.2 y11.toNatClampNeg) σ8).bind fun (y12, σ13) =>
  if y7 = y12 then
  (f_L_law_b1048 n sc k18 x3 σ13)
  else
  (some (0, σ13))
  else none
  else none
  else none
  else none
  else none
  else none)
  else if y2 = 1 then
  ((some (x3 + 1 : Int32)).bind fun y16 =>
  if inB y16 sc.1 = true then
  (some (x3 + 2 : Int32)).bind fun y17 =>
  if inB y17 sc.1 = true then
  (some (x3 + 3 : Int32)).bind fun y18 =>
  if inB y18 sc.1 = true then
  (f_X7_set (sc.2 y16.toNatClampNeg) (sc.2 y17.toNatClampNeg) (sc.2 y18.toNatClampNeg) σ).bind fun (y19, σ20) =>
  (some (x3 + 1 : Int32)).bind fun y21 =>
  if inB y21 sc.1 = true then
  (some (x3 + 2 : Int32)).bind fun y22 =>
  if inB y22 sc.1 = true then
  (some (x3 + 3 : Int32)).bind fun y23 =>
  if inB y23 sc.1 = true then
  (f_X8_set (sc.2 y21.toNatClampNeg) (sc.2 y22.toNatClampNeg) (sc.2 y23.toNatClampNeg) σ20).bind fun (y24, σ25) =>
  if y19 = y24 then
  (f_L_law_b1048 n sc k18 x3 σ25)
  else
  (some (0, σ25))
  else none
  else none
  else none
  else none
  else none
  else none)
  else if y2 = 2 then
  ((some (x3 + 1 : Int32)).bind fun y28 =>
  if inB y28 sc.1 = true then
  (some (x3 + 2 : Int32)).bind fun y29 =>
  if inB y29 sc.1 = true then
  (some (x3 + 3 : Int32)).bind fun y30 =>
  if inB y30 sc.1 = true then
  (some (x3 + 4 : Int32)).bind fun y31 =>
  if inB y31 sc.1 = true then
  (some (x3 + 5 : Int32)).bind fun y32 =>
  if inB y32 sc.1 = true then
  (f_X7_copy (sc.2 y28.toNatClampNeg) (sc.2 y29.toNatClampNeg) (sc.2 y30.toNatClampNeg) (sc.2 y31.toNatClampNeg) (sc.2 y32.toNatClampNeg) σ).bind fun (y33, σ34) =>
  (some (x3 + 1 : Int32)).bind fun y35 =>
  if inB y35 sc.1 = true then
  (some (x3 + 2 : Int32)).bind fun y36 =>
  if inB y36 sc.1 = true then
  (some (x3 + 3 : Int32)).bind fun y37 =>
  if inB y37 sc.1 = true then
  (some (x3 + 4 : Int32)).bind fun y38 =>
  if inB y38 sc.1 = true then
  (some (x3 + 5 : Int32)).bind fun y39 =>
  if inB y39 sc.1 = true then
  (f_X8_copy n (sc.2 y35.toNatClampNeg) (sc.2 y36.toNatClampNeg) (sc.2 y37.toNatClampNeg) (sc.2 y38.toNatClampNeg) (sc.2 y39.toNatClampNeg) σ34).bind fun (y40, σ41) =>
  if y33 = y40 then
  (f_L_law_b1048 n sc k18 x3 σ41)
  else
  (some (0, σ41))
  else none
  else none
  else none
  else none
  else none
  else none
  else none
  else none
  else none
  else none)
  else if y2 = 3 then
  ((some (x3 + 1 : Int32)).bind fun y44 =>
  if inB y44 sc.1 = true then
  (f_X7_drop (sc.2 y44.toNatClampNeg) σ).bind fun (y45, σ46) =>
  (some (x3 + 1 : Int32)).bind fun y47 =>
  if inB y47 sc.1 = true then
  (f_X8_drop (sc.2 y47.toNatClampNeg) σ46).bind fun (y48, σ49) =>
  if y45 = y48 then
  (f_L_law_b1048 n sc k18 x3 σ49)
  else
  (some (0, σ49))
  else none
  else none)
  else if y2 = 4 then
  ((some (x3 + 1 : Int32)).bind fun y52 =>
  if inB y52 sc.1 = true then
  (f_X7_feed (sc.2 y52.toNatClampNeg) σ).bind fun (y53, σ54) =>
  (some (x3 + 1 : Int32)).bind fun y55 =>
  if inB y55 sc.1 = true then
  (f_X8_feed (sc.2 y55.toNatClampNeg) σ54).bind fun (y56, σ57) =>
  if y53 = y56 then
  (f_L_law_b1048 n sc k18 x3 σ57)
  else
  (some (0, σ57))
  else none
  else none)
  else if y2 = 5 then
  ((f_X7_town n σ).bind fun (y60, σ61) =>
  (f_X8_town n σ61).bind fun (y62, σ63) =>
  if y60 = y62 then
  (f_L_law_b1048 n sc k18 x3 σ63)
  else
  (some (0, σ63)))
  else if y2 = 6 then
  ((f_X7_fault σ).bind fun y66 =>
  (f_X8_fault σ).bind fun y67 =>
  if y66 = y67 then
  (f_L_law_b1048 n sc k18 x3 σ)
  else
  (some (0, σ)))
  else if y2 = 7 then
  ((some (x3 + 1 : Int32)).bind fun y70 =>
  if inB y70 sc.1 = true then
  (f_X7_give n (sc.2 y70.toNatClampNeg) σ).bind fun (y71, σ72) =>
  (some (x3 + 1 : Int32)).bind fun y73 =>
  if inB y73 sc.1 = true then
  (f_X8_give n (sc.2 y73.toNatClampNeg) σ72).bind fun (y74, σ75) =>
  if y71 = y74 then
  (f_L_law_b1048 n sc k18 x3 σ75)
  else
  (some (0, σ75))
  else none
  else none)
  else if y2 = 8 then
  ((some (x3 + 1 : Int32)).bind fun y78 =>
  if inB y78 sc.1 = true then
  (f_X7_pause (sc.2 y78.toNatClampNeg) σ).bind fun (y79, σ80) =>
  (some (x3 + 1 : Int32)).bind fun y81 =>
  if inB y81 sc.1 = true then
  (f_X8_pause n (sc.2 y81.toNatClampNeg) σ80).bind fun (y82, σ83) =>
  if y79 = y82 then
  (f_L_law_b1048 n sc k18 x3 σ83)
  else
  (some (0, σ83))
  else none
  else none)
  else if y2 = 9 then
  ((some (x3 + 1 : Int32)).bind fun y86 =>
  if inB y86 sc.1 = true then
  (some (x3 + 2 : Int32)).bind fun y87 =>
  if inB y87 sc.1 = true then
  (f_X7_value (sc.2 y86.toNatClampNeg) (sc.2 y87.toNatClampNeg) σ).bind fun (y88, σ89) =>
  (some (x3 + 1 : Int32)).bind fun y90 =>
  if inB y90 sc.1 = true then
  (some (x3 + 2 : Int32)).bind fun y91 =>
  if inB y91 sc.1 = true then
  (f_X8_value n (sc.2 y90.toNatClampNeg) (sc.2 y91.toNatClampNeg) σ89).bind fun (y92, σ93) =>
  if y88 = y92 then
  (f_L_law_b1048 n sc k18 x3 σ93)
  else
  (some (0, σ93))
  else none
  else none
  else none
  else none)
  else if y2 = 10 then
  ((some (x3 + 1 : Int32)).bind fun y96 =>
  if inB y96 sc.1 = true then
  (some (x3 + 2 : Int32)).bind fun y97 =>
  if inB y97 sc.1 = true then
  (f_X7_move (sc.2 y96.toNatClampNeg) (sc.2 y97.toNatClampNeg) σ).bind fun (y98, σ99) =>
  (some (x3 + 1 : Int32)).bind fun y100 =>
  if inB y100 sc.1 = true then
  (some (x3 + 2 : Int32)).bind fun y101 =>
  if inB y101 sc.1 = true then
  (f_X8_move n (sc.2 y100.toNatClampNeg) (sc.2 y101.toNatClampNeg) σ99).bind fun (y102, σ103) =>
  if y98 = y102 then
  (f_L_law_b1048 n sc k18 x3 σ103)
  else
  (some (0, σ103))
  else none
  else none
  else none
  else none)
  else if y2 = 11 then
  ((f_X7_undo σ).bind fun (y106, σ107) =>
  (f_X8_undo n σ107).bind fun (y108, σ109) =>
  if y106 = y108 then
  (f_L_law_b1048 n sc k18 x3 σ109)
  else
  (some (0, σ109)))
  else if y2 = 12 then
  ((some (x3 + 1 : Int32)).bind fun y112 =>
  if inB y112 sc.1 = true then
  (some (x3 + 2 : Int32)).bind fun y113 =>
  if inB y113 sc.1 = true then
  (f_X7_reader σ (sc.2 y112.toNatClampNeg) (sc.2 y113.toNatClampNeg)).bind fun y114 =>
  (some (x3 + 1 : Int32)).bind fun y115 =>
  if inB y115 sc.1 = true then
  (some (x3 + 2 : Int32)).bind fun y116 =>
  if inB y116 sc.1 = true then
  (f_X8_reader σ (sc.2 y115.toNatClampNeg) (sc.2 y116.toNatClampNeg)).bind fun y117 =>
  if y114 = y117 then
  (f_L_law_b1048 n sc k18 x3 σ)
  else
  (some (0, σ))
  else none
  else none
  else none
  else none)
  else if y2 = 13 then
  ((some (x3 + 1 : Int32)).bind fun y120 =>
  if inB y120 sc.1 = true then
  (some (x3 + 2 : Int32)).bind fun y121 =>
  if inB y121 sc.1 = true then
  (f_X7_would n σ (sc.2 y120.toNatClampNeg) (sc.2 y121.toNatClampNeg)).bind fun y122 =>
  (some (x3 + 1 : Int32)).bind fun y123 =>
  if inB y123 sc.1 = true then
  (some (x3 + 2 : Int32)).bind fun y124 =>
  if inB y124 sc.1 = true then
  (f_X8_would n σ (sc.2 y123.toNatClampNeg) (sc.2 y124.toNatClampNeg)).bind fun y125 =>
  if y122 = y125 then
  (f_L_law_b1048 n sc k18 x3 σ)
  else
  (some (0, σ))
  else none
  else none
  else none
  else none)
  else if y2 = 14 then
  ((some (x3 + 1 : Int32)).bind fun y128 =>
  if inB y128 sc.1 = true then
  (f_X7_best n (sc.2 y128.toNatClampNeg) σ).bind fun (y129, σ130) =>
  (some (x3 + 1 : Int32)).bind fun y131 =>
  if inB y131 sc.1 = true then
  (f_X8_best n (sc.2 y131.toNatClampNeg) σ130).bind fun (y132, σ133) =>
  if y129 = y132 then
  (f_L_law_b1048 n sc k18 x3 σ133)
  else
  (some (0, σ133))
  else none
  else none)
  else if y2 = 15 then
  ((some (x3 + 1 : Int32)).bind fun y136 =>
  if inB y136 sc.1 = true then
  (some (x3 + 2 : Int32)).bind fun y137 =>
  if inB y137 sc.1 = true then
  (f_X7_soonest n (sc.2 y136.toNatClampNeg) (sc.2 y137.toNatClampNeg) σ).bind fun (y138, σ139) =>
  (some (x3 + 1 : Int32)).bind fun y140 =>
  if inB y140 sc.1 = true then
  (some (x3 + 2 : Int32)).bind fun y141 =>
  if inB y141 sc.1 = true then
  (f_X8_soonest n (sc.2 y140.toNatClampNeg) (sc.2 y141.toNatClampNeg) σ139).bind fun (y142, σ143) =>
  if y138 = y142 then
  (f_L_law_b1048 n sc k18 x3 σ143)
  else
  (some (0, σ143))
  else none
  else none
  else none
  else none)
  else if y2 = 16 then
  ((some (x3 + 1 : Int32)).bind fun y146 =>
  if inB y146 sc.1 = true then
  (some (x3 + 2 : Int32)).bind fun y147 =>
  if inB y147 sc.1 = true then
  (f_X7_copies n (sc.2 y146.toNatClampNeg) (sc.2 y147.toNatClampNeg) σ).bind fun (y148, σ149) =>
  (some (x3 + 1 : Int32)).bind fun y150 =>
  if inB y150 sc.1 = true then
  (some (x3 + 2 : Int32)).bind fun y151 =>
  if inB y151 sc.1 = true then
  (f_X8_copies n (sc.2 y150.toNatClampNeg) (sc.2 y151.toNatClampNeg) σ149).bind fun (y152, σ153) =>
  if y148 = y152 then
  (f_L_law_b1048 n sc k18 x3 σ153)
  else
  (some (0, σ153))
  else none
  else none
  else none
  else none)
  else if y2 = 17 then
  ((some (x3 + 1 : Int32)).bind fun y156 =>
  if inB y156 sc.1 = true then
  (some (x3 + 2 : Int32)).bind fun y157 =>
  if inB y157 sc.1 = true then
  (some (x3 + 3 : Int32)).bind fun y158 =>
  if inB y158 sc.1 = true then
  (some (x3 + 4 : Int32)).bind fun y159 =>
  if inB y159 sc.1 = true then
  (some (x3 + 5 : Int32)).bind fun y160 =>
  if inB y160 sc.1 = true then
  (some (x3 + 6 : Int32)).bind fun y161 =>
  if inB y161 sc.1 = true then
  (f_X7_fits n (sc.2 y156.toNatClampNeg) (sc.2 y157.toNatClampNeg) (sc.2 y158.toNatClampNeg) (sc.2 y159.toNatClampNeg) (sc.2 y160.toNatClampNeg) (sc.2 y161.toNatClampNeg) σ).bind fun (y162, σ163) =>
  (some (x3 + 1 : Int32)).bind fun y164 =>
  if inB y164 sc.1 = true then
  (some (x3 + 2 : Int32)).bind fun y165 =>
  if inB y165 sc.1 = true then
  (some (x3 + 3 : Int32)).bind fun y166 =>
  if inB y166 sc.1 = true then
  (some (x3 + 4 : Int32)).bind fun y167 =>
  if inB y167 sc.1 = true then
  (some (x3 + 5 : Int32)).bind fun y168 =>
  if inB y168 sc.1 = true then
  (some (x3 + 6 : Int32)).bind fun y169 =>
  if inB y169 sc.1 = true then
  (f_X8_fits n (sc.2 y164.toNatClampNeg) (sc.2 y165.toNatClampNeg) (sc.2 y166.toNatClampNeg) (sc.2 y167.toNatClampNeg) (sc.2 y168.toNatClampNeg) (sc.2 y169.toNatClampNeg) σ163).bind fun (y170, σ171) =>
  if y162 = y170 then
  (f_L_law_b1048 n sc k18 x3 σ171)
  else
  (some (0, σ171))
  else none
  else none
  else none
  else none
  else none
  else none
  else none
  else none
  else none
  else none
  else none
  else none)
  else if y2 = 18 then
  ((some (x3 + 1 : Int32)).bind fun y174 =>
  if inB y174 sc.1 = true then
  (some (x3 + 2 : Int32)).bind fun y175 =>
  if inB y175 sc.1 = true then
  (some (x3 + 3 : Int32)).bind fun y176 =>
  if inB y176 sc.1 = true then
  (some (x3 + 4 : Int32)).bind fun y177 =>
  if inB y177 sc.1 = true then
  (some (x3 + 5 : Int32)).bind fun y178 =>
  if inB y178 sc.1 = true then
  (some (x3 + 6 : Int32)).bind fun y179 =>
  if inB y179 sc.1 = true then
  (f_X7_lost n (sc.2 y174.toNatClampNeg) (sc.2 y175.toNatClampNeg) (sc.2 y176.toNatClampNeg) (sc.2 y177.toNatClampNeg) (sc.2 y178.toNatClampNeg) (sc.2 y179.toNatClampNeg) σ).bind fun (y180, σ181) =>
  (some (x3 + 1 : Int32)).bind fun y182 =>
  if inB y182 sc.1 = true then
  (some (x3 + 2 : Int32)).bind fun y183 =>
  if inB y183 sc.1 = true then
  (some (x3 + 3 : Int32)).bind fun y184 =>
  if inB y184 sc.1 = true then
  (some (x3 + 4 : Int32)).bind fun y185 =>
  if inB y185 sc.1 = true then
  (some (x3 + 5 : Int32)).bind fun y186 =>
  if inB y186 sc.1 = true then
  (some (x3 + 6 : Int32)).bind fun y187 =>
  if inB y187 sc.1 = true then
  (f_X8_lost n (sc.2 y182.toNatClampNeg) (sc.2 y183.toNatClampNeg) (sc.2 y184.toNatClampNeg) (sc.2 y185.toNatClampNeg) (sc.2 y186.toNatClampNeg) (sc.2 y187.toNatClampNeg) σ181).bind fun (y188, σ189) =>
  if y180 = y188 then
  (f_L_law_b1048 n sc k18 x3 σ189)
  else
  (some (0, σ189))
  else none
  else none
  else none
  else none
  else none
  else none
  else none
  else none
  else none
  else none
  else none
  else none)
  else if y2 = 19 then
  ((some (x3 + 1 : Int32)).bind fun y192 =>
  if inB y192 sc.1 = true then
  (some (x3 + 2 : Int32)).bind fun y193 =>
  if inB y193 sc.1 = true then
  (some (x3 + 3 : Int32)).bind fun y194 =>
  if inB y194 sc.1 = true then
  (f_X7_drawn n (sc.2 y192.toNatClampNeg) (sc.2 y193.toNatClampNeg) (sc.2 y194.toNatClampNeg) σ).bind fun (y195, σ196) =>
  (some (x3 + 1 : Int32)).bind fun y197 =>
  if inB y197 sc.1 = true then
  (some (x3 + 2 : Int32)).bind fun y198 =>
  if inB y198 sc.1 = true then
  (some (x3 + 3 : Int32)).bind fun y199 =>
  if inB y199 sc.1 = true then
  (f_X8_drawn n (sc.2 y197.toNatClampNeg) (sc.2 y198.toNatClampNeg) (sc.2 y199.toNatClampNeg) σ196).bind fun (y200, σ201) =>
  if y195 = y200 then
  (f_L_law_b1048 n sc k18 x3 σ201)
  else
  (some (0, σ201))
  else none
  else none
  else none
  else none
  else none
  else none)
  else if y2 = 20 then
  ((some (x3 + 1 : Int32)).bind fun y204 =>
  if inB y204 sc.1 = true then
  (f_X7_image (sc.2 y204.toNatClampNeg) σ).bind fun (y205, σ206) =>
  (some (x3 + 1 : Int32)).bind fun y207 =>
  if inB y207 sc.1 = true then
  (f_X8_image n (sc.2 y207.toNatClampNeg) σ206).bind fun (y208, σ209) =>
  if y205 = y208 then
  (f_L_law_b1048 n sc k18 x3 σ209)
  else
  (some (0, σ209))
  else none
  else none)
  else if y2 = 21 then
  ((some (x3 + 1 : Int32)).bind fun y212 =>
  if inB y212 sc.1 = true then
  (f_X7_restore (sc.2 y212.toNatClampNeg) σ).bind fun (y213, σ214) =>
  (some (x3 + 1 : Int32)).bind fun y215 =>
  if inB y215 sc.1 = true then
  (f_X8_restore n (sc.2 y215.toNatClampNeg) σ214).bind fun (y216, σ217) =>
  if y213 = y216 then
  (f_L_law_b1048 n sc k18 x3 σ217)
  else
  (some (0, σ217))
  else none
  else none)
  else if y2 = 22 then
  ((some (x3 + 1 : Int32)).bind fun y220 =>
  if inB y220 sc.1 = true then
  (f_X7_kind σ (sc.2 y220.toNatClampNeg)).bind fun y221 =>
  (some (x3 + 1 : Int32)).bind fun y222 =>
  if inB y222 sc.1 = true then
  (f_X8_kind σ (sc.2 y222.toNatClampNeg)).bind fun y223 =>
  if y221 = y223 then
  (f_L_law_b1048 n sc k18 x3 σ)
  else
  (some (0, σ))
  else none
  else none)
  else if y2 = 23 then
  ((some (x3 + 1 : Int32)).bind fun y226 =>
  if inB y226 sc.1 = true then
  (some (x3 + 2 : Int32)).bind fun y227 =>
  if inB y227 sc.1 = true then
  (f_X7_as n (sc.2 y226.toNatClampNeg) (sc.2 y227.toNatClampNeg) σ).bind fun (y228, σ229) =>
  (some (x3 + 1 : Int32)).bind fun y230 =>
  if inB y230 sc.1 = true then
  (some (x3 + 2 : Int32)).bind fun y231 =>
  if inB y231 sc.1 = true then
  (f_X8_as (sc.2 y230.toNatClampNeg) (sc.2 y231.toNatClampNeg) σ229).bind fun (y232, σ233) =>
  if y228 = y232 then
  (f_L_law_b1048 n sc k18 x3 σ233)
  else
  (some (0, σ233))
  else none
  else none
  else none
  else none)
  else if y2 = 24 then
  ((some (x3 + 1 : Int32)).bind fun y236 =>
  if inB y236 sc.1 = true then
  (some (x3 + 2 : Int32)).bind fun y237 =>
  if inB y237 sc.1 = true then
  (f_X7_ask n (sc.2 y236.toNatClampNeg) (sc.2 y237.toNatClampNeg) σ).bind fun (y238, σ239) =>
  (some (x3 + 1 : Int32)).bind fun y240 =>
  if inB y240 sc.1 = true then
  (some (x3 + 2 : Int32)).bind fun y241 =>
  if inB y241 sc.1 = true then
  (f_X8_ask (sc.2 y240.toNatClampNeg) (sc.2 y241.toNatClampNeg) σ239).bind fun (y242, σ243) =>
  if y238 = y242 then
  (f_L_law_b1048 n sc k18 x3 σ243)
  else
  (some (0, σ243))
  else none
  else none
  else none
  else none)
  else if y2 = 25 then
  ((some (x3 + 1 : Int32)).bind fun y246 =>
  if inB y246 sc.1 = true then
  (f_X7_trace σ (sc.2 y246.toNatClampNeg)).bind fun y247 =>
  (some (x3 + 1 : Int32)).bind fun y248 =>
  if inB y248 sc.1 = true then
  (f_X8_trace σ (sc.2 y248.toNatClampNeg)).bind fun y249 =>
  if y247 = y249 then
  (f_L_law_b1048 n sc k18 x3 σ)
  else
  (some (0, σ))
  else none
  else none)
  else if y2 = 26 then
  ((some (x3 + 1 : Int32)).bind fun y252 =>
  if inB y252 sc.1 = true then
  (f_X7_count n σ (sc.2 y252.toNatClampNeg)).bind fun y253 =>
  (some (x3 + 1 : Int32)).bind fun y254 =>
  if inB y254 sc.1 = true then
  (f_X8_count n σ (sc.2 y254.toNatClampNeg)).bind fun y255 =>
  if y253 = y255 then
  (f_L_law_b1048 n sc k18 x3 σ)
  else
  (some (0, σ))
  else none
  else none)
  else if y2 = 27 then
  ((f_X7_status σ).bind fun y258 =>
  (f_X8_status σ).bind fun y259 =>
  if y258 = y259 then
  (f_L_law_b1048 n sc k18 x3 σ)
  else
  (some (0, σ)))
  else 
  (f_L_law_b1048 n sc k18 x3 σ)
  else none)
def f_L_law_l18 (n : Nat) (sc : Nat × (Nat → Int32)) : Nat → Int32 → Mem → Option (Int32 × Mem)
  | 0 => fun _ _ => none
  | f + 1 => f_L_law_b18 n sc (f_L_law_l18 n sc f)
def f_L_law (n : Nat) (sc : Nat × (Nat → Int32)) (x3 : Int32) (σ : Mem) : Option (Int32 × Mem) :=
  f_L_law_l18 n sc n x3 σ
