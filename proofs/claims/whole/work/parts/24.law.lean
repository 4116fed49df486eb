def Law_law_B1046 (F : Nat) (R18 : Int → Int → Int → Int → Hp → Option (Int × Hp)) (l0 l1 l2 l3 s0 s1 s2 s3 s4 : Int) (h : Hp) : Option (Int × Hp) :=
  iv h s3 112 (Mod_window F s3 s2 s1 s0 h) fun r295 h296 =>
  if s4 = r295 then
    (R18 l0 l1 l2 (w32 (l3 + 6)) h296)
  else
    (rz 0 h296)
def Law_law_B1019 (F : Nat) (R18 : Int → Int → Int → Int → Hp → Option (Int × Hp)) (l0 l1 l2 l3 s0 s1 s2 s3 : Int) (h : Hp) : Option (Int × Hp) :=
  iv h s3 111 (Tide_window F s3 s2 s1 s0 h) fun r281 h282 =>
  xl h282 l0 (w32 (l3 + 1)) fun v283 =>
  xl h282 l0 (w32 (l3 + 2)) fun v284 =>
  xl h282 l0 (w32 (l3 + 3)) fun v285 =>
  if v285 = 0 then
    (Law_law_B1046 F R18 l0 l1 l2 l3 0 v284 v283 l2 r281 h282)
  else
    (Law_law_B1046 F R18 l0 l1 l2 l3 1 v284 v283 l2 r281 h282)
def Law_law_B1227 (F : Nat) (R18 : Int → Int → Int → Int → Hp → Option (Int × Hp)) (l0 l1 l2 l3 s0 s1 s2 s3 : Int) (h : Hp) : Option (Int × Hp) :=
  iv h s2 112 (Mod_error F s2 s1 s0 h) fun r297 h298 =>
  if s3 = r297 then
    (R18 l0 l1 l2 (w32 (l3 + 6)) h298)
  else
    (rz 0 h298)
def Law_law_B1205 (F : Nat) (R18 : Int → Int → Int → Int → Hp → Option (Int × Hp)) (l0 l1 l2 l3 s0 s1 s2 : Int) (h : Hp) : Option (Int × Hp) :=
  iv h s2 111 (Tide_error F s2 s1 s0 h) fun r286 h287 =>
  xl h287 l0 (w32 (l3 + 1)) fun v288 =>
  xl h287 l0 (w32 (l3 + 2)) fun v289 =>
  if v289 = 0 then
    (Law_law_B1227 F R18 l0 l1 l2 l3 0 v288 l2 r286 h287)
  else
    (Law_law_B1227 F R18 l0 l1 l2 l3 1 v288 l2 r286 h287)
def Law_law_B1309 (F : Nat) (R18 : Int → Int → Int → Int → Hp → Option (Int × Hp)) (l0 l1 l2 l3 s0 s1 s2 s3 s4 : Int) (h : Hp) : Option (Int × Hp) :=
  iv h s3 112 (Mod_tell F s3 s2 s1 s0 h) fun r299 h300 =>
  if s4 = r299 then
    (R18 l0 l1 l2 (w32 (l3 + 6)) h300)
  else
    (rz 0 h300)
def Law_law_B1282 (F : Nat) (R18 : Int → Int → Int → Int → Hp → Option (Int × Hp)) (l0 l1 l2 l3 s0 s1 s2 s3 : Int) (h : Hp) : Option (Int × Hp) :=
  iv h s3 111 (Tide_tell F s3 s2 s1 s0 h) fun r290 h291 =>
  xl h291 l0 (w32 (l3 + 1)) fun v292 =>
  xl h291 l0 (w32 (l3 + 2)) fun v293 =>
  xl h291 l0 (w32 (l3 + 3)) fun v294 =>
  if v294 = 0 then
    (Law_law_B1309 F R18 l0 l1 l2 l3 0 v293 v292 l2 r290 h291)
  else
    (Law_law_B1309 F R18 l0 l1 l2 l3 1 v293 v292 l2 r290 h291)
def Law_law_L18s (F : Nat)  (R18 : Int → Int → Int → Int → Hp → Option (Int × Hp)) (l0 l1 l2 l3 : Int) (h : Hp) : Option (Int × Hp) :=
  xn h l0 fun v9 =>
  if (w32 (v9 - 6)) < l3 then
    (rz 1 h)
  else
    (xl h l0 l3 fun v10 =>
    tsw (iand v10 63) 0 38 (fun i => match i with
      | 0 => (xl h l0 (w32 (l3 + 1)) fun v11 =>
      xl h l0 (w32 (l3 + 2)) fun v12 =>
      xl h l0 (w32 (l3 + 3)) fun v13 =>
      xl h l0 (w32 (l3 + 4)) fun v14 =>
      xl h l0 (w32 (l3 + 5)) fun v15 =>
      iv h l1 111 (Tide_feed F l1 v11 v12 v13 v14 v15 h) fun r16 h17 =>
      xl h17 l0 (w32 (l3 + 1)) fun v18 =>
      xl h17 l0 (w32 (l3 + 2)) fun v19 =>
      xl h17 l0 (w32 (l3 + 3)) fun v20 =>
      xl h17 l0 (w32 (l3 + 4)) fun v21 =>
      xl h17 l0 (w32 (l3 + 5)) fun v22 =>
      iv h17 l2 112 (Mod_feed F l2 v18 v19 v20 v21 v22 h17) fun r23 h24 =>
      if r16 = r23 then
        (R18 l0 l1 l2 (w32 (l3 + 6)) h24)
      else
        (rz 0 h24))
      | 1 => (xl h l0 (w32 (l3 + 1)) fun v25 =>
      iv h l1 111 (Tide_back F l1 v25 h) fun r26 h27 =>
      xl h27 l0 (w32 (l3 + 1)) fun v28 =>
      iv h27 l2 112 (Mod_back F l2 v28 h27) fun r29 h30 =>
      if r26 = r29 then
        (R18 l0 l1 l2 (w32 (l3 + 6)) h30)
      else
        (rz 0 h30))
      | 2 => (iv h l1 111 (Tide_read F l1 h) fun r31 h32 =>
      iv h32 l2 112 (Mod_read F l2 h32) fun r33 h34 =>
      if r31 = r33 then
        (R18 l0 l1 l2 (w32 (l3 + 6)) h34)
      else
        (rz 0 h34))
      | 3 => (iv h l1 111 (Tide_place F l1 h) fun r35 h36 =>
      iv h36 l2 112 (Mod_place F l2 h36) fun r37 h38 =>
      if r35 = r37 then
        (R18 l0 l1 l2 (w32 (l3 + 6)) h38)
      else
        (rz 0 h38))
      | 4 => (xl h l0 (w32 (l3 + 1)) fun v39 =>
      xl h l0 (w32 (l3 + 2)) fun v40 =>
      iv h l1 111 (Tide_part F l1 v39 v40 h) fun r41 h42 =>
      xl h42 l0 (w32 (l3 + 1)) fun v43 =>
      xl h42 l0 (w32 (l3 + 2)) fun v44 =>
      iv h42 l2 112 (Mod_part F l2 v43 v44 h42) fun r45 h46 =>
      if r41 = r45 then
        (R18 l0 l1 l2 (w32 (l3 + 6)) h46)
      else
        (rz 0 h46))
      | 5 => (xl h l0 (w32 (l3 + 1)) fun v47 =>
      xl h l0 (w32 (l3 + 2)) fun v48 =>
      iv h l1 111 (Tide_worker F l1 v47 v48 h) fun r49 h50 =>
      xl h50 l0 (w32 (l3 + 1)) fun v51 =>
      xl h50 l0 (w32 (l3 + 2)) fun v52 =>
      iv h50 l2 112 (Mod_worker F l2 v51 v52 h50) fun r53 h54 =>
      if r49 = r53 then
        (R18 l0 l1 l2 (w32 (l3 + 6)) h54)
      else
        (rz 0 h54))
      | 6 => (xl h l0 (w32 (l3 + 1)) fun v55 =>
      xl h l0 (w32 (l3 + 2)) fun v56 =>
      iv h l1 111 (Tide_minute F l1 v55 v56 h) fun r57 h58 =>
      xl h58 l0 (w32 (l3 + 1)) fun v59 =>
      xl h58 l0 (w32 (l3 + 2)) fun v60 =>
      iv h58 l2 112 (Mod_minute F l2 v59 v60 h58) fun r61 h62 =>
      if r57 = r61 then
        (R18 l0 l1 l2 (w32 (l3 + 6)) h62)
      else
        (rz 0 h62))
      | 7 => (xl h l0 (w32 (l3 + 1)) fun v63 =>
      xl h l0 (w32 (l3 + 2)) fun v64 =>
      iv h l1 111 (Tide_free F l1 v63 v64 h) fun r65 h66 =>
      xl h66 l0 (w32 (l3 + 1)) fun v67 =>
      xl h66 l0 (w32 (l3 + 2)) fun v68 =>
      iv h66 l2 112 (Mod_free F l2 v67 v68 h66) fun r69 h70 =>
      if r65 = r69 then
        (R18 l0 l1 l2 (w32 (l3 + 6)) h70)
      else
        (rz 0 h70))
      | 8 => (xl h l0 (w32 (l3 + 1)) fun v71 =>
      xl h l0 (w32 (l3 + 2)) fun v72 =>
      iv h l1 111 (Tide_when F l1 v71 v72 h) fun r73 h74 =>
      xl h74 l0 (w32 (l3 + 1)) fun v75 =>
      xl h74 l0 (w32 (l3 + 2)) fun v76 =>
      iv h74 l2 112 (Mod_when F l2 v75 v76 h74) fun r77 h78 =>
      if r73 = r77 then
        (R18 l0 l1 l2 (w32 (l3 + 6)) h78)
      else
        (rz 0 h78))
      | 9 => (xl h l0 (w32 (l3 + 1)) fun v79 =>
      xl h l0 (w32 (l3 + 2)) fun v80 =>
      iv h l1 111 (Tide_send F l1 v79 v80 h) fun r81 h82 =>
      xl h82 l0 (w32 (l3 + 1)) fun v83 =>
      xl h82 l0 (w32 (l3 + 2)) fun v84 =>
      iv h82 l2 112 (Mod_send F l2 v83 v84 h82) fun r85 h86 =>
      if r81 = r85 then
        (R18 l0 l1 l2 (w32 (l3 + 6)) h86)
      else
        (rz 0 h86))
      | 10 => (xl h l0 (w32 (l3 + 1)) fun v87 =>
      iv h l1 111 (Tide_cross F l1 v87 h) fun r88 h89 =>
      xl h89 l0 (w32 (l3 + 1)) fun v90 =>
      iv h89 l2 112 (Mod_cross F l2 v90 h89) fun r91 h92 =>
      if r88 = r91 then
        (R18 l0 l1 l2 (w32 (l3 + 6)) h92)
      else
        (rz 0 h92))
      | 11 => (xl h l0 (w32 (l3 + 1)) fun v93 =>
      xl h l0 (w32 (l3 + 2)) fun v94 =>
      iv h l1 111 (Tide_mend F l1 v93 v94 h) fun r95 h96 =>
      xl h96 l0 (w32 (l3 + 1)) fun v97 =>
      xl h96 l0 (w32 (l3 + 2)) fun v98 =>
      iv h96 l2 112 (Mod_mend F l2 v97 v98 h96) fun r99 h100 =>
      if r95 = r99 then
        (R18 l0 l1 l2 (w32 (l3 + 6)) h100)
      else
        (rz 0 h100))
      | 12 => (iv h l1 111 (Tide_undo F l1 h) fun r101 h102 =>
      iv h102 l2 112 (Mod_undo F l2 h102) fun r103 h104 =>
      if r101 = r103 then
        (R18 l0 l1 l2 (w32 (l3 + 6)) h104)
      else
        (rz 0 h104))
      | 13 => (xl h l0 (w32 (l3 + 1)) fun v105 =>
      iv h l1 111 (Tide_seen F l1 v105 h) fun r106 h107 =>
      xl h107 l0 (w32 (l3 + 1)) fun v108 =>
      iv h107 l2 112 (Mod_seen F l2 v108 h107) fun r109 h110 =>
      if r106 = r109 then
        (R18 l0 l1 l2 (w32 (l3 + 6)) h110)
      else
        (rz 0 h110))
      | 14 => (xl h l0 (w32 (l3 + 1)) fun v111 =>
      iv h l1 111 (Tide_photo F l1 v111 h) fun r112 h113 =>
      xl h113 l0 (w32 (l3 + 1)) fun v114 =>
      iv h113 l2 112 (Mod_photo F l2 v114 h113) fun r115 h116 =>
      if r112 = r115 then
        (R18 l0 l1 l2 (w32 (l3 + 6)) h116)
      else
        (rz 0 h116))
      | 15 => (iv h l1 111 (Tide_bestMinute F l1 h) fun r117 h118 =>
      iv h118 l2 112 (Mod_bestMinute F l2 h118) fun r119 h120 =>
      if r117 = r119 then
        (R18 l0 l1 l2 (w32 (l3 + 6)) h120)
      else
        (rz 0 h120))
      | 16 => (xl h l0 (w32 (l3 + 1)) fun v121 =>
      xl h l0 (w32 (l3 + 2)) fun v122 =>
      iv h l1 111 (Tide_stays F l1 v121 v122 h) fun r123 h124 =>
      xl h124 l0 (w32 (l3 + 1)) fun v125 =>
      xl h124 l0 (w32 (l3 + 2)) fun v126 =>
      iv h124 l2 112 (Mod_stays F l2 v125 v126 h124) fun r127 h128 =>
      if r123 = r127 then
        (R18 l0 l1 l2 (w32 (l3 + 6)) h128)
      else
        (rz 0 h128))
      | 17 => (xl h l0 (w32 (l3 + 1)) fun v129 =>
      xl h l0 (w32 (l3 + 2)) fun v130 =>
      xl h l0 (w32 (l3 + 3)) fun v131 =>
      iv h l1 111 (Tide_plan F l1 v129 v130 v131 h) fun r132 h133 =>
      xl h133 l0 (w32 (l3 + 1)) fun v134 =>
      xl h133 l0 (w32 (l3 + 2)) fun v135 =>
      xl h133 l0 (w32 (l3 + 3)) fun v136 =>
      iv h133 l2 112 (Mod_plan F l2 v134 v135 v136 h133) fun r137 h138 =>
      if r132 = r137 then
        (R18 l0 l1 l2 (w32 (l3 + 6)) h138)
      else
        (rz 0 h138))
      | 18 => (xl h l0 (w32 (l3 + 1)) fun v139 =>
      xl h l0 (w32 (l3 + 2)) fun v140 =>
      xl h l0 (w32 (l3 + 3)) fun v141 =>
      iv h l1 111 (Tide_planAt F l1 v139 v140 v141 h) fun r142 h143 =>
      xl h143 l0 (w32 (l3 + 1)) fun v144 =>
      xl h143 l0 (w32 (l3 + 2)) fun v145 =>
      xl h143 l0 (w32 (l3 + 3)) fun v146 =>
      iv h143 l2 112 (Mod_planAt F l2 v144 v145 v146 h143) fun r147 h148 =>
      if r142 = r147 then
        (R18 l0 l1 l2 (w32 (l3 + 6)) h148)
      else
        (rz 0 h148))
      | 19 => (xl h l0 (w32 (l3 + 1)) fun v149 =>
      xl h l0 (w32 (l3 + 2)) fun v150 =>
      xl h l0 (w32 (l3 + 3)) fun v151 =>
      xl h l0 (w32 (l3 + 4)) fun v152 =>
      iv h l1 111 (Tide_two F l1 v149 v150 v151 v152 h) fun r153 h154 =>
      xl h154 l0 (w32 (l3 + 1)) fun v155 =>
      xl h154 l0 (w32 (l3 + 2)) fun v156 =>
      xl h154 l0 (w32 (l3 + 3)) fun v157 =>
      xl h154 l0 (w32 (l3 + 4)) fun v158 =>
      iv h154 l2 112 (Mod_two F l2 v155 v156 v157 v158 h154) fun r159 h160 =>
      if r153 = r159 then
        (R18 l0 l1 l2 (w32 (l3 + 6)) h160)
      else
        (rz 0 h160))
      | 20 => (xl h l0 (w32 (l3 + 1)) fun v161 =>
      xl h l0 (w32 (l3 + 2)) fun v162 =>
      iv h l1 111 (Tide_hands F l1 v161 v162 h) fun r163 h164 =>
      xl h164 l0 (w32 (l3 + 1)) fun v165 =>
      xl h164 l0 (w32 (l3 + 2)) fun v166 =>
      iv h164 l2 112 (Mod_hands F l2 v165 v166 h164) fun r167 h168 =>
      if r163 = r167 then
        (R18 l0 l1 l2 (w32 (l3 + 6)) h168)
      else
        (rz 0 h168))
      | 21 => (xl h l0 (w32 (l3 + 1)) fun v169 =>
      xl h l0 (w32 (l3 + 2)) fun v170 =>
      iv h l1 111 (Tide_spare F l1 v169 v170 h) fun r171 h172 =>
      xl h172 l0 (w32 (l3 + 1)) fun v173 =>
      xl h172 l0 (w32 (l3 + 2)) fun v174 =>
      iv h172 l2 112 (Mod_spare F l2 v173 v174 h172) fun r175 h176 =>
      if r171 = r175 then
        (R18 l0 l1 l2 (w32 (l3 + 6)) h176)
      else
        (rz 0 h176))
      | 22 => (xl h l0 (w32 (l3 + 1)) fun v177 =>
      xl h l0 (w32 (l3 + 2)) fun v178 =>
      iv h l1 111 (Tide_quickest F l1 v177 v178 h) fun r179 h180 =>
      xl h180 l0 (w32 (l3 + 1)) fun v181 =>
      xl h180 l0 (w32 (l3 + 2)) fun v182 =>
      iv h180 l2 112 (Mod_quickest F l2 v181 v182 h180) fun r183 h184 =>
      if r179 = r183 then
        (R18 l0 l1 l2 (w32 (l3 + 6)) h184)
      else
        (rz 0 h184))
      | 23 => (xl h l0 (w32 (l3 + 1)) fun v185 =>
      xl h l0 (w32 (l3 + 2)) fun v186 =>
      xl h l0 (w32 (l3 + 3)) fun v187 =>
      iv h l1 111 (Tide_mends F l1 v185 v186 v187 h) fun r188 h189 =>
      xl h189 l0 (w32 (l3 + 1)) fun v190 =>
      xl h189 l0 (w32 (l3 + 2)) fun v191 =>
      xl h189 l0 (w32 (l3 + 3)) fun v192 =>
      iv h189 l2 112 (Mod_mends F l2 v190 v191 v192 h189) fun r193 h194 =>
      if r188 = r193 then
        (R18 l0 l1 l2 (w32 (l3 + 6)) h194)
      else
        (rz 0 h194))
      | 24 => (xl h l0 (w32 (l3 + 1)) fun v195 =>
      xl h l0 (w32 (l3 + 2)) fun v196 =>
      xl h l0 (w32 (l3 + 3)) fun v197 =>
      iv h l1 111 (Tide_after F l1 v195 v196 v197 h) fun r198 h199 =>
      xl h199 l0 (w32 (l3 + 1)) fun v200 =>
      xl h199 l0 (w32 (l3 + 2)) fun v201 =>
      xl h199 l0 (w32 (l3 + 3)) fun v202 =>
      iv h199 l2 112 (Mod_after F l2 v200 v201 v202 h199) fun r203 h204 =>
      if r198 = r203 then
        (R18 l0 l1 l2 (w32 (l3 + 6)) h204)
      else
        (rz 0 h204))
      | 25 => (xl h l0 (w32 (l3 + 1)) fun v205 =>
      xl h l0 (w32 (l3 + 2)) fun v206 =>
      xl h l0 (w32 (l3 + 3)) fun v207 =>
      if v207 = 0 then
        (Law_law_B1019 F R18 l0 l1 l2 l3 0 v206 v205 l1 h)
      else
        (Law_law_B1019 F R18 l0 l1 l2 l3 1 v206 v205 l1 h))
      | 26 => (xl h l0 (w32 (l3 + 1)) fun v208 =>
      iv h l1 111 (Tide_large F l1 v208 h) fun r209 h210 =>
      xl h210 l0 (w32 (l3 + 1)) fun v211 =>
      iv h210 l2 112 (Mod_large F l2 v211 h210) fun r212 h213 =>
      if r209 = r212 then
        (R18 l0 l1 l2 (w32 (l3 + 6)) h213)
      else
        (rz 0 h213))
      | 27 => (xl h l0 (w32 (l3 + 1)) fun v214 =>
      xl h l0 (w32 (l3 + 2)) fun v215 =>
      xl h l0 (w32 (l3 + 3)) fun v216 =>
      iv h l1 111 (Tide_hopes F l1 v214 v215 v216 h) fun r217 h218 =>
      xl h218 l0 (w32 (l3 + 1)) fun v219 =>
      xl h218 l0 (w32 (l3 + 2)) fun v220 =>
      xl h218 l0 (w32 (l3 + 3)) fun v221 =>
      iv h218 l2 112 (Mod_hopes F l2 v219 v220 v221 h218) fun r222 h223 =>
      if r217 = r222 then
        (R18 l0 l1 l2 (w32 (l3 + 6)) h223)
      else
        (rz 0 h223))
      | 28 => (xl h l0 (w32 (l3 + 1)) fun v224 =>
      xl h l0 (w32 (l3 + 2)) fun v225 =>
      iv h l1 111 (Tide_hope F l1 v224 v225 h) fun r226 h227 =>
      xl h227 l0 (w32 (l3 + 1)) fun v228 =>
      xl h227 l0 (w32 (l3 + 2)) fun v229 =>
      iv h227 l2 112 (Mod_hope F l2 v228 v229 h227) fun r230 h231 =>
      if r226 = r230 then
        (R18 l0 l1 l2 (w32 (l3 + 6)) h231)
      else
        (rz 0 h231))
      | 29 => (xl h l0 (w32 (l3 + 1)) fun v232 =>
      xl h l0 (w32 (l3 + 2)) fun v233 =>
      iv h l1 111 (Tide_dog F l1 v232 v233 h) fun r234 h235 =>
      xl h235 l0 (w32 (l3 + 1)) fun v236 =>
      xl h235 l0 (w32 (l3 + 2)) fun v237 =>
      iv h235 l2 112 (Mod_dog F l2 v236 v237 h235) fun r238 h239 =>
      if r234 = r238 then
        (R18 l0 l1 l2 (w32 (l3 + 6)) h239)
      else
        (rz 0 h239))
      | 30 => (xl h l0 (w32 (l3 + 1)) fun v240 =>
      xl h l0 (w32 (l3 + 2)) fun v241 =>
      if v241 = 0 then
        (Law_law_B1205 F R18 l0 l1 l2 l3 0 v240 l1 h)
      else
        (Law_law_B1205 F R18 l0 l1 l2 l3 1 v240 l1 h))
      | 31 => (xl h l0 (w32 (l3 + 1)) fun v242 =>
      iv h l1 111 (Tide_fails F l1 v242 h) fun r243 h244 =>
      xl h244 l0 (w32 (l3 + 1)) fun v245 =>
      iv h244 l2 112 (Mod_fails F l2 v245 h244) fun r246 h247 =>
      if r243 = r246 then
        (R18 l0 l1 l2 (w32 (l3 + 6)) h247)
      else
        (rz 0 h247))
      | 32 => (xl h l0 (w32 (l3 + 1)) fun v248 =>
      xl h l0 (w32 (l3 + 2)) fun v249 =>
      xl h l0 (w32 (l3 + 3)) fun v250 =>
      if v250 = 0 then
        (Law_law_B1282 F R18 l0 l1 l2 l3 0 v249 v248 l1 h)
      else
        (Law_law_B1282 F R18 l0 l1 l2 l3 1 v249 v248 l1 h))
      | 33 => (iv h l1 111 (Tide_forget F l1 h) fun r251 h252 =>
      iv h252 l2 112 (Mod_forget F l2 h252) fun r253 h254 =>
      if r251 = r253 then
        (R18 l0 l1 l2 (w32 (l3 + 6)) h254)
      else
        (rz 0 h254))
      | 34 => (xl h l0 (w32 (l3 + 1)) fun v255 =>
      xl h l0 (w32 (l3 + 2)) fun v256 =>
      iv h l1 111 (Tide_late F l1 v255 v256 h) fun r257 h258 =>
      xl h258 l0 (w32 (l3 + 1)) fun v259 =>
      xl h258 l0 (w32 (l3 + 2)) fun v260 =>
      iv h258 l2 112 (Mod_late F l2 v259 v260 h258) fun r261 h262 =>
      if r257 = r261 then
        (R18 l0 l1 l2 (w32 (l3 + 6)) h262)
      else
        (rz 0 h262))
      | 35 => (xl h l0 (w32 (l3 + 1)) fun v263 =>
      iv h l1 111 (Tide_hold F l1 v263 h) fun r264 h265 =>
      xl h265 l0 (w32 (l3 + 1)) fun v266 =>
      iv h265 l2 112 (Mod_hold F l2 v266 h265) fun r267 h268 =>
      if r264 = r267 then
        (R18 l0 l1 l2 (w32 (l3 + 6)) h268)
      else
        (rz 0 h268))
      | 36 => (xl h l0 (w32 (l3 + 1)) fun v269 =>
      iv h l1 111 (Tide_restore F l1 v269 h) fun r270 h271 =>
      xl h271 l0 (w32 (l3 + 1)) fun v272 =>
      iv h271 l2 112 (Mod_restore F l2 v272 h271) fun r273 h274 =>
      if r270 = r273 then
        (R18 l0 l1 l2 (w32 (l3 + 6)) h274)
      else
        (rz 0 h274))
      | _ => (xl h l0 (w32 (l3 + 1)) fun v275 =>
      iv h l1 111 (Tide_count F l1 v275 h) fun r276 h277 =>
      xl h277 l0 (w32 (l3 + 1)) fun v278 =>
      iv h277 l2 112 (Mod_count F l2 v278 h277) fun r279 h280 =>
      if r276 = r279 then
        (R18 l0 l1 l2 (w32 (l3 + 6)) h280)
      else
        (rz 0 h280)))
      (R18 l0 l1 l2 (w32 (l3 + 6)) h))
def Law_law_L18 (F : Nat)  : Nat → Int → Int → Int → Int → Hp → Option (Int × Hp)
  | 0 => fun _ _ _ _ _ => none
  | n + 1 => Law_law_L18s F  (Law_law_L18 F  n)
def Law_law (F : Nat) (l0 : Int) (h : Hp) : Option (Int × Hp) :=
  no h 111 14 fun v1 h2 =>
  iv h2 v1 111 (Tide_init F v1 h2) fun r3 h4 =>
  no h4 112 86 fun v5 h6 =>
  iv h6 v5 112 (Mod_init F v5 h6) fun r7 h8 =>
  Law_law_L18 F F l0 v1 v5 0 h8

theorem dc_Law_law_0 : ∀ q ∈ ([(0, .new 7, 3), (3, .dup, 1), (4, .invokespecial 9, 3), (7, .astore_n 1, 1), (8, .new 10, 3), (11, .dup, 1), (12, .invokespecial 12, 3), (15, .astore_n 2, 1), (16, .iconst 0, 1), (17, .istore_n 3, 1), (18, .iload_n 3, 1), (19, .aload_n 0, 1), (20, .arraylength, 1), (21, .bipush 6, 2), (23, .isub, 1), (24, .if_icmp .gt 1414, 3), (27, .aload_n 0, 1), (28, .iload_n 3, 1), (29, .iaload, 1), (30, .bipush 63, 2), (32, .iand, 1), (33, .tableswitch 1399 0 37 #[167, 230, 253, 266, 279, 312, 345, 378, 411, 444, 477, 500, 533, 546, 569, 592, 605, 638, 681, 724, 777, 810, 843, 876, 919, 962, 1021, 1044, 1087, 1120, 1153, 1202, 1225, 1284, 1297, 1330, 1353, 1376], 167), (200, .aload_n 1, 1), (201, .aload_n 0, 1), (202, .iload_n 3, 1), (203, .iconst 1, 1), (204, .iadd, 1), (205, .iaload, 1), (206, .aload_n 0, 1), (207, .iload_n 3, 1), (208, .iconst 2, 1), (209, .iadd, 1), (210, .iaload, 1), (211, .aload_n 0, 1), (212, .iload_n 3, 1), (213, .iconst 3, 1), (214, .iadd, 1), (215, .iaload, 1), (216, .aload_n 0, 1), (217, .iload_n 3, 1), (218, .iconst 4, 1), (219, .iadd, 1), (220, .iaload, 1), (221, .aload_n 0, 1), (222, .iload_n 3, 1), (223, .iconst 5, 1), (224, .iadd, 1), (225, .iaload, 1), (226, .invokevirtual 13, 3), (229, .aload_n 2, 1)] : List (Nat × Instr × Nat)), decode cL_law q.1 = .ok (q.2.1, q.2.2) := by decide +kernel
theorem dc_Law_law_1 : ∀ q ∈ ([(230, .aload_n 0, 1), (231, .iload_n 3, 1), (232, .iconst 1, 1), (233, .iadd, 1), (234, .iaload, 1), (235, .aload_n 0, 1), (236, .iload_n 3, 1), (237, .iconst 2, 1), (238, .iadd, 1), (239, .iaload, 1), (240, .aload_n 0, 1), (241, .iload_n 3, 1), (242, .iconst 3, 1), (243, .iadd, 1), (244, .iaload, 1), (245, .aload_n 0, 1), (246, .iload_n 3, 1), (247, .iconst 4, 1), (248, .iadd, 1), (249, .iaload, 1), (250, .aload_n 0, 1), (251, .iload_n 3, 1), (252, .iconst 5, 1), (253, .iadd, 1), (254, .iaload, 1), (255, .invokevirtual 17, 3), (258, .if_icmp .eq 1174, 3), (261, .iconst 0, 1), (262, .ireturn, 1), (263, .aload_n 1, 1), (264, .aload_n 0, 1), (265, .iload_n 3, 1), (266, .iconst 1, 1), (267, .iadd, 1), (268, .iaload, 1), (269, .invokevirtual 18, 3), (272, .aload_n 2, 1), (273, .aload_n 0, 1), (274, .iload_n 3, 1), (275, .iconst 1, 1), (276, .iadd, 1), (277, .iaload, 1), (278, .invokevirtual 22, 3), (281, .if_icmp .eq 1151, 3), (284, .iconst 0, 1), (285, .ireturn, 1), (286, .aload_n 1, 1), (287, .invokevirtual 23, 3), (290, .aload_n 2, 1), (291, .invokevirtual 27, 3)] : List (Nat × Instr × Nat)), decode cL_law q.1 = .ok (q.2.1, q.2.2) := by decide +kernel
theorem dc_Law_law_2 : ∀ q ∈ ([(294, .if_icmp .eq 1138, 3), (297, .iconst 0, 1), (298, .ireturn, 1), (299, .aload_n 1, 1), (300, .invokevirtual 28, 3), (303, .aload_n 2, 1), (304, .invokevirtual 31, 3), (307, .if_icmp .eq 1125, 3), (310, .iconst 0, 1), (311, .ireturn, 1), (312, .aload_n 1, 1), (313, .aload_n 0, 1), (314, .iload_n 3, 1), (315, .iconst 1, 1), (316, .iadd, 1), (317, .iaload, 1), (318, .aload_n 0, 1), (319, .iload_n 3, 1), (320, .iconst 2, 1), (321, .iadd, 1), (322, .iaload, 1), (323, .invokevirtual 32, 3), (326, .aload_n 2, 1), (327, .aload_n 0, 1), (328, .iload_n 3, 1), (329, .iconst 1, 1), (330, .iadd, 1), (331, .iaload, 1), (332, .aload_n 0, 1), (333, .iload_n 3, 1), (334, .iconst 2, 1), (335, .iadd, 1), (336, .iaload, 1), (337, .invokevirtual 36, 3), (340, .if_icmp .eq 1092, 3), (343, .iconst 0, 1), (344, .ireturn, 1), (345, .aload_n 1, 1), (346, .aload_n 0, 1), (347, .iload_n 3, 1), (348, .iconst 1, 1), (349, .iadd, 1), (350, .iaload, 1), (351, .aload_n 0, 1), (352, .iload_n 3, 1), (353, .iconst 2, 1), (354, .iadd, 1), (355, .iaload, 1), (356, .invokevirtual 37, 3), (359, .aload_n 2, 1)] : List (Nat × Instr × Nat)), decode cL_law q.1 = .ok (q.2.1, q.2.2) := by decide +kernel
theorem dc_Law_law_3 : ∀ q ∈ ([(360, .aload_n 0, 1), (361, .iload_n 3, 1), (362, .iconst 1, 1), (363, .iadd, 1), (364, .iaload, 1), (365, .aload_n 0, 1), (366, .iload_n 3, 1), (367, .iconst 2, 1), (368, .iadd, 1), (369, .iaload, 1), (370, .invokevirtual 40, 3), (373, .if_icmp .eq 1059, 3), (376, .iconst 0, 1), (377, .ireturn, 1), (378, .aload_n 1, 1), (379, .aload_n 0, 1), (380, .iload_n 3, 1), (381, .iconst 1, 1), (382, .iadd, 1), (383, .iaload, 1), (384, .aload_n 0, 1), (385, .iload_n 3, 1), (386, .iconst 2, 1), (387, .iadd, 1), (388, .iaload, 1), (389, .invokevirtual 41, 3), (392, .aload_n 2, 1), (393, .aload_n 0, 1), (394, .iload_n 3, 1), (395, .iconst 1, 1), (396, .iadd, 1), (397, .iaload, 1), (398, .aload_n 0, 1), (399, .iload_n 3, 1), (400, .iconst 2, 1), (401, .iadd, 1), (402, .iaload, 1), (403, .invokevirtual 44, 3), (406, .if_icmp .eq 1026, 3), (409, .iconst 0, 1), (410, .ireturn, 1), (411, .aload_n 1, 1), (412, .aload_n 0, 1), (413, .iload_n 3, 1), (414, .iconst 1, 1), (415, .iadd, 1), (416, .iaload, 1), (417, .aload_n 0, 1), (418, .iload_n 3, 1), (419, .iconst 2, 1)] : List (Nat × Instr × Nat)), decode cL_law q.1 = .ok (q.2.1, q.2.2) := by decide +kernel
theorem dc_Law_law_4 : ∀ q ∈ ([(420, .iadd, 1), (421, .iaload, 1), (422, .invokevirtual 45, 3), (425, .aload_n 2, 1), (426, .aload_n 0, 1), (427, .iload_n 3, 1), (428, .iconst 1, 1), (429, .iadd, 1), (430, .iaload, 1), (431, .aload_n 0, 1), (432, .iload_n 3, 1), (433, .iconst 2, 1), (434, .iadd, 1), (435, .iaload, 1), (436, .invokevirtual 48, 3), (439, .if_icmp .eq 993, 3), (442, .iconst 0, 1), (443, .ireturn, 1), (444, .aload_n 1, 1), (445, .aload_n 0, 1), (446, .iload_n 3, 1), (447, .iconst 1, 1), (448, .iadd, 1), (449, .iaload, 1), (450, .aload_n 0, 1), (451, .iload_n 3, 1), (452, .iconst 2, 1), (453, .iadd, 1), (454, .iaload, 1), (455, .invokevirtual 49, 3), (458, .aload_n 2, 1), (459, .aload_n 0, 1), (460, .iload_n 3, 1), (461, .iconst 1, 1), (462, .iadd, 1), (463, .iaload, 1), (464, .aload_n 0, 1), (465, .iload_n 3, 1), (466, .iconst 2, 1), (467, .iadd, 1), (468, .iaload, 1), (469, .invokevirtual 52, 3), (472, .if_icmp .eq 960, 3), (475, .iconst 0, 1), (476, .ireturn, 1), (477, .aload_n 1, 1), (478, .aload_n 0, 1), (479, .iload_n 3, 1), (480, .iconst 1, 1), (481, .iadd, 1)] : List (Nat × Instr × Nat)), decode cL_law q.1 = .ok (q.2.1, q.2.2) := by decide +kernel
theorem dc_Law_law_5 : ∀ q ∈ ([(482, .iaload, 1), (483, .aload_n 0, 1), (484, .iload_n 3, 1), (485, .iconst 2, 1), (486, .iadd, 1), (487, .iaload, 1), (488, .invokevirtual 53, 3), (491, .aload_n 2, 1), (492, .aload_n 0, 1), (493, .iload_n 3, 1), (494, .iconst 1, 1), (495, .iadd, 1), (496, .iaload, 1), (497, .aload_n 0, 1), (498, .iload_n 3, 1), (499, .iconst 2, 1), (500, .iadd, 1), (501, .iaload, 1), (502, .invokevirtual 56, 3), (505, .if_icmp .eq 927, 3), (508, .iconst 0, 1), (509, .ireturn, 1), (510, .aload_n 1, 1), (511, .aload_n 0, 1), (512, .iload_n 3, 1), (513, .iconst 1, 1), (514, .iadd, 1), (515, .iaload, 1), (516, .invokevirtual 57, 3), (519, .aload_n 2, 1), (520, .aload_n 0, 1), (521, .iload_n 3, 1), (522, .iconst 1, 1), (523, .iadd, 1), (524, .iaload, 1), (525, .invokevirtual 61, 3), (528, .if_icmp .eq 904, 3), (531, .iconst 0, 1), (532, .ireturn, 1), (533, .aload_n 1, 1), (534, .aload_n 0, 1), (535, .iload_n 3, 1), (536, .iconst 1, 1), (537, .iadd, 1), (538, .iaload, 1), (539, .aload_n 0, 1), (540, .iload_n 3, 1), (541, .iconst 2, 1), (542, .iadd, 1), (543, .iaload, 1)] : List (Nat × Instr × Nat)), decode cL_law q.1 = .ok (q.2.1, q.2.2) := by decide +kernel
theorem dc_Law_law_6 : ∀ q ∈ ([(544, .invokevirtual 62, 3), (547, .aload_n 2, 1), (548, .aload_n 0, 1), (549, .iload_n 3, 1), (550, .iconst 1, 1), (551, .iadd, 1), (552, .iaload, 1), (553, .aload_n 0, 1), (554, .iload_n 3, 1), (555, .iconst 2, 1), (556, .iadd, 1), (557, .iaload, 1), (558, .invokevirtual 65, 3), (561, .if_icmp .eq 871, 3), (564, .iconst 0, 1), (565, .ireturn, 1), (566, .aload_n 1, 1), (567, .invokevirtual 66, 3), (570, .aload_n 2, 1), (571, .invokevirtual 70, 3), (574, .if_icmp .eq 858, 3), (577, .iconst 0, 1), (578, .ireturn, 1), (579, .aload_n 1, 1), (580, .aload_n 0, 1), (581, .iload_n 3, 1), (582, .iconst 1, 1), (583, .iadd, 1), (584, .iaload, 1), (585, .invokevirtual 71, 3), (588, .aload_n 2, 1), (589, .aload_n 0, 1), (590, .iload_n 3, 1), (591, .iconst 1, 1), (592, .iadd, 1), (593, .iaload, 1), (594, .invokevirtual 74, 3), (597, .if_icmp .eq 835, 3), (600, .iconst 0, 1), (601, .ireturn, 1), (602, .aload_n 1, 1), (603, .aload_n 0, 1), (604, .iload_n 3, 1), (605, .iconst 1, 1), (606, .iadd, 1), (607, .iaload, 1), (608, .invokevirtual 75, 3), (611, .aload_n 2, 1), (612, .aload_n 0, 1), (613, .iload_n 3, 1)] : List (Nat × Instr × Nat)), decode cL_law q.1 = .ok (q.2.1, q.2.2) := by decide +kernel
theorem dc_Law_law_7 : ∀ q ∈ ([(614, .iconst 1, 1), (615, .iadd, 1), (616, .iaload, 1), (617, .invokevirtual 78, 3), (620, .if_icmp .eq 812, 3), (623, .iconst 0, 1), (624, .ireturn, 1), (625, .aload_n 1, 1), (626, .invokevirtual 79, 3), (629, .aload_n 2, 1), (630, .invokevirtual 82, 3), (633, .if_icmp .eq 799, 3), (636, .iconst 0, 1), (637, .ireturn, 1), (638, .aload_n 1, 1), (639, .aload_n 0, 1), (640, .iload_n 3, 1), (641, .iconst 1, 1), (642, .iadd, 1), (643, .iaload, 1), (644, .aload_n 0, 1), (645, .iload_n 3, 1), (646, .iconst 2, 1), (647, .iadd, 1), (648, .iaload, 1), (649, .invokevirtual 83, 3), (652, .aload_n 2, 1), (653, .aload_n 0, 1), (654, .iload_n 3, 1), (655, .iconst 1, 1), (656, .iadd, 1), (657, .iaload, 1), (658, .aload_n 0, 1), (659, .iload_n 3, 1), (660, .iconst 2, 1), (661, .iadd, 1), (662, .iaload, 1), (663, .invokevirtual 86, 3), (666, .if_icmp .eq 766, 3), (669, .iconst 0, 1), (670, .ireturn, 1), (671, .aload_n 1, 1), (672, .aload_n 0, 1), (673, .iload_n 3, 1), (674, .iconst 1, 1), (675, .iadd, 1), (676, .iaload, 1), (677, .aload_n 0, 1), (678, .iload_n 3, 1), (679, .iconst 2, 1)] : List (Nat × Instr × Nat)), decode cL_law q.1 = .ok (q.2.1, q.2.2) := by decide +kernel
theorem dc_Law_law_8 : ∀ q ∈ ([(680, .iadd, 1), (681, .iaload, 1), (682, .aload_n 0, 1), (683, .iload_n 3, 1), (684, .iconst 3, 1), (685, .iadd, 1), (686, .iaload, 1), (687, .invokevirtual 87, 3), (690, .aload_n 2, 1), (691, .aload_n 0, 1), (692, .iload_n 3, 1), (693, .iconst 1, 1), (694, .iadd, 1), (695, .iaload, 1), (696, .aload_n 0, 1), (697, .iload_n 3, 1), (698, .iconst 2, 1), (699, .iadd, 1), (700, .iaload, 1), (701, .aload_n 0, 1), (702, .iload_n 3, 1), (703, .iconst 3, 1), (704, .iadd, 1), (705, .iaload, 1), (706, .invokevirtual 91, 3), (709, .if_icmp .eq 723, 3), (712, .iconst 0, 1), (713, .ireturn, 1), (714, .aload_n 1, 1), (715, .aload_n 0, 1), (716, .iload_n 3, 1), (717, .iconst 1, 1), (718, .iadd, 1), (719, .iaload, 1), (720, .aload_n 0, 1), (721, .iload_n 3, 1), (722, .iconst 2, 1), (723, .iadd, 1), (724, .iaload, 1), (725, .aload_n 0, 1), (726, .iload_n 3, 1), (727, .iconst 3, 1), (728, .iadd, 1), (729, .iaload, 1), (730, .invokevirtual 92, 3), (733, .aload_n 2, 1), (734, .aload_n 0, 1), (735, .iload_n 3, 1), (736, .iconst 1, 1), (737, .iadd, 1)] : List (Nat × Instr × Nat)), decode cL_law q.1 = .ok (q.2.1, q.2.2) := by decide +kernel
theorem dc_Law_law_9 : ∀ q ∈ ([(738, .iaload, 1), (739, .aload_n 0, 1), (740, .iload_n 3, 1), (741, .iconst 2, 1), (742, .iadd, 1), (743, .iaload, 1), (744, .aload_n 0, 1), (745, .iload_n 3, 1), (746, .iconst 3, 1), (747, .iadd, 1), (748, .iaload, 1), (749, .invokevirtual 95, 3), (752, .if_icmp .eq 680, 3), (755, .iconst 0, 1), (756, .ireturn, 1), (757, .aload_n 1, 1), (758, .aload_n 0, 1), (759, .iload_n 3, 1), (760, .iconst 1, 1), (761, .iadd, 1), (762, .iaload, 1), (763, .aload_n 0, 1), (764, .iload_n 3, 1), (765, .iconst 2, 1), (766, .iadd, 1), (767, .iaload, 1), (768, .aload_n 0, 1), (769, .iload_n 3, 1), (770, .iconst 3, 1), (771, .iadd, 1), (772, .iaload, 1), (773, .aload_n 0, 1), (774, .iload_n 3, 1), (775, .iconst 4, 1), (776, .iadd, 1), (777, .iaload, 1), (778, .invokevirtual 96, 3), (781, .aload_n 2, 1), (782, .aload_n 0, 1), (783, .iload_n 3, 1), (784, .iconst 1, 1), (785, .iadd, 1), (786, .iaload, 1), (787, .aload_n 0, 1), (788, .iload_n 3, 1), (789, .iconst 2, 1), (790, .iadd, 1), (791, .iaload, 1), (792, .aload_n 0, 1), (793, .iload_n 3, 1)] : List (Nat × Instr × Nat)), decode cL_law q.1 = .ok (q.2.1, q.2.2) := by decide +kernel
theorem dc_Law_law_10 : ∀ q ∈ ([(794, .iconst 3, 1), (795, .iadd, 1), (796, .iaload, 1), (797, .aload_n 0, 1), (798, .iload_n 3, 1), (799, .iconst 4, 1), (800, .iadd, 1), (801, .iaload, 1), (802, .invokevirtual 100, 3), (805, .if_icmp .eq 627, 3), (808, .iconst 0, 1), (809, .ireturn, 1), (810, .aload_n 1, 1), (811, .aload_n 0, 1), (812, .iload_n 3, 1), (813, .iconst 1, 1), (814, .iadd, 1), (815, .iaload, 1), (816, .aload_n 0, 1), (817, .iload_n 3, 1), (818, .iconst 2, 1), (819, .iadd, 1), (820, .iaload, 1), (821, .invokevirtual 101, 3), (824, .aload_n 2, 1), (825, .aload_n 0, 1), (826, .iload_n 3, 1), (827, .iconst 1, 1), (828, .iadd, 1), (829, .iaload, 1), (830, .aload_n 0, 1), (831, .iload_n 3, 1), (832, .iconst 2, 1), (833, .iadd, 1), (834, .iaload, 1), (835, .invokevirtual 104, 3), (838, .if_icmp .eq 594, 3), (841, .iconst 0, 1), (842, .ireturn, 1), (843, .aload_n 1, 1), (844, .aload_n 0, 1), (845, .iload_n 3, 1), (846, .iconst 1, 1), (847, .iadd, 1), (848, .iaload, 1), (849, .aload_n 0, 1), (850, .iload_n 3, 1), (851, .iconst 2, 1), (852, .iadd, 1), (853, .iaload, 1)] : List (Nat × Instr × Nat)), decode cL_law q.1 = .ok (q.2.1, q.2.2) := by decide +kernel
theorem dc_Law_law_11 : ∀ q ∈ ([(854, .invokevirtual 105, 3), (857, .aload_n 2, 1), (858, .aload_n 0, 1), (859, .iload_n 3, 1), (860, .iconst 1, 1), (861, .iadd, 1), (862, .iaload, 1), (863, .aload_n 0, 1), (864, .iload_n 3, 1), (865, .iconst 2, 1), (866, .iadd, 1), (867, .iaload, 1), (868, .invokevirtual 108, 3), (871, .if_icmp .eq 561, 3), (874, .iconst 0, 1), (875, .ireturn, 1), (876, .aload_n 1, 1), (877, .aload_n 0, 1), (878, .iload_n 3, 1), (879, .iconst 1, 1), (880, .iadd, 1), (881, .iaload, 1), (882, .aload_n 0, 1), (883, .iload_n 3, 1), (884, .iconst 2, 1), (885, .iadd, 1), (886, .iaload, 1), (887, .invokevirtual 109, 3), (890, .aload_n 2, 1), (891, .aload_n 0, 1), (892, .iload_n 3, 1), (893, .iconst 1, 1), (894, .iadd, 1), (895, .iaload, 1), (896, .aload_n 0, 1), (897, .iload_n 3, 1), (898, .iconst 2, 1), (899, .iadd, 1), (900, .iaload, 1), (901, .invokevirtual 112, 3), (904, .if_icmp .eq 528, 3), (907, .iconst 0, 1), (908, .ireturn, 1), (909, .aload_n 1, 1), (910, .aload_n 0, 1), (911, .iload_n 3, 1), (912, .iconst 1, 1), (913, .iadd, 1), (914, .iaload, 1), (915, .aload_n 0, 1)] : List (Nat × Instr × Nat)), decode cL_law q.1 = .ok (q.2.1, q.2.2) := by decide +kernel
theorem dc_Law_law_12 : ∀ q ∈ ([(916, .iload_n 3, 1), (917, .iconst 2, 1), (918, .iadd, 1), (919, .iaload, 1), (920, .aload_n 0, 1), (921, .iload_n 3, 1), (922, .iconst 3, 1), (923, .iadd, 1), (924, .iaload, 1), (925, .invokevirtual 113, 3), (928, .aload_n 2, 1), (929, .aload_n 0, 1), (930, .iload_n 3, 1), (931, .iconst 1, 1), (932, .iadd, 1), (933, .iaload, 1), (934, .aload_n 0, 1), (935, .iload_n 3, 1), (936, .iconst 2, 1), (937, .iadd, 1), (938, .iaload, 1), (939, .aload_n 0, 1), (940, .iload_n 3, 1), (941, .iconst 3, 1), (942, .iadd, 1), (943, .iaload, 1), (944, .invokevirtual 116, 3), (947, .if_icmp .eq 485, 3), (950, .iconst 0, 1), (951, .ireturn, 1), (952, .aload_n 1, 1), (953, .aload_n 0, 1), (954, .iload_n 3, 1), (955, .iconst 1, 1), (956, .iadd, 1), (957, .iaload, 1), (958, .aload_n 0, 1), (959, .iload_n 3, 1), (960, .iconst 2, 1), (961, .iadd, 1), (962, .iaload, 1), (963, .aload_n 0, 1), (964, .iload_n 3, 1), (965, .iconst 3, 1), (966, .iadd, 1), (967, .iaload, 1), (968, .invokevirtual 117, 3), (971, .aload_n 2, 1), (972, .aload_n 0, 1), (973, .iload_n 3, 1)] : List (Nat × Instr × Nat)), decode cL_law q.1 = .ok (q.2.1, q.2.2) := by decide +kernel
theorem dc_Law_law_13 : ∀ q ∈ ([(974, .iconst 1, 1), (975, .iadd, 1), (976, .iaload, 1), (977, .aload_n 0, 1), (978, .iload_n 3, 1), (979, .iconst 2, 1), (980, .iadd, 1), (981, .iaload, 1), (982, .aload_n 0, 1), (983, .iload_n 3, 1), (984, .iconst 3, 1), (985, .iadd, 1), (986, .iaload, 1), (987, .invokevirtual 120, 3), (990, .if_icmp .eq 442, 3), (993, .iconst 0, 1), (994, .ireturn, 1), (995, .aload_n 1, 1), (996, .aload_n 0, 1), (997, .iload_n 3, 1), (998, .iconst 1, 1), (999, .iadd, 1), (1000, .iaload, 1), (1001, .aload_n 0, 1), (1002, .iload_n 3, 1), (1003, .iconst 2, 1), (1004, .iadd, 1), (1005, .iaload, 1), (1006, .aload_n 0, 1), (1007, .iload_n 3, 1), (1008, .iconst 3, 1), (1009, .iadd, 1), (1010, .iaload, 1), (1011, .ifCond .eq 7, 3), (1014, .iconst 1, 1), (1015, .goto 4, 3), (1018, .iconst 0, 1), (1019, .invokevirtual 121, 3), (1022, .aload_n 2, 1), (1023, .aload_n 0, 1), (1024, .iload_n 3, 1), (1025, .iconst 1, 1), (1026, .iadd, 1), (1027, .iaload, 1), (1028, .aload_n 0, 1), (1029, .iload_n 3, 1), (1030, .iconst 2, 1), (1031, .iadd, 1), (1032, .iaload, 1), (1033, .aload_n 0, 1)] : List (Nat × Instr × Nat)), decode cL_law q.1 = .ok (q.2.1, q.2.2) := by decide +kernel
theorem dc_Law_law_14 : ∀ q ∈ ([(1034, .iload_n 3, 1), (1035, .iconst 3, 1), (1036, .iadd, 1), (1037, .iaload, 1), (1038, .ifCond .eq 7, 3), (1041, .iconst 1, 1), (1042, .goto 4, 3), (1045, .iconst 0, 1), (1046, .invokevirtual 125, 3), (1049, .if_icmp .eq 383, 3), (1052, .iconst 0, 1), (1053, .ireturn, 1), (1054, .aload_n 1, 1), (1055, .aload_n 0, 1), (1056, .iload_n 3, 1), (1057, .iconst 1, 1), (1058, .iadd, 1), (1059, .iaload, 1), (1060, .invokevirtual 126, 3), (1063, .aload_n 2, 1), (1064, .aload_n 0, 1), (1065, .iload_n 3, 1), (1066, .iconst 1, 1), (1067, .iadd, 1), (1068, .iaload, 1), (1069, .invokevirtual 129, 3), (1072, .if_icmp .eq 360, 3), (1075, .iconst 0, 1), (1076, .ireturn, 1), (1077, .aload_n 1, 1), (1078, .aload_n 0, 1), (1079, .iload_n 3, 1), (1080, .iconst 1, 1), (1081, .iadd, 1), (1082, .iaload, 1), (1083, .aload_n 0, 1), (1084, .iload_n 3, 1), (1085, .iconst 2, 1), (1086, .iadd, 1), (1087, .iaload, 1), (1088, .aload_n 0, 1), (1089, .iload_n 3, 1), (1090, .iconst 3, 1), (1091, .iadd, 1), (1092, .iaload, 1), (1093, .invokevirtual 130, 3), (1096, .aload_n 2, 1), (1097, .aload_n 0, 1), (1098, .iload_n 3, 1), (1099, .iconst 1, 1)] : List (Nat × Instr × Nat)), decode cL_law q.1 = .ok (q.2.1, q.2.2) := by decide +kernel
theorem dc_Law_law_15 : ∀ q ∈ ([(1100, .iadd, 1), (1101, .iaload, 1), (1102, .aload_n 0, 1), (1103, .iload_n 3, 1), (1104, .iconst 2, 1), (1105, .iadd, 1), (1106, .iaload, 1), (1107, .aload_n 0, 1), (1108, .iload_n 3, 1), (1109, .iconst 3, 1), (1110, .iadd, 1), (1111, .iaload, 1), (1112, .invokevirtual 133, 3), (1115, .if_icmp .eq 317, 3), (1118, .iconst 0, 1), (1119, .ireturn, 1), (1120, .aload_n 1, 1), (1121, .aload_n 0, 1), (1122, .iload_n 3, 1), (1123, .iconst 1, 1), (1124, .iadd, 1), (1125, .iaload, 1), (1126, .aload_n 0, 1), (1127, .iload_n 3, 1), (1128, .iconst 2, 1), (1129, .iadd, 1), (1130, .iaload, 1), (1131, .invokevirtual 134, 3), (1134, .aload_n 2, 1), (1135, .aload_n 0, 1), (1136, .iload_n 3, 1), (1137, .iconst 1, 1), (1138, .iadd, 1), (1139, .iaload, 1), (1140, .aload_n 0, 1), (1141, .iload_n 3, 1), (1142, .iconst 2, 1), (1143, .iadd, 1), (1144, .iaload, 1), (1145, .invokevirtual 137, 3), (1148, .if_icmp .eq 284, 3), (1151, .iconst 0, 1), (1152, .ireturn, 1), (1153, .aload_n 1, 1), (1154, .aload_n 0, 1), (1155, .iload_n 3, 1), (1156, .iconst 1, 1), (1157, .iadd, 1), (1158, .iaload, 1), (1159, .aload_n 0, 1)] : List (Nat × Instr × Nat)), decode cL_law q.1 = .ok (q.2.1, q.2.2) := by decide +kernel
theorem dc_Law_law_16 : ∀ q ∈ ([(1160, .iload_n 3, 1), (1161, .iconst 2, 1), (1162, .iadd, 1), (1163, .iaload, 1), (1164, .invokevirtual 138, 3), (1167, .aload_n 2, 1), (1168, .aload_n 0, 1), (1169, .iload_n 3, 1), (1170, .iconst 1, 1), (1171, .iadd, 1), (1172, .iaload, 1), (1173, .aload_n 0, 1), (1174, .iload_n 3, 1), (1175, .iconst 2, 1), (1176, .iadd, 1), (1177, .iaload, 1), (1178, .invokevirtual 141, 3), (1181, .if_icmp .eq 251, 3), (1184, .iconst 0, 1), (1185, .ireturn, 1), (1186, .aload_n 1, 1), (1187, .aload_n 0, 1), (1188, .iload_n 3, 1), (1189, .iconst 1, 1), (1190, .iadd, 1), (1191, .iaload, 1), (1192, .aload_n 0, 1), (1193, .iload_n 3, 1), (1194, .iconst 2, 1), (1195, .iadd, 1), (1196, .iaload, 1), (1197, .ifCond .eq 7, 3), (1200, .iconst 1, 1), (1201, .goto 4, 3), (1204, .iconst 0, 1), (1205, .invokevirtual 142, 3), (1208, .aload_n 2, 1), (1209, .aload_n 0, 1), (1210, .iload_n 3, 1), (1211, .iconst 1, 1), (1212, .iadd, 1), (1213, .iaload, 1), (1214, .aload_n 0, 1), (1215, .iload_n 3, 1), (1216, .iconst 2, 1), (1217, .iadd, 1), (1218, .iaload, 1), (1219, .ifCond .eq 7, 3), (1222, .iconst 1, 1), (1223, .goto 4, 3)] : List (Nat × Instr × Nat)), decode cL_law q.1 = .ok (q.2.1, q.2.2) := by decide +kernel
theorem dc_Law_law_17 : ∀ q ∈ ([(1226, .iconst 0, 1), (1227, .invokevirtual 146, 3), (1230, .if_icmp .eq 202, 3), (1233, .iconst 0, 1), (1234, .ireturn, 1), (1235, .aload_n 1, 1), (1236, .aload_n 0, 1), (1237, .iload_n 3, 1), (1238, .iconst 1, 1), (1239, .iadd, 1), (1240, .iaload, 1), (1241, .invokevirtual 147, 3), (1244, .aload_n 2, 1), (1245, .aload_n 0, 1), (1246, .iload_n 3, 1), (1247, .iconst 1, 1), (1248, .iadd, 1), (1249, .iaload, 1), (1250, .invokevirtual 150, 3), (1253, .if_icmp .eq 179, 3), (1256, .iconst 0, 1), (1257, .ireturn, 1), (1258, .aload_n 1, 1), (1259, .aload_n 0, 1), (1260, .iload_n 3, 1), (1261, .iconst 1, 1), (1262, .iadd, 1), (1263, .iaload, 1), (1264, .aload_n 0, 1), (1265, .iload_n 3, 1), (1266, .iconst 2, 1), (1267, .iadd, 1), (1268, .iaload, 1), (1269, .aload_n 0, 1), (1270, .iload_n 3, 1), (1271, .iconst 3, 1), (1272, .iadd, 1), (1273, .iaload, 1), (1274, .ifCond .eq 7, 3), (1277, .iconst 1, 1), (1278, .goto 4, 3), (1281, .iconst 0, 1), (1282, .invokevirtual 151, 3), (1285, .aload_n 2, 1), (1286, .aload_n 0, 1), (1287, .iload_n 3, 1), (1288, .iconst 1, 1), (1289, .iadd, 1), (1290, .iaload, 1), (1291, .aload_n 0, 1)] : List (Nat × Instr × Nat)), decode cL_law q.1 = .ok (q.2.1, q.2.2) := by decide +kernel
theorem dc_Law_law_18 : ∀ q ∈ ([(1292, .iload_n 3, 1), (1293, .iconst 2, 1), (1294, .iadd, 1), (1295, .iaload, 1), (1296, .aload_n 0, 1), (1297, .iload_n 3, 1), (1298, .iconst 3, 1), (1299, .iadd, 1), (1300, .iaload, 1), (1301, .ifCond .eq 7, 3), (1304, .iconst 1, 1), (1305, .goto 4, 3), (1308, .iconst 0, 1), (1309, .invokevirtual 154, 3), (1312, .if_icmp .eq 120, 3), (1315, .iconst 0, 1), (1316, .ireturn, 1), (1317, .aload_n 1, 1), (1318, .invokevirtual 155, 3), (1321, .aload_n 2, 1), (1322, .invokevirtual 158, 3), (1325, .if_icmp .eq 107, 3), (1328, .iconst 0, 1), (1329, .ireturn, 1), (1330, .aload_n 1, 1), (1331, .aload_n 0, 1), (1332, .iload_n 3, 1), (1333, .iconst 1, 1), (1334, .iadd, 1), (1335, .iaload, 1), (1336, .aload_n 0, 1), (1337, .iload_n 3, 1), (1338, .iconst 2, 1), (1339, .iadd, 1), (1340, .iaload, 1), (1341, .invokevirtual 159, 3), (1344, .aload_n 2, 1), (1345, .aload_n 0, 1), (1346, .iload_n 3, 1), (1347, .iconst 1, 1), (1348, .iadd, 1), (1349, .iaload, 1), (1350, .aload_n 0, 1), (1351, .iload_n 3, 1), (1352, .iconst 2, 1), (1353, .iadd, 1), (1354, .iaload, 1), (1355, .invokevirtual 162, 3), (1358, .if_icmp .eq 74, 3), (1361, .iconst 0, 1)] : List (Nat × Instr × Nat)), decode cL_law q.1 = .ok (q.2.1, q.2.2) := by decide +kernel
theorem dc_Law_law_19 : ∀ q ∈ ([(1362, .ireturn, 1), (1363, .aload_n 1, 1), (1364, .aload_n 0, 1), (1365, .iload_n 3, 1), (1366, .iconst 1, 1), (1367, .iadd, 1), (1368, .iaload, 1), (1369, .invokevirtual 163, 3), (1372, .aload_n 2, 1), (1373, .aload_n 0, 1), (1374, .iload_n 3, 1), (1375, .iconst 1, 1), (1376, .iadd, 1), (1377, .iaload, 1), (1378, .invokevirtual 166, 3), (1381, .if_icmp .eq 51, 3), (1384, .iconst 0, 1), (1385, .ireturn, 1), (1386, .aload_n 1, 1), (1387, .aload_n 0, 1), (1388, .iload_n 3, 1), (1389, .iconst 1, 1), (1390, .iadd, 1), (1391, .iaload, 1), (1392, .invokevirtual 167, 3), (1395, .aload_n 2, 1), (1396, .aload_n 0, 1), (1397, .iload_n 3, 1), (1398, .iconst 1, 1), (1399, .iadd, 1), (1400, .iaload, 1), (1401, .invokevirtual 170, 3), (1404, .if_icmp .eq 28, 3), (1407, .iconst 0, 1), (1408, .ireturn, 1), (1409, .aload_n 1, 1), (1410, .aload_n 0, 1), (1411, .iload_n 3, 1), (1412, .iconst 1, 1), (1413, .iadd, 1), (1414, .iaload, 1), (1415, .invokevirtual 171, 3), (1418, .aload_n 2, 1), (1419, .aload_n 0, 1), (1420, .iload_n 3, 1), (1421, .iconst 1, 1), (1422, .iadd, 1), (1423, .iaload, 1), (1424, .invokevirtual 174, 3), (1427, .if_icmp .eq 5, 3)] : List (Nat × Instr × Nat)), decode cL_law q.1 = .ok (q.2.1, q.2.2) := by decide +kernel
theorem dc_Law_law_20 : ∀ q ∈ ([(1430, .iconst 0, 1), (1431, .ireturn, 1), (1432, .iinc 3 6, 3), (1435, .goto (-1417), 3), (1438, .iconst 1, 1), (1439, .ireturn, 1)] : List (Nat × Instr × Nat)), decode cL_law q.1 = .ok (q.2.1, q.2.2) := by decide +kernel
abbrev X_Law_law : MX := (cL_law, RL, "law", 4, (some (.boolean)), 2048, 84000)
theorem v_Law_law_B1046 (F : Nat) (R18 : Int → Int → Int → Int → Hp → Option (Int × Hp)) (hR18 : ∀ (l0 l1 l2 l3 : Int) (h : Hp), V X_Law_law 18 [(0, 2, l0), (1, 2, l1), (2, 2, l2), (3, 0, l3)] [] h (R18 l0 l1 l2 l3 h)) (l0 l1 l2 l3 s0 s1 s2 s3 s4 : Int) (h : Hp) : V X_Law_law 1046 [(0, 2, l0), (1, 2, l1), (2, 2, l2), (3, 0, l3)] [(0, s0), (0, s1), (0, s2), (2, s3), (0, s4)] h (Law_law_B1046 F R18 l0 l1 l2 l3 s0 s1 s2 s3 s4 h) := by
  unfold Law_law_B1046
  refine Q_callv (ci := 12) (st := [(0, s4)]) (pc := 1046) (DCa dc_Law_law_14 8 rfl) (sp_Mod_window F _ _ _ _ _) ce_Mod_window (tb8 63 rfl rfl) rfl rfl ⟨Nat.le_of_ble_eq_true rfl, Nat.le_of_ble_eq_true rfl⟩ rfl (Nat.le_of_ble_eq_true rfl) (fun r295 h296 => ?_)
  refine V_icmp_eq (tgt := 1432) (pc := 1049) (DCa dc_Law_law_14 9 rfl) (by decide) (fun _ => ?_) (fun _ => ?_)
  · refine V_iinc (ls' := [(0, 2, l0), (1, 2, l1), (2, 2, l2), (3, 0, w32 (l3 + 6))]) (pc := 1432) (DCa dc_Law_law_20 2 rfl) (Nat.le_of_ble_eq_true rfl) (by decide) 3 rfl rfl ?_
    refine V_goto (tgt := 18) (pc := 1435) (DCa dc_Law_law_20 3 rfl) (by decide) ?_
    exact hR18 _ _ _ _ _
  · refine V_iconst (pc := 1052) (DCa dc_Law_law_14 10 rfl) (by decide) ?_
    exact V_zreturn (pc := 1053) (DCa dc_Law_law_14 11 rfl) rfl
theorem v_Law_law_B1019 (F : Nat) (R18 : Int → Int → Int → Int → Hp → Option (Int × Hp)) (hR18 : ∀ (l0 l1 l2 l3 : Int) (h : Hp), V X_Law_law 18 [(0, 2, l0), (1, 2, l1), (2, 2, l2), (3, 0, l3)] [] h (R18 l0 l1 l2 l3 h)) (l0 l1 l2 l3 s0 s1 s2 s3 : Int) (h : Hp) : V X_Law_law 1019 [(0, 2, l0), (1, 2, l1), (2, 2, l2), (3, 0, l3)] [(0, s0), (0, s1), (0, s2), (2, s3)] h (Law_law_B1019 F R18 l0 l1 l2 l3 s0 s1 s2 s3 h) := by
  unfold Law_law_B1019
  refine Q_callv (ci := 11) (st := []) (pc := 1019) (DCa dc_Law_law_13 37 rfl) (sp_Tide_window F _ _ _ _ _) ce_Tide_window (tb5 183 rfl rfl) rfl rfl ⟨Nat.le_of_ble_eq_true rfl, Nat.le_of_ble_eq_true rfl⟩ rfl (Nat.le_of_ble_eq_true rfl) (fun r281 h282 => ?_)
  refine V_aload_n (pc := 1022) (DCa dc_Law_law_13 38 rfl) rfl 2 rfl ?_
  refine V_aload_n (pc := 1023) (DCa dc_Law_law_13 39 rfl) rfl 0 rfl ?_
  refine V_iload_n (pc := 1024) (DCa dc_Law_law_13 40 rfl) rfl 3 rfl ?_
  refine V_iconst (pc := 1025) (DCa dc_Law_law_13 41 rfl) (by decide) ?_
  refine V_iadd (pc := 1026) (DCa dc_Law_law_13 42 rfl) ?_
  refine Q_xl (pc := 1027) (DCa dc_Law_law_13 43 rfl) (fun v283 => ?_)
  refine V_aload_n (pc := 1028) (DCa dc_Law_law_13 44 rfl) rfl 0 rfl ?_
  refine V_iload_n (pc := 1029) (DCa dc_Law_law_13 45 rfl) rfl 3 rfl ?_
  refine V_iconst (pc := 1030) (DCa dc_Law_law_13 46 rfl) (by decide) ?_
  refine V_iadd (pc := 1031) (DCa dc_Law_law_13 47 rfl) ?_
  refine Q_xl (pc := 1032) (DCa dc_Law_law_13 48 rfl) (fun v284 => ?_)
  refine V_aload_n (pc := 1033) (DCa dc_Law_law_13 49 rfl) rfl 0 rfl ?_
  refine V_iload_n (pc := 1034) (DCa dc_Law_law_14 0 rfl) rfl 3 rfl ?_
  refine V_iconst (pc := 1035) (DCa dc_Law_law_14 1 rfl) (by decide) ?_
  refine V_iadd (pc := 1036) (DCa dc_Law_law_14 2 rfl) ?_
  refine Q_xl (pc := 1037) (DCa dc_Law_law_14 3 rfl) (fun v285 => ?_)
  refine V_if_eq (tgt := 1045) (pc := 1038) (DCa dc_Law_law_14 4 rfl) (by decide) (fun _ => ?_) (fun _ => ?_)
  · refine V_iconst (pc := 1045) (DCa dc_Law_law_14 7 rfl) (by decide) ?_
    exact v_Law_law_B1046 F R18 hR18 _ _ _ _ _ _ _ _ _ _
  · refine V_iconst (pc := 1041) (DCa dc_Law_law_14 5 rfl) (by decide) ?_
    refine V_goto (tgt := 1046) (pc := 1042) (DCa dc_Law_law_14 6 rfl) (by decide) ?_
    exact v_Law_law_B1046 F R18 hR18 _ _ _ _ _ _ _ _ _ _
theorem v_Law_law_B1227 (F : Nat) (R18 : Int → Int → Int → Int → Hp → Option (Int × Hp)) (hR18 : ∀ (l0 l1 l2 l3 : Int) (h : Hp), V X_Law_law 18 [(0, 2, l0), (1, 2, l1), (2, 2, l2), (3, 0, l3)] [] h (R18 l0 l1 l2 l3 h)) (l0 l1 l2 l3 s0 s1 s2 s3 : Int) (h : Hp) : V X_Law_law 1227 [(0, 2, l0), (1, 2, l1), (2, 2, l2), (3, 0, l3)] [(0, s0), (0, s1), (2, s2), (0, s3)] h (Law_law_B1227 F R18 l0 l1 l2 l3 s0 s1 s2 s3 h) := by
  unfold Law_law_B1227
  refine Q_callv (ci := 12) (st := [(0, s3)]) (pc := 1227) (DCa dc_Law_law_17 1 rfl) (sp_Mod_error F _ _ _ _) ce_Mod_error (tb9 28 rfl rfl) rfl rfl ⟨Nat.le_of_ble_eq_true rfl, Nat.le_of_ble_eq_true rfl⟩ rfl (Nat.le_of_ble_eq_true rfl) (fun r297 h298 => ?_)
  refine V_icmp_eq (tgt := 1432) (pc := 1230) (DCa dc_Law_law_17 2 rfl) (by decide) (fun _ => ?_) (fun _ => ?_)
  · refine V_iinc (ls' := [(0, 2, l0), (1, 2, l1), (2, 2, l2), (3, 0, w32 (l3 + 6))]) (pc := 1432) (DCa dc_Law_law_20 2 rfl) (Nat.le_of_ble_eq_true rfl) (by decide) 3 rfl rfl ?_
    refine V_goto (tgt := 18) (pc := 1435) (DCa dc_Law_law_20 3 rfl) (by decide) ?_
    exact hR18 _ _ _ _ _
  · refine V_iconst (pc := 1233) (DCa dc_Law_law_17 3 rfl) (by decide) ?_
    exact V_zreturn (pc := 1234) (DCa dc_Law_law_17 4 rfl) rfl
theorem v_Law_law_B1205 (F : Nat) (R18 : Int → Int → Int → Int → Hp → Option (Int × Hp)) (hR18 : ∀ (l0 l1 l2 l3 : Int) (h : Hp), V X_Law_law 18 [(0, 2, l0), (1, 2, l1), (2, 2, l2), (3, 0, l3)] [] h (R18 l0 l1 l2 l3 h)) (l0 l1 l2 l3 s0 s1 s2 : Int) (h : Hp) : V X_Law_law 1205 [(0, 2, l0), (1, 2, l1), (2, 2, l2), (3, 0, l3)] [(0, s0), (0, s1), (2, s2)] h (Law_law_B1205 F R18 l0 l1 l2 l3 s0 s1 s2 h) := by
  unfold Law_law_B1205
  refine Q_callv (ci := 11) (st := []) (pc := 1205) (DCa dc_Law_law_16 35 rfl) (sp_Tide_error F _ _ _ _) ce_Tide_error (tb6 8 rfl rfl) rfl rfl ⟨Nat.le_of_ble_eq_true rfl, Nat.le_of_ble_eq_true rfl⟩ rfl (Nat.le_of_ble_eq_true rfl) (fun r286 h287 => ?_)
  refine V_aload_n (pc := 1208) (DCa dc_Law_law_16 36 rfl) rfl 2 rfl ?_
  refine V_aload_n (pc := 1209) (DCa dc_Law_law_16 37 rfl) rfl 0 rfl ?_
  refine V_iload_n (pc := 1210) (DCa dc_Law_law_16 38 rfl) rfl 3 rfl ?_
  refine V_iconst (pc := 1211) (DCa dc_Law_law_16 39 rfl) (by decide) ?_
  refine V_iadd (pc := 1212) (DCa dc_Law_law_16 40 rfl) ?_
  refine Q_xl (pc := 1213) (DCa dc_Law_law_16 41 rfl) (fun v288 => ?_)
  refine V_aload_n (pc := 1214) (DCa dc_Law_law_16 42 rfl) rfl 0 rfl ?_
  refine V_iload_n (pc := 1215) (DCa dc_Law_law_16 43 rfl) rfl 3 rfl ?_
  refine V_iconst (pc := 1216) (DCa dc_Law_law_16 44 rfl) (by decide) ?_
  refine V_iadd (pc := 1217) (DCa dc_Law_law_16 45 rfl) ?_
  refine Q_xl (pc := 1218) (DCa dc_Law_law_16 46 rfl) (fun v289 => ?_)
  refine V_if_eq (tgt := 1226) (pc := 1219) (DCa dc_Law_law_16 47 rfl) (by decide) (fun _ => ?_) (fun _ => ?_)
  · refine V_iconst (pc := 1226) (DCa dc_Law_law_17 0 rfl) (by decide) ?_
    exact v_Law_law_B1227 F R18 hR18 _ _ _ _ _ _ _ _ _
  · refine V_iconst (pc := 1222) (DCa dc_Law_law_16 48 rfl) (by decide) ?_
    refine V_goto (tgt := 1227) (pc := 1223) (DCa dc_Law_law_16 49 rfl) (by decide) ?_
    exact v_Law_law_B1227 F R18 hR18 _ _ _ _ _ _ _ _ _
theorem v_Law_law_B1309 (F : Nat) (R18 : Int → Int → Int → Int → Hp → Option (Int × Hp)) (hR18 : ∀ (l0 l1 l2 l3 : Int) (h : Hp), V X_Law_law 18 [(0, 2, l0), (1, 2, l1), (2, 2, l2), (3, 0, l3)] [] h (R18 l0 l1 l2 l3 h)) (l0 l1 l2 l3 s0 s1 s2 s3 s4 : Int) (h : Hp) : V X_Law_law 1309 [(0, 2, l0), (1, 2, l1), (2, 2, l2), (3, 0, l3)] [(0, s0), (0, s1), (0, s2), (2, s3), (0, s4)] h (Law_law_B1309 F R18 l0 l1 l2 l3 s0 s1 s2 s3 s4 h) := by
  unfold Law_law_B1309
  refine Q_callv (ci := 12) (st := [(0, s4)]) (pc := 1309) (DCa dc_Law_law_18 13 rfl) (sp_Mod_tell F _ _ _ _ _) ce_Mod_tell (tb9 44 rfl rfl) rfl rfl ⟨Nat.le_of_ble_eq_true rfl, Nat.le_of_ble_eq_true rfl⟩ rfl (Nat.le_of_ble_eq_true rfl) (fun r299 h300 => ?_)
  refine V_icmp_eq (tgt := 1432) (pc := 1312) (DCa dc_Law_law_18 14 rfl) (by decide) (fun _ => ?_) (fun _ => ?_)
  · refine V_iinc (ls' := [(0, 2, l0), (1, 2, l1), (2, 2, l2), (3, 0, w32 (l3 + 6))]) (pc := 1432) (DCa dc_Law_law_20 2 rfl) (Nat.le_of_ble_eq_true rfl) (by decide) 3 rfl rfl ?_
    refine V_goto (tgt := 18) (pc := 1435) (DCa dc_Law_law_20 3 rfl) (by decide) ?_
    exact hR18 _ _ _ _ _
  · refine V_iconst (pc := 1315) (DCa dc_Law_law_18 15 rfl) (by decide) ?_
    exact V_zreturn (pc := 1316) (DCa dc_Law_law_18 16 rfl) rfl
theorem v_Law_law_B1282 (F : Nat) (R18 : Int → Int → Int → Int → Hp → Option (Int × Hp)) (hR18 : ∀ (l0 l1 l2 l3 : Int) (h : Hp), V X_Law_law 18 [(0, 2, l0), (1, 2, l1), (2, 2, l2), (3, 0, l3)] [] h (R18 l0 l1 l2 l3 h)) (l0 l1 l2 l3 s0 s1 s2 s3 : Int) (h : Hp) : V X_Law_law 1282 [(0, 2, l0), (1, 2, l1), (2, 2, l2), (3, 0, l3)] [(0, s0), (0, s1), (0, s2), (2, s3)] h (Law_law_B1282 F R18 l0 l1 l2 l3 s0 s1 s2 s3 h) := by
  unfold Law_law_B1282
  refine Q_callv (ci := 11) (st := []) (pc := 1282) (DCa dc_Law_law_17 42 rfl) (sp_Tide_tell F _ _ _ _ _) ce_Tide_tell (tb6 16 rfl rfl) rfl rfl ⟨Nat.le_of_ble_eq_true rfl, Nat.le_of_ble_eq_true rfl⟩ rfl (Nat.le_of_ble_eq_true rfl) (fun r290 h291 => ?_)
  refine V_aload_n (pc := 1285) (DCa dc_Law_law_17 43 rfl) rfl 2 rfl ?_
  refine V_aload_n (pc := 1286) (DCa dc_Law_law_17 44 rfl) rfl 0 rfl ?_
  refine V_iload_n (pc := 1287) (DCa dc_Law_law_17 45 rfl) rfl 3 rfl ?_
  refine V_iconst (pc := 1288) (DCa dc_Law_law_17 46 rfl) (by decide) ?_
  refine V_iadd (pc := 1289) (DCa dc_Law_law_17 47 rfl) ?_
  refine Q_xl (pc := 1290) (DCa dc_Law_law_17 48 rfl) (fun v292 => ?_)
  refine V_aload_n (pc := 1291) (DCa dc_Law_law_17 49 rfl) rfl 0 rfl ?_
  refine V_iload_n (pc := 1292) (DCa dc_Law_law_18 0 rfl) rfl 3 rfl ?_
  refine V_iconst (pc := 1293) (DCa dc_Law_law_18 1 rfl) (by decide) ?_
  refine V_iadd (pc := 1294) (DCa dc_Law_law_18 2 rfl) ?_
  refine Q_xl (pc := 1295) (DCa dc_Law_law_18 3 rfl) (fun v293 => ?_)
  refine V_aload_n (pc := 1296) (DCa dc_Law_law_18 4 rfl) rfl 0 rfl ?_
  refine V_iload_n (pc := 1297) (DCa dc_Law_law_18 5 rfl) rfl 3 rfl ?_
  refine V_iconst (pc := 1298) (DCa dc_Law_law_18 6 rfl) (by decide) ?_
  refine V_iadd (pc := 1299) (DCa dc_Law_law_18 7 rfl) ?_
  refine Q_xl (pc := 1300) (DCa dc_Law_law_18 8 rfl) (fun v294 => ?_)
  refine V_if_eq (tgt := 1308) (pc := 1301) (DCa dc_Law_law_18 9 rfl) (by decide) (fun _ => ?_) (fun _ => ?_)
  · refine V_iconst (pc := 1308) (DCa dc_Law_law_18 12 rfl) (by decide) ?_
    exact v_Law_law_B1309 F R18 hR18 _ _ _ _ _ _ _ _ _ _
  · refine V_iconst (pc := 1304) (DCa dc_Law_law_18 10 rfl) (by decide) ?_
    refine V_goto (tgt := 1309) (pc := 1305) (DCa dc_Law_law_18 11 rfl) (by decide) ?_
    exact v_Law_law_B1309 F R18 hR18 _ _ _ _ _ _ _ _ _ _
theorem v_Law_law_L18s (F : Nat)  (R18 : Int → Int → Int → Int → Hp → Option (Int × Hp)) (hR18 : ∀ (l0 l1 l2 l3 : Int) (h : Hp), V X_Law_law 18 [(0, 2, l0), (1, 2, l1), (2, 2, l2), (3, 0, l3)] [] h (R18 l0 l1 l2 l3 h)) (l0 l1 l2 l3 : Int) (h : Hp) : V X_Law_law 18 [(0, 2, l0), (1, 2, l1), (2, 2, l2), (3, 0, l3)] [] h (Law_law_L18s F  R18 l0 l1 l2 l3 h) := by
  unfold Law_law_L18s
  refine V_iload_n (pc := 18) (DCa dc_Law_law_0 10 rfl) rfl 3 rfl ?_
  refine V_aload_n (pc := 19) (DCa dc_Law_law_0 11 rfl) rfl 0 rfl ?_
  refine Q_xn (pc := 20) (DCa dc_Law_law_0 12 rfl) (fun v9 => ?_)
  refine V_bipush (pc := 21) (DCa dc_Law_law_0 13 rfl) (by decide) ?_
  refine V_isub (pc := 23) (DCa dc_Law_law_0 14 rfl) ?_
  refine V_icmp_gt (tgt := 1438) (pc := 24) (DCa dc_Law_law_0 15 rfl) (by decide) (fun _ => ?_) (fun _ => ?_)
  · refine V_iconst (pc := 1438) (DCa dc_Law_law_20 4 rfl) (by decide) ?_
    exact V_zreturn (pc := 1439) (DCa dc_Law_law_20 5 rfl) rfl
  · refine V_aload_n (pc := 27) (DCa dc_Law_law_0 16 rfl) rfl 0 rfl ?_
    refine V_iload_n (pc := 28) (DCa dc_Law_law_0 17 rfl) rfl 3 rfl ?_
    refine Q_xl (pc := 29) (DCa dc_Law_law_0 18 rfl) (fun v10 => ?_)
    refine V_bipush (pc := 30) (DCa dc_Law_law_0 19 rfl) (by decide) ?_
    refine V_iand (pc := 32) (DCa dc_Law_law_0 20 rfl) ?_
    refine V_table (tgt := 1432) (pc := 33) (DCa dc_Law_law_0 21 rfl) (by decide) (by decide) ?_ (fun i hi _ => ?_)
    · refine V_iinc (ls' := [(0, 2, l0), (1, 2, l1), (2, 2, l2), (3, 0, w32 (l3 + 6))]) (pc := 1432) (DCa dc_Law_law_20 2 rfl) (Nat.le_of_ble_eq_true rfl) (by decide) 3 rfl rfl ?_
      refine V_goto (tgt := 18) (pc := 1435) (DCa dc_Law_law_20 3 rfl) (by decide) ?_
      exact hR18 _ _ _ _ _
    · match i, hi with
      | 0, _ =>
        refine ⟨_, 200, rfl, by decide, ?_⟩
        refine V_aload_n (pc := 200) (DCa dc_Law_law_0 22 rfl) rfl 1 rfl ?_
        refine V_aload_n (pc := 201) (DCa dc_Law_law_0 23 rfl) rfl 0 rfl ?_
        refine V_iload_n (pc := 202) (DCa dc_Law_law_0 24 rfl) rfl 3 rfl ?_
        refine V_iconst (pc := 203) (DCa dc_Law_law_0 25 rfl) (by decide) ?_
        refine V_iadd (pc := 204) (DCa dc_Law_law_0 26 rfl) ?_
        refine Q_xl (pc := 205) (DCa dc_Law_law_0 27 rfl) (fun v11 => ?_)
        refine V_aload_n (pc := 206) (DCa dc_Law_law_0 28 rfl) rfl 0 rfl ?_
        refine V_iload_n (pc := 207) (DCa dc_Law_law_0 29 rfl) rfl 3 rfl ?_
        refine V_iconst (pc := 208) (DCa dc_Law_law_0 30 rfl) (by decide) ?_
        refine V_iadd (pc := 209) (DCa dc_Law_law_0 31 rfl) ?_
        refine Q_xl (pc := 210) (DCa dc_Law_law_0 32 rfl) (fun v12 => ?_)
        refine V_aload_n (pc := 211) (DCa dc_Law_law_0 33 rfl) rfl 0 rfl ?_
        refine V_iload_n (pc := 212) (DCa dc_Law_law_0 34 rfl) rfl 3 rfl ?_
        refine V_iconst (pc := 213) (DCa dc_Law_law_0 35 rfl) (by decide) ?_
        refine V_iadd (pc := 214) (DCa dc_Law_law_0 36 rfl) ?_
        refine Q_xl (pc := 215) (DCa dc_Law_law_0 37 rfl) (fun v13 => ?_)
        refine V_aload_n (pc := 216) (DCa dc_Law_law_0 38 rfl) rfl 0 rfl ?_
        refine V_iload_n (pc := 217) (DCa dc_Law_law_0 39 rfl) rfl 3 rfl ?_
        refine V_iconst (pc := 218) (DCa dc_Law_law_0 40 rfl) (by decide) ?_
        refine V_iadd (pc := 219) (DCa dc_Law_law_0 41 rfl) ?_
        refine Q_xl (pc := 220) (DCa dc_Law_law_0 42 rfl) (fun v14 => ?_)
        refine V_aload_n (pc := 221) (DCa dc_Law_law_0 43 rfl) rfl 0 rfl ?_
        refine V_iload_n (pc := 222) (DCa dc_Law_law_0 44 rfl) rfl 3 rfl ?_
        refine V_iconst (pc := 223) (DCa dc_Law_law_0 45 rfl) (by decide) ?_
        refine V_iadd (pc := 224) (DCa dc_Law_law_0 46 rfl) ?_
        refine Q_xl (pc := 225) (DCa dc_Law_law_0 47 rfl) (fun v15 => ?_)
        refine Q_callv (ci := 11) (st := []) (pc := 226) (DCa dc_Law_law_0 48 rfl) (sp_Tide_feed F _ _ _ _ _ _ _) ce_Tide_feed (tb3 216 rfl rfl) rfl rfl ⟨Nat.le_of_ble_eq_true rfl, Nat.le_of_ble_eq_true rfl⟩ rfl (Nat.le_of_ble_eq_true rfl) (fun r16 h17 => ?_)
        refine V_aload_n (pc := 229) (DCa dc_Law_law_0 49 rfl) rfl 2 rfl ?_
        refine V_aload_n (pc := 230) (DCa dc_Law_law_1 0 rfl) rfl 0 rfl ?_
        refine V_iload_n (pc := 231) (DCa dc_Law_law_1 1 rfl) rfl 3 rfl ?_
        refine V_iconst (pc := 232) (DCa dc_Law_law_1 2 rfl) (by decide) ?_
        refine V_iadd (pc := 233) (DCa dc_Law_law_1 3 rfl) ?_
        refine Q_xl (pc := 234) (DCa dc_Law_law_1 4 rfl) (fun v18 => ?_)
        refine V_aload_n (pc := 235) (DCa dc_Law_law_1 5 rfl) rfl 0 rfl ?_
        refine V_iload_n (pc := 236) (DCa dc_Law_law_1 6 rfl) rfl 3 rfl ?_
        refine V_iconst (pc := 237) (DCa dc_Law_law_1 7 rfl) (by decide) ?_
        refine V_iadd (pc := 238) (DCa dc_Law_law_1 8 rfl) ?_
        refine Q_xl (pc := 239) (DCa dc_Law_law_1 9 rfl) (fun v19 => ?_)
        refine V_aload_n (pc := 240) (DCa dc_Law_law_1 10 rfl) rfl 0 rfl ?_
        refine V_iload_n (pc := 241) (DCa dc_Law_law_1 11 rfl) rfl 3 rfl ?_
        refine V_iconst (pc := 242) (DCa dc_Law_law_1 12 rfl) (by decide) ?_
        refine V_iadd (pc := 243) (DCa dc_Law_law_1 13 rfl) ?_
        refine Q_xl (pc := 244) (DCa dc_Law_law_1 14 rfl) (fun v20 => ?_)
        refine V_aload_n (pc := 245) (DCa dc_Law_law_1 15 rfl) rfl 0 rfl ?_
        refine V_iload_n (pc := 246) (DCa dc_Law_law_1 16 rfl) rfl 3 rfl ?_
        refine V_iconst (pc := 247) (DCa dc_Law_law_1 17 rfl) (by decide) ?_
        refine V_iadd (pc := 248) (DCa dc_Law_law_1 18 rfl) ?_
        refine Q_xl (pc := 249) (DCa dc_Law_law_1 19 rfl) (fun v21 => ?_)
        refine V_aload_n (pc := 250) (DCa dc_Law_law_1 20 rfl) rfl 0 rfl ?_
        refine V_iload_n (pc := 251) (DCa dc_Law_law_1 21 rfl) rfl 3 rfl ?_
        refine V_iconst (pc := 252) (DCa dc_Law_law_1 22 rfl) (by decide) ?_
        refine V_iadd (pc := 253) (DCa dc_Law_law_1 23 rfl) ?_
        refine Q_xl (pc := 254) (DCa dc_Law_law_1 24 rfl) (fun v22 => ?_)
        refine Q_callv (ci := 12) (st := [(0, r16)]) (pc := 255) (DCa dc_Law_law_1 25 rfl) (sp_Mod_feed F _ _ _ _ _ _ _) ce_Mod_feed (tb7 150 rfl rfl) rfl rfl ⟨Nat.le_of_ble_eq_true rfl, Nat.le_of_ble_eq_true rfl⟩ rfl (Nat.le_of_ble_eq_true rfl) (fun r23 h24 => ?_)
        refine V_icmp_eq (tgt := 1432) (pc := 258) (DCa dc_Law_law_1 26 rfl) (by decide) (fun _ => ?_) (fun _ => ?_)
        · refine V_iinc (ls' := [(0, 2, l0), (1, 2, l1), (2, 2, l2), (3, 0, w32 (l3 + 6))]) (pc := 1432) (DCa dc_Law_law_20 2 rfl) (Nat.le_of_ble_eq_true rfl) (by decide) 3 rfl rfl ?_
          refine V_goto (tgt := 18) (pc := 1435) (DCa dc_Law_law_20 3 rfl) (by decide) ?_
          exact hR18 _ _ _ _ _
        · refine V_iconst (pc := 261) (DCa dc_Law_law_1 27 rfl) (by decide) ?_
          exact V_zreturn (pc := 262) (DCa dc_Law_law_1 28 rfl) rfl
      | 1, _ =>
        refine ⟨_, 263, rfl, by decide, ?_⟩
        refine V_aload_n (pc := 263) (DCa dc_Law_law_1 29 rfl) rfl 1 rfl ?_
        refine V_aload_n (pc := 264) (DCa dc_Law_law_1 30 rfl) rfl 0 rfl ?_
        refine V_iload_n (pc := 265) (DCa dc_Law_law_1 31 rfl) rfl 3 rfl ?_
        refine V_iconst (pc := 266) (DCa dc_Law_law_1 32 rfl) (by decide) ?_
        refine V_iadd (pc := 267) (DCa dc_Law_law_1 33 rfl) ?_
        refine Q_xl (pc := 268) (DCa dc_Law_law_1 34 rfl) (fun v25 => ?_)
        refine Q_callv (ci := 11) (st := []) (pc := 269) (DCa dc_Law_law_1 35 rfl) (sp_Tide_back F _ _ _) ce_Tide_back (tb3 224 rfl rfl) rfl rfl ⟨Nat.le_of_ble_eq_true rfl, Nat.le_of_ble_eq_true rfl⟩ rfl (Nat.le_of_ble_eq_true rfl) (fun r26 h27 => ?_)
        refine V_aload_n (pc := 272) (DCa dc_Law_law_1 36 rfl) rfl 2 rfl ?_
        refine V_aload_n (pc := 273) (DCa dc_Law_law_1 37 rfl) rfl 0 rfl ?_
        refine V_iload_n (pc := 274) (DCa dc_Law_law_1 38 rfl) rfl 3 rfl ?_
        refine V_iconst (pc := 275) (DCa dc_Law_law_1 39 rfl) (by decide) ?_
        refine V_iadd (pc := 276) (DCa dc_Law_law_1 40 rfl) ?_
        refine Q_xl (pc := 277) (DCa dc_Law_law_1 41 rfl) (fun v28 => ?_)
        refine Q_callv (ci := 12) (st := [(0, r26)]) (pc := 278) (DCa dc_Law_law_1 42 rfl) (sp_Mod_back F _ _ _) ce_Mod_back (tb7 158 rfl rfl) rfl rfl ⟨Nat.le_of_ble_eq_true rfl, Nat.le_of_ble_eq_true rfl⟩ rfl (Nat.le_of_ble_eq_true rfl) (fun r29 h30 => ?_)
        refine V_icmp_eq (tgt := 1432) (pc := 281) (DCa dc_Law_law_1 43 rfl) (by decide) (fun _ => ?_) (fun _ => ?_)
        · refine V_iinc (ls' := [(0, 2, l0), (1, 2, l1), (2, 2, l2), (3, 0, w32 (l3 + 6))]) (pc := 1432) (DCa dc_Law_law_20 2 rfl) (Nat.le_of_ble_eq_true rfl) (by decide) 3 rfl rfl ?_
          refine V_goto (tgt := 18) (pc := 1435) (DCa dc_Law_law_20 3 rfl) (by decide) ?_
          exact hR18 _ _ _ _ _
        · refine V_iconst (pc := 284) (DCa dc_Law_law_1 44 rfl) (by decide) ?_
          exact V_zreturn (pc := 285) (DCa dc_Law_law_1 45 rfl) rfl
      | 2, _ =>
        refine ⟨_, 286, rfl, by decide, ?_⟩
        refine V_aload_n (pc := 286) (DCa dc_Law_law_1 46 rfl) rfl 1 rfl ?_
        refine Q_callv (ci := 11) (st := []) (pc := 287) (DCa dc_Law_law_1 47 rfl) (sp_Tide_read F _ _) ce_Tide_read (tb3 228 rfl rfl) rfl rfl ⟨Nat.le_of_ble_eq_true rfl, Nat.le_of_ble_eq_true rfl⟩ rfl (Nat.le_of_ble_eq_true rfl) (fun r31 h32 => ?_)
        refine V_aload_n (pc := 290) (DCa dc_Law_law_1 48 rfl) rfl 2 rfl ?_
        refine Q_callv (ci := 12) (st := [(0, r31)]) (pc := 291) (DCa dc_Law_law_1 49 rfl) (sp_Mod_read F _ _) ce_Mod_read (tb7 162 rfl rfl) rfl rfl ⟨Nat.le_of_ble_eq_true rfl, Nat.le_of_ble_eq_true rfl⟩ rfl (Nat.le_of_ble_eq_true rfl) (fun r33 h34 => ?_)
        refine V_icmp_eq (tgt := 1432) (pc := 294) (DCa dc_Law_law_2 0 rfl) (by decide) (fun _ => ?_) (fun _ => ?_)
        · refine V_iinc (ls' := [(0, 2, l0), (1, 2, l1), (2, 2, l2), (3, 0, w32 (l3 + 6))]) (pc := 1432) (DCa dc_Law_law_20 2 rfl) (Nat.le_of_ble_eq_true rfl) (by decide) 3 rfl rfl ?_
          refine V_goto (tgt := 18) (pc := 1435) (DCa dc_Law_law_20 3 rfl) (by decide) ?_
          exact hR18 _ _ _ _ _
        · refine V_iconst (pc := 297) (DCa dc_Law_law_2 1 rfl) (by decide) ?_
          exact V_zreturn (pc := 298) (DCa dc_Law_law_2 2 rfl) rfl
      | 3, _ =>
        refine ⟨_, 299, rfl, by decide, ?_⟩
        refine V_aload_n (pc := 299) (DCa dc_Law_law_2 3 rfl) rfl 1 rfl ?_
        refine Q_callv (ci := 11) (st := []) (pc := 300) (DCa dc_Law_law_2 4 rfl) (sp_Tide_place F _ _) ce_Tide_place (tb4 133 rfl rfl) rfl rfl ⟨Nat.le_of_ble_eq_true rfl, Nat.le_of_ble_eq_true rfl⟩ rfl (Nat.le_of_ble_eq_true rfl) (fun r35 h36 => ?_)
        refine V_aload_n (pc := 303) (DCa dc_Law_law_2 5 rfl) rfl 2 rfl ?_
        refine Q_callv (ci := 12) (st := [(0, r35)]) (pc := 304) (DCa dc_Law_law_2 6 rfl) (sp_Mod_place F _ _) ce_Mod_place (tb8 16 rfl rfl) rfl rfl ⟨Nat.le_of_ble_eq_true rfl, Nat.le_of_ble_eq_true rfl⟩ rfl (Nat.le_of_ble_eq_true rfl) (fun r37 h38 => ?_)
        refine V_icmp_eq (tgt := 1432) (pc := 307) (DCa dc_Law_law_2 7 rfl) (by decide) (fun _ => ?_) (fun _ => ?_)
        · refine V_iinc (ls' := [(0, 2, l0), (1, 2, l1), (2, 2, l2), (3, 0, w32 (l3 + 6))]) (pc := 1432) (DCa dc_Law_law_20 2 rfl) (Nat.le_of_ble_eq_true rfl) (by decide) 3 rfl rfl ?_
          refine V_goto (tgt := 18) (pc := 1435) (DCa dc_Law_law_20 3 rfl) (by decide) ?_
          exact hR18 _ _ _ _ _
        · refine V_iconst (pc := 310) (DCa dc_Law_law_2 8 rfl) (by decide) ?_
          exact V_zreturn (pc := 311) (DCa dc_Law_law_2 9 rfl) rfl
      | 4, _ =>
        refine ⟨_, 312, rfl, by decide, ?_⟩
        refine V_aload_n (pc := 312) (DCa dc_Law_law_2 10 rfl) rfl 1 rfl ?_
        refine V_aload_n (pc := 313) (DCa dc_Law_law_2 11 rfl) rfl 0 rfl ?_
        refine V_iload_n (pc := 314) (DCa dc_Law_law_2 12 rfl) rfl 3 rfl ?_
        refine V_iconst (pc := 315) (DCa dc_Law_law_2 13 rfl) (by decide) ?_
        refine V_iadd (pc := 316) (DCa dc_Law_law_2 14 rfl) ?_
        refine Q_xl (pc := 317) (DCa dc_Law_law_2 15 rfl) (fun v39 => ?_)
        refine V_aload_n (pc := 318) (DCa dc_Law_law_2 16 rfl) rfl 0 rfl ?_
        refine V_iload_n (pc := 319) (DCa dc_Law_law_2 17 rfl) rfl 3 rfl ?_
        refine V_iconst (pc := 320) (DCa dc_Law_law_2 18 rfl) (by decide) ?_
        refine V_iadd (pc := 321) (DCa dc_Law_law_2 19 rfl) ?_
        refine Q_xl (pc := 322) (DCa dc_Law_law_2 20 rfl) (fun v40 => ?_)
        refine Q_callv (ci := 11) (st := []) (pc := 323) (DCa dc_Law_law_2 21 rfl) (sp_Tide_part F _ _ _ _) ce_Tide_part (tb4 137 rfl rfl) rfl rfl ⟨Nat.le_of_ble_eq_true rfl, Nat.le_of_ble_eq_true rfl⟩ rfl (Nat.le_of_ble_eq_true rfl) (fun r41 h42 => ?_)
        refine V_aload_n (pc := 326) (DCa dc_Law_law_2 22 rfl) rfl 2 rfl ?_
        refine V_aload_n (pc := 327) (DCa dc_Law_law_2 23 rfl) rfl 0 rfl ?_
        refine V_iload_n (pc := 328) (DCa dc_Law_law_2 24 rfl) rfl 3 rfl ?_
        refine V_iconst (pc := 329) (DCa dc_Law_law_2 25 rfl) (by decide) ?_
        refine V_iadd (pc := 330) (DCa dc_Law_law_2 26 rfl) ?_
        refine Q_xl (pc := 331) (DCa dc_Law_law_2 27 rfl) (fun v43 => ?_)
        refine V_aload_n (pc := 332) (DCa dc_Law_law_2 28 rfl) rfl 0 rfl ?_
        refine V_iload_n (pc := 333) (DCa dc_Law_law_2 29 rfl) rfl 3 rfl ?_
        refine V_iconst (pc := 334) (DCa dc_Law_law_2 30 rfl) (by decide) ?_
        refine V_iadd (pc := 335) (DCa dc_Law_law_2 31 rfl) ?_
        refine Q_xl (pc := 336) (DCa dc_Law_law_2 32 rfl) (fun v44 => ?_)
        refine Q_callv (ci := 12) (st := [(0, r41)]) (pc := 337) (DCa dc_Law_law_2 33 rfl) (sp_Mod_part F _ _ _ _) ce_Mod_part (tb8 20 rfl rfl) rfl rfl ⟨Nat.le_of_ble_eq_true rfl, Nat.le_of_ble_eq_true rfl⟩ rfl (Nat.le_of_ble_eq_true rfl) (fun r45 h46 => ?_)
        refine V_icmp_eq (tgt := 1432) (pc := 340) (DCa dc_Law_law_2 34 rfl) (by decide) (fun _ => ?_) (fun _ => ?_)
        · refine V_iinc (ls' := [(0, 2, l0), (1, 2, l1), (2, 2, l2), (3, 0, w32 (l3 + 6))]) (pc := 1432) (DCa dc_Law_law_20 2 rfl) (Nat.le_of_ble_eq_true rfl) (by decide) 3 rfl rfl ?_
          refine V_goto (tgt := 18) (pc := 1435) (DCa dc_Law_law_20 3 rfl) (by decide) ?_
          exact hR18 _ _ _ _ _
        · refine V_iconst (pc := 343) (DCa dc_Law_law_2 35 rfl) (by decide) ?_
          exact V_zreturn (pc := 344) (DCa dc_Law_law_2 36 rfl) rfl
      | 5, _ =>
        refine ⟨_, 345, rfl, by decide, ?_⟩
        refine V_aload_n (pc := 345) (DCa dc_Law_law_2 37 rfl) rfl 1 rfl ?_
        refine V_aload_n (pc := 346) (DCa dc_Law_law_2 38 rfl) rfl 0 rfl ?_
        refine V_iload_n (pc := 347) (DCa dc_Law_law_2 39 rfl) rfl 3 rfl ?_
        refine V_iconst (pc := 348) (DCa dc_Law_law_2 40 rfl) (by decide) ?_
        refine V_iadd (pc := 349) (DCa dc_Law_law_2 41 rfl) ?_
        refine Q_xl (pc := 350) (DCa dc_Law_law_2 42 rfl) (fun v47 => ?_)
        refine V_aload_n (pc := 351) (DCa dc_Law_law_2 43 rfl) rfl 0 rfl ?_
        refine V_iload_n (pc := 352) (DCa dc_Law_law_2 44 rfl) rfl 3 rfl ?_
        refine V_iconst (pc := 353) (DCa dc_Law_law_2 45 rfl) (by decide) ?_
        refine V_iadd (pc := 354) (DCa dc_Law_law_2 46 rfl) ?_
        refine Q_xl (pc := 355) (DCa dc_Law_law_2 47 rfl) (fun v48 => ?_)
        refine Q_callv (ci := 11) (st := []) (pc := 356) (DCa dc_Law_law_2 48 rfl) (sp_Tide_worker F _ _ _ _) ce_Tide_worker (tb4 145 rfl rfl) rfl rfl ⟨Nat.le_of_ble_eq_true rfl, Nat.le_of_ble_eq_true rfl⟩ rfl (Nat.le_of_ble_eq_true rfl) (fun r49 h50 => ?_)
        refine V_aload_n (pc := 359) (DCa dc_Law_law_2 49 rfl) rfl 2 rfl ?_
        refine V_aload_n (pc := 360) (DCa dc_Law_law_3 0 rfl) rfl 0 rfl ?_
        refine V_iload_n (pc := 361) (DCa dc_Law_law_3 1 rfl) rfl 3 rfl ?_
        refine V_iconst (pc := 362) (DCa dc_Law_law_3 2 rfl) (by decide) ?_
        refine V_iadd (pc := 363) (DCa dc_Law_law_3 3 rfl) ?_
        refine Q_xl (pc := 364) (DCa dc_Law_law_3 4 rfl) (fun v51 => ?_)
        refine V_aload_n (pc := 365) (DCa dc_Law_law_3 5 rfl) rfl 0 rfl ?_
        refine V_iload_n (pc := 366) (DCa dc_Law_law_3 6 rfl) rfl 3 rfl ?_
        refine V_iconst (pc := 367) (DCa dc_Law_law_3 7 rfl) (by decide) ?_
        refine V_iadd (pc := 368) (DCa dc_Law_law_3 8 rfl) ?_
        refine Q_xl (pc := 369) (DCa dc_Law_law_3 9 rfl) (fun v52 => ?_)
        refine Q_callv (ci := 12) (st := [(0, r49)]) (pc := 370) (DCa dc_Law_law_3 10 rfl) (sp_Mod_worker F _ _ _ _) ce_Mod_worker (tb8 28 rfl rfl) rfl rfl ⟨Nat.le_of_ble_eq_true rfl, Nat.le_of_ble_eq_true rfl⟩ rfl (Nat.le_of_ble_eq_true rfl) (fun r53 h54 => ?_)
        refine V_icmp_eq (tgt := 1432) (pc := 373) (DCa dc_Law_law_3 11 rfl) (by decide) (fun _ => ?_) (fun _ => ?_)
        · refine V_iinc (ls' := [(0, 2, l0), (1, 2, l1), (2, 2, l2), (3, 0, w32 (l3 + 6))]) (pc := 1432) (DCa dc_Law_law_20 2 rfl) (Nat.le_of_ble_eq_true rfl) (by decide) 3 rfl rfl ?_
          refine V_goto (tgt := 18) (pc := 1435) (DCa dc_Law_law_20 3 rfl) (by decide) ?_
          exact hR18 _ _ _ _ _
        · refine V_iconst (pc := 376) (DCa dc_Law_law_3 12 rfl) (by decide) ?_
          exact V_zreturn (pc := 377) (DCa dc_Law_law_3 13 rfl) rfl
      | 6, _ =>
        refine ⟨_, 378, rfl, by decide, ?_⟩
        refine V_aload_n (pc := 378) (DCa dc_Law_law_3 14 rfl) rfl 1 rfl ?_
        refine V_aload_n (pc := 379) (DCa dc_Law_law_3 15 rfl) rfl 0 rfl ?_
        refine V_iload_n (pc := 380) (DCa dc_Law_law_3 16 rfl) rfl 3 rfl ?_
        refine V_iconst (pc := 381) (DCa dc_Law_law_3 17 rfl) (by decide) ?_
        refine V_iadd (pc := 382) (DCa dc_Law_law_3 18 rfl) ?_
        refine Q_xl (pc := 383) (DCa dc_Law_law_3 19 rfl) (fun v55 => ?_)
        refine V_aload_n (pc := 384) (DCa dc_Law_law_3 20 rfl) rfl 0 rfl ?_
        refine V_iload_n (pc := 385) (DCa dc_Law_law_3 21 rfl) rfl 3 rfl ?_
        refine V_iconst (pc := 386) (DCa dc_Law_law_3 22 rfl) (by decide) ?_
        refine V_iadd (pc := 387) (DCa dc_Law_law_3 23 rfl) ?_
        refine Q_xl (pc := 388) (DCa dc_Law_law_3 24 rfl) (fun v56 => ?_)
        refine Q_callv (ci := 11) (st := []) (pc := 389) (DCa dc_Law_law_3 25 rfl) (sp_Tide_minute F _ _ _ _) ce_Tide_minute (tb4 153 rfl rfl) rfl rfl ⟨Nat.le_of_ble_eq_true rfl, Nat.le_of_ble_eq_true rfl⟩ rfl (Nat.le_of_ble_eq_true rfl) (fun r57 h58 => ?_)
        refine V_aload_n (pc := 392) (DCa dc_Law_law_3 26 rfl) rfl 2 rfl ?_
        refine V_aload_n (pc := 393) (DCa dc_Law_law_3 27 rfl) rfl 0 rfl ?_
        refine V_iload_n (pc := 394) (DCa dc_Law_law_3 28 rfl) rfl 3 rfl ?_
        refine V_iconst (pc := 395) (DCa dc_Law_law_3 29 rfl) (by decide) ?_
        refine V_iadd (pc := 396) (DCa dc_Law_law_3 30 rfl) ?_
        refine Q_xl (pc := 397) (DCa dc_Law_law_3 31 rfl) (fun v59 => ?_)
        refine V_aload_n (pc := 398) (DCa dc_Law_law_3 32 rfl) rfl 0 rfl ?_
        refine V_iload_n (pc := 399) (DCa dc_Law_law_3 33 rfl) rfl 3 rfl ?_
        refine V_iconst (pc := 400) (DCa dc_Law_law_3 34 rfl) (by decide) ?_
        refine V_iadd (pc := 401) (DCa dc_Law_law_3 35 rfl) ?_
        refine Q_xl (pc := 402) (DCa dc_Law_law_3 36 rfl) (fun v60 => ?_)
        refine Q_callv (ci := 12) (st := [(0, r57)]) (pc := 403) (DCa dc_Law_law_3 37 rfl) (sp_Mod_minute F _ _ _ _) ce_Mod_minute (tb8 36 rfl rfl) rfl rfl ⟨Nat.le_of_ble_eq_true rfl, Nat.le_of_ble_eq_true rfl⟩ rfl (Nat.le_of_ble_eq_true rfl) (fun r61 h62 => ?_)
        refine V_icmp_eq (tgt := 1432) (pc := 406) (DCa dc_Law_law_3 38 rfl) (by decide) (fun _ => ?_) (fun _ => ?_)
        · refine V_iinc (ls' := [(0, 2, l0), (1, 2, l1), (2, 2, l2), (3, 0, w32 (l3 + 6))]) (pc := 1432) (DCa dc_Law_law_20 2 rfl) (Nat.le_of_ble_eq_true rfl) (by decide) 3 rfl rfl ?_
          refine V_goto (tgt := 18) (pc := 1435) (DCa dc_Law_law_20 3 rfl) (by decide) ?_
          exact hR18 _ _ _ _ _
        · refine V_iconst (pc := 409) (DCa dc_Law_law_3 39 rfl) (by decide) ?_
          exact V_zreturn (pc := 410) (DCa dc_Law_law_3 40 rfl) rfl
      | 7, _ =>
        refine ⟨_, 411, rfl, by decide, ?_⟩
        refine V_aload_n (pc := 411) (DCa dc_Law_law_3 41 rfl) rfl 1 rfl ?_
        refine V_aload_n (pc := 412) (DCa dc_Law_law_3 42 rfl) rfl 0 rfl ?_
        refine V_iload_n (pc := 413) (DCa dc_Law_law_3 43 rfl) rfl 3 rfl ?_
        refine V_iconst (pc := 414) (DCa dc_Law_law_3 44 rfl) (by decide) ?_
        refine V_iadd (pc := 415) (DCa dc_Law_law_3 45 rfl) ?_
        refine Q_xl (pc := 416) (DCa dc_Law_law_3 46 rfl) (fun v63 => ?_)
        refine V_aload_n (pc := 417) (DCa dc_Law_law_3 47 rfl) rfl 0 rfl ?_
        refine V_iload_n (pc := 418) (DCa dc_Law_law_3 48 rfl) rfl 3 rfl ?_
        refine V_iconst (pc := 419) (DCa dc_Law_law_3 49 rfl) (by decide) ?_
        refine V_iadd (pc := 420) (DCa dc_Law_law_4 0 rfl) ?_
        refine Q_xl (pc := 421) (DCa dc_Law_law_4 1 rfl) (fun v64 => ?_)
        refine Q_callv (ci := 11) (st := []) (pc := 422) (DCa dc_Law_law_4 2 rfl) (sp_Tide_free F _ _ _ _) ce_Tide_free (tb4 160 rfl rfl) rfl rfl ⟨Nat.le_of_ble_eq_true rfl, Nat.le_of_ble_eq_true rfl⟩ rfl (Nat.le_of_ble_eq_true rfl) (fun r65 h66 => ?_)
        refine V_aload_n (pc := 425) (DCa dc_Law_law_4 3 rfl) rfl 2 rfl ?_
        refine V_aload_n (pc := 426) (DCa dc_Law_law_4 4 rfl) rfl 0 rfl ?_
        refine V_iload_n (pc := 427) (DCa dc_Law_law_4 5 rfl) rfl 3 rfl ?_
        refine V_iconst (pc := 428) (DCa dc_Law_law_4 6 rfl) (by decide) ?_
        refine V_iadd (pc := 429) (DCa dc_Law_law_4 7 rfl) ?_
        refine Q_xl (pc := 430) (DCa dc_Law_law_4 8 rfl) (fun v67 => ?_)
        refine V_aload_n (pc := 431) (DCa dc_Law_law_4 9 rfl) rfl 0 rfl ?_
        refine V_iload_n (pc := 432) (DCa dc_Law_law_4 10 rfl) rfl 3 rfl ?_
        refine V_iconst (pc := 433) (DCa dc_Law_law_4 11 rfl) (by decide) ?_
        refine V_iadd (pc := 434) (DCa dc_Law_law_4 12 rfl) ?_
        refine Q_xl (pc := 435) (DCa dc_Law_law_4 13 rfl) (fun v68 => ?_)
        refine Q_callv (ci := 12) (st := [(0, r65)]) (pc := 436) (DCa dc_Law_law_4 14 rfl) (sp_Mod_free F _ _ _ _) ce_Mod_free (tb8 43 rfl rfl) rfl rfl ⟨Nat.le_of_ble_eq_true rfl, Nat.le_of_ble_eq_true rfl⟩ rfl (Nat.le_of_ble_eq_true rfl) (fun r69 h70 => ?_)
        refine V_icmp_eq (tgt := 1432) (pc := 439) (DCa dc_Law_law_4 15 rfl) (by decide) (fun _ => ?_) (fun _ => ?_)
        · refine V_iinc (ls' := [(0, 2, l0), (1, 2, l1), (2, 2, l2), (3, 0, w32 (l3 + 6))]) (pc := 1432) (DCa dc_Law_law_20 2 rfl) (Nat.le_of_ble_eq_true rfl) (by decide) 3 rfl rfl ?_
          refine V_goto (tgt := 18) (pc := 1435) (DCa dc_Law_law_20 3 rfl) (by decide) ?_
          exact hR18 _ _ _ _ _
        · refine V_iconst (pc := 442) (DCa dc_Law_law_4 16 rfl) (by decide) ?_
          exact V_zreturn (pc := 443) (DCa dc_Law_law_4 17 rfl) rfl
      | 8, _ =>
        refine ⟨_, 444, rfl, by decide, ?_⟩
        refine V_aload_n (pc := 444) (DCa dc_Law_law_4 18 rfl) rfl 1 rfl ?_
        refine V_aload_n (pc := 445) (DCa dc_Law_law_4 19 rfl) rfl 0 rfl ?_
        refine V_iload_n (pc := 446) (DCa dc_Law_law_4 20 rfl) rfl 3 rfl ?_
        refine V_iconst (pc := 447) (DCa dc_Law_law_4 21 rfl) (by decide) ?_
        refine V_iadd (pc := 448) (DCa dc_Law_law_4 22 rfl) ?_
        refine Q_xl (pc := 449) (DCa dc_Law_law_4 23 rfl) (fun v71 => ?_)
        refine V_aload_n (pc := 450) (DCa dc_Law_law_4 24 rfl) rfl 0 rfl ?_
        refine V_iload_n (pc := 451) (DCa dc_Law_law_4 25 rfl) rfl 3 rfl ?_
        refine V_iconst (pc := 452) (DCa dc_Law_law_4 26 rfl) (by decide) ?_
        refine V_iadd (pc := 453) (DCa dc_Law_law_4 27 rfl) ?_
        refine Q_xl (pc := 454) (DCa dc_Law_law_4 28 rfl) (fun v72 => ?_)
        refine Q_callv (ci := 11) (st := []) (pc := 455) (DCa dc_Law_law_4 29 rfl) (sp_Tide_when F _ _ _ _) ce_Tide_when (tb4 168 rfl rfl) rfl rfl ⟨Nat.le_of_ble_eq_true rfl, Nat.le_of_ble_eq_true rfl⟩ rfl (Nat.le_of_ble_eq_true rfl) (fun r73 h74 => ?_)
        refine V_aload_n (pc := 458) (DCa dc_Law_law_4 30 rfl) rfl 2 rfl ?_
        refine V_aload_n (pc := 459) (DCa dc_Law_law_4 31 rfl) rfl 0 rfl ?_
        refine V_iload_n (pc := 460) (DCa dc_Law_law_4 32 rfl) rfl 3 rfl ?_
        refine V_iconst (pc := 461) (DCa dc_Law_law_4 33 rfl) (by decide) ?_
        refine V_iadd (pc := 462) (DCa dc_Law_law_4 34 rfl) ?_
        refine Q_xl (pc := 463) (DCa dc_Law_law_4 35 rfl) (fun v75 => ?_)
        refine V_aload_n (pc := 464) (DCa dc_Law_law_4 36 rfl) rfl 0 rfl ?_
        refine V_iload_n (pc := 465) (DCa dc_Law_law_4 37 rfl) rfl 3 rfl ?_
        refine V_iconst (pc := 466) (DCa dc_Law_law_4 38 rfl) (by decide) ?_
        refine V_iadd (pc := 467) (DCa dc_Law_law_4 39 rfl) ?_
        refine Q_xl (pc := 468) (DCa dc_Law_law_4 40 rfl) (fun v76 => ?_)
        refine Q_callv (ci := 12) (st := [(0, r73)]) (pc := 469) (DCa dc_Law_law_4 41 rfl) (sp_Mod_when F _ _ _ _) ce_Mod_when (tb8 51 rfl rfl) rfl rfl ⟨Nat.le_of_ble_eq_true rfl, Nat.le_of_ble_eq_true rfl⟩ rfl (Nat.le_of_ble_eq_true rfl) (fun r77 h78 => ?_)
        refine V_icmp_eq (tgt := 1432) (pc := 472) (DCa dc_Law_law_4 42 rfl) (by decide) (fun _ => ?_) (fun _ => ?_)
        · refine V_iinc (ls' := [(0, 2, l0), (1, 2, l1), (2, 2, l2), (3, 0, w32 (l3 + 6))]) (pc := 1432) (DCa dc_Law_law_20 2 rfl) (Nat.le_of_ble_eq_true rfl) (by decide) 3 rfl rfl ?_
          refine V_goto (tgt := 18) (pc := 1435) (DCa dc_Law_law_20 3 rfl) (by decide) ?_
          exact hR18 _ _ _ _ _
        · refine V_iconst (pc := 475) (DCa dc_Law_law_4 43 rfl) (by decide) ?_
          exact V_zreturn (pc := 476) (DCa dc_Law_law_4 44 rfl) rfl
      | 9, _ =>
        refine ⟨_, 477, rfl, by decide, ?_⟩
        refine V_aload_n (pc := 477) (DCa dc_Law_law_4 45 rfl) rfl 1 rfl ?_
        refine V_aload_n (pc := 478) (DCa dc_Law_law_4 46 rfl) rfl 0 rfl ?_
        refine V_iload_n (pc := 479) (DCa dc_Law_law_4 47 rfl) rfl 3 rfl ?_
        refine V_iconst (pc := 480) (DCa dc_Law_law_4 48 rfl) (by decide) ?_
        refine V_iadd (pc := 481) (DCa dc_Law_law_4 49 rfl) ?_
        refine Q_xl (pc := 482) (DCa dc_Law_law_5 0 rfl) (fun v79 => ?_)
        refine V_aload_n (pc := 483) (DCa dc_Law_law_5 1 rfl) rfl 0 rfl ?_
        refine V_iload_n (pc := 484) (DCa dc_Law_law_5 2 rfl) rfl 3 rfl ?_
        refine V_iconst (pc := 485) (DCa dc_Law_law_5 3 rfl) (by decide) ?_
        refine V_iadd (pc := 486) (DCa dc_Law_law_5 4 rfl) ?_
        refine Q_xl (pc := 487) (DCa dc_Law_law_5 5 rfl) (fun v80 => ?_)
        refine Q_callv (ci := 11) (st := []) (pc := 488) (DCa dc_Law_law_5 6 rfl) (sp_Tide_send F _ _ _ _) ce_Tide_send (tb4 176 rfl rfl) rfl rfl ⟨Nat.le_of_ble_eq_true rfl, Nat.le_of_ble_eq_true rfl⟩ rfl (Nat.le_of_ble_eq_true rfl) (fun r81 h82 => ?_)
        refine V_aload_n (pc := 491) (DCa dc_Law_law_5 7 rfl) rfl 2 rfl ?_
        refine V_aload_n (pc := 492) (DCa dc_Law_law_5 8 rfl) rfl 0 rfl ?_
        refine V_iload_n (pc := 493) (DCa dc_Law_law_5 9 rfl) rfl 3 rfl ?_
        refine V_iconst (pc := 494) (DCa dc_Law_law_5 10 rfl) (by decide) ?_
        refine V_iadd (pc := 495) (DCa dc_Law_law_5 11 rfl) ?_
        refine Q_xl (pc := 496) (DCa dc_Law_law_5 12 rfl) (fun v83 => ?_)
        refine V_aload_n (pc := 497) (DCa dc_Law_law_5 13 rfl) rfl 0 rfl ?_
        refine V_iload_n (pc := 498) (DCa dc_Law_law_5 14 rfl) rfl 3 rfl ?_
        refine V_iconst (pc := 499) (DCa dc_Law_law_5 15 rfl) (by decide) ?_
        refine V_iadd (pc := 500) (DCa dc_Law_law_5 16 rfl) ?_
        refine Q_xl (pc := 501) (DCa dc_Law_law_5 17 rfl) (fun v84 => ?_)
        refine Q_callv (ci := 12) (st := [(0, r81)]) (pc := 502) (DCa dc_Law_law_5 18 rfl) (sp_Mod_send F _ _ _ _) ce_Mod_send (tb8 67 rfl rfl) rfl rfl ⟨Nat.le_of_ble_eq_true rfl, Nat.le_of_ble_eq_true rfl⟩ rfl (Nat.le_of_ble_eq_true rfl) (fun r85 h86 => ?_)
        refine V_icmp_eq (tgt := 1432) (pc := 505) (DCa dc_Law_law_5 19 rfl) (by decide) (fun _ => ?_) (fun _ => ?_)
        · refine V_iinc (ls' := [(0, 2, l0), (1, 2, l1), (2, 2, l2), (3, 0, w32 (l3 + 6))]) (pc := 1432) (DCa dc_Law_law_20 2 rfl) (Nat.le_of_ble_eq_true rfl) (by decide) 3 rfl rfl ?_
          refine V_goto (tgt := 18) (pc := 1435) (DCa dc_Law_law_20 3 rfl) (by decide) ?_
          exact hR18 _ _ _ _ _
        · refine V_iconst (pc := 508) (DCa dc_Law_law_5 20 rfl) (by decide) ?_
          exact V_zreturn (pc := 509) (DCa dc_Law_law_5 21 rfl) rfl
      | 10, _ =>
        refine ⟨_, 510, rfl, by decide, ?_⟩
        refine V_aload_n (pc := 510) (DCa dc_Law_law_5 22 rfl) rfl 1 rfl ?_
        refine V_aload_n (pc := 511) (DCa dc_Law_law_5 23 rfl) rfl 0 rfl ?_
        refine V_iload_n (pc := 512) (DCa dc_Law_law_5 24 rfl) rfl 3 rfl ?_
        refine V_iconst (pc := 513) (DCa dc_Law_law_5 25 rfl) (by decide) ?_
        refine V_iadd (pc := 514) (DCa dc_Law_law_5 26 rfl) ?_
        refine Q_xl (pc := 515) (DCa dc_Law_law_5 27 rfl) (fun v87 => ?_)
        refine Q_callv (ci := 11) (st := []) (pc := 516) (DCa dc_Law_law_5 28 rfl) (sp_Tide_cross F _ _ _) ce_Tide_cross (tb4 223 rfl rfl) rfl rfl ⟨Nat.le_of_ble_eq_true rfl, Nat.le_of_ble_eq_true rfl⟩ rfl (Nat.le_of_ble_eq_true rfl) (fun r88 h89 => ?_)
        refine V_aload_n (pc := 519) (DCa dc_Law_law_5 29 rfl) rfl 2 rfl ?_
        refine V_aload_n (pc := 520) (DCa dc_Law_law_5 30 rfl) rfl 0 rfl ?_
        refine V_iload_n (pc := 521) (DCa dc_Law_law_5 31 rfl) rfl 3 rfl ?_
        refine V_iconst (pc := 522) (DCa dc_Law_law_5 32 rfl) (by decide) ?_
        refine V_iadd (pc := 523) (DCa dc_Law_law_5 33 rfl) ?_
        refine Q_xl (pc := 524) (DCa dc_Law_law_5 34 rfl) (fun v90 => ?_)
        refine Q_callv (ci := 12) (st := [(0, r88)]) (pc := 525) (DCa dc_Law_law_5 35 rfl) (sp_Mod_cross F _ _ _) ce_Mod_cross (tb8 102 rfl rfl) rfl rfl ⟨Nat.le_of_ble_eq_true rfl, Nat.le_of_ble_eq_true rfl⟩ rfl (Nat.le_of_ble_eq_true rfl) (fun r91 h92 => ?_)
        refine V_icmp_eq (tgt := 1432) (pc := 528) (DCa dc_Law_law_5 36 rfl) (by decide) (fun _ => ?_) (fun _ => ?_)
        · refine V_iinc (ls' := [(0, 2, l0), (1, 2, l1), (2, 2, l2), (3, 0, w32 (l3 + 6))]) (pc := 1432) (DCa dc_Law_law_20 2 rfl) (Nat.le_of_ble_eq_true rfl) (by decide) 3 rfl rfl ?_
          refine V_goto (tgt := 18) (pc := 1435) (DCa dc_Law_law_20 3 rfl) (by decide) ?_
          exact hR18 _ _ _ _ _
        · refine V_iconst (pc := 531) (DCa dc_Law_law_5 37 rfl) (by decide) ?_
          exact V_zreturn (pc := 532) (DCa dc_Law_law_5 38 rfl) rfl
      | 11, _ =>
        refine ⟨_, 533, rfl, by decide, ?_⟩
        refine V_aload_n (pc := 533) (DCa dc_Law_law_5 39 rfl) rfl 1 rfl ?_
        refine V_aload_n (pc := 534) (DCa dc_Law_law_5 40 rfl) rfl 0 rfl ?_
        refine V_iload_n (pc := 535) (DCa dc_Law_law_5 41 rfl) rfl 3 rfl ?_
        refine V_iconst (pc := 536) (DCa dc_Law_law_5 42 rfl) (by decide) ?_
        refine V_iadd (pc := 537) (DCa dc_Law_law_5 43 rfl) ?_
        refine Q_xl (pc := 538) (DCa dc_Law_law_5 44 rfl) (fun v93 => ?_)
        refine V_aload_n (pc := 539) (DCa dc_Law_law_5 45 rfl) rfl 0 rfl ?_
        refine V_iload_n (pc := 540) (DCa dc_Law_law_5 46 rfl) rfl 3 rfl ?_
        refine V_iconst (pc := 541) (DCa dc_Law_law_5 47 rfl) (by decide) ?_
        refine V_iadd (pc := 542) (DCa dc_Law_law_5 48 rfl) ?_
        refine Q_xl (pc := 543) (DCa dc_Law_law_5 49 rfl) (fun v94 => ?_)
        refine Q_callv (ci := 11) (st := []) (pc := 544) (DCa dc_Law_law_6 0 rfl) (sp_Tide_mend F _ _ _ _) ce_Tide_mend (tb4 231 rfl rfl) rfl rfl ⟨Nat.le_of_ble_eq_true rfl, Nat.le_of_ble_eq_true rfl⟩ rfl (Nat.le_of_ble_eq_true rfl) (fun r95 h96 => ?_)
        refine V_aload_n (pc := 547) (DCa dc_Law_law_6 1 rfl) rfl 2 rfl ?_
        refine V_aload_n (pc := 548) (DCa dc_Law_law_6 2 rfl) rfl 0 rfl ?_
        refine V_iload_n (pc := 549) (DCa dc_Law_law_6 3 rfl) rfl 3 rfl ?_
        refine V_iconst (pc := 550) (DCa dc_Law_law_6 4 rfl) (by decide) ?_
        refine V_iadd (pc := 551) (DCa dc_Law_law_6 5 rfl) ?_
        refine Q_xl (pc := 552) (DCa dc_Law_law_6 6 rfl) (fun v97 => ?_)
        refine V_aload_n (pc := 553) (DCa dc_Law_law_6 7 rfl) rfl 0 rfl ?_
        refine V_iload_n (pc := 554) (DCa dc_Law_law_6 8 rfl) rfl 3 rfl ?_
        refine V_iconst (pc := 555) (DCa dc_Law_law_6 9 rfl) (by decide) ?_
        refine V_iadd (pc := 556) (DCa dc_Law_law_6 10 rfl) ?_
        refine Q_xl (pc := 557) (DCa dc_Law_law_6 11 rfl) (fun v98 => ?_)
        refine Q_callv (ci := 12) (st := [(0, r95)]) (pc := 558) (DCa dc_Law_law_6 12 rfl) (sp_Mod_mend F _ _ _ _) ce_Mod_mend (tb8 110 rfl rfl) rfl rfl ⟨Nat.le_of_ble_eq_true rfl, Nat.le_of_ble_eq_true rfl⟩ rfl (Nat.le_of_ble_eq_true rfl) (fun r99 h100 => ?_)
        refine V_icmp_eq (tgt := 1432) (pc := 561) (DCa dc_Law_law_6 13 rfl) (by decide) (fun _ => ?_) (fun _ => ?_)
        · refine V_iinc (ls' := [(0, 2, l0), (1, 2, l1), (2, 2, l2), (3, 0, w32 (l3 + 6))]) (pc := 1432) (DCa dc_Law_law_20 2 rfl) (Nat.le_of_ble_eq_true rfl) (by decide) 3 rfl rfl ?_
          refine V_goto (tgt := 18) (pc := 1435) (DCa dc_Law_law_20 3 rfl) (by decide) ?_
          exact hR18 _ _ _ _ _
        · refine V_iconst (pc := 564) (DCa dc_Law_law_6 14 rfl) (by decide) ?_
          exact V_zreturn (pc := 565) (DCa dc_Law_law_6 15 rfl) rfl
      | 12, _ =>
        refine ⟨_, 566, rfl, by decide, ?_⟩
        refine V_aload_n (pc := 566) (DCa dc_Law_law_6 16 rfl) rfl 1 rfl ?_
        refine Q_callv (ci := 11) (st := []) (pc := 567) (DCa dc_Law_law_6 17 rfl) (sp_Tide_undo F _ _) ce_Tide_undo (tb5 0 rfl rfl) rfl rfl ⟨Nat.le_of_ble_eq_true rfl, Nat.le_of_ble_eq_true rfl⟩ rfl (Nat.le_of_ble_eq_true rfl) (fun r101 h102 => ?_)
        refine V_aload_n (pc := 570) (DCa dc_Law_law_6 18 rfl) rfl 2 rfl ?_
        refine Q_callv (ci := 12) (st := [(0, r101)]) (pc := 571) (DCa dc_Law_law_6 19 rfl) (sp_Mod_undo F _ _) ce_Mod_undo (tb8 118 rfl rfl) rfl rfl ⟨Nat.le_of_ble_eq_true rfl, Nat.le_of_ble_eq_true rfl⟩ rfl (Nat.le_of_ble_eq_true rfl) (fun r103 h104 => ?_)
        refine V_icmp_eq (tgt := 1432) (pc := 574) (DCa dc_Law_law_6 20 rfl) (by decide) (fun _ => ?_) (fun _ => ?_)
        · refine V_iinc (ls' := [(0, 2, l0), (1, 2, l1), (2, 2, l2), (3, 0, w32 (l3 + 6))]) (pc := 1432) (DCa dc_Law_law_20 2 rfl) (Nat.le_of_ble_eq_true rfl) (by decide) 3 rfl rfl ?_
          refine V_goto (tgt := 18) (pc := 1435) (DCa dc_Law_law_20 3 rfl) (by decide) ?_
          exact hR18 _ _ _ _ _
        · refine V_iconst (pc := 577) (DCa dc_Law_law_6 21 rfl) (by decide) ?_
          exact V_zreturn (pc := 578) (DCa dc_Law_law_6 22 rfl) rfl
      | 13, _ =>
        refine ⟨_, 579, rfl, by decide, ?_⟩
        refine V_aload_n (pc := 579) (DCa dc_Law_law_6 23 rfl) rfl 1 rfl ?_
        refine V_aload_n (pc := 580) (DCa dc_Law_law_6 24 rfl) rfl 0 rfl ?_
        refine V_iload_n (pc := 581) (DCa dc_Law_law_6 25 rfl) rfl 3 rfl ?_
        refine V_iconst (pc := 582) (DCa dc_Law_law_6 26 rfl) (by decide) ?_
        refine V_iadd (pc := 583) (DCa dc_Law_law_6 27 rfl) ?_
        refine Q_xl (pc := 584) (DCa dc_Law_law_6 28 rfl) (fun v105 => ?_)
        refine Q_callv (ci := 11) (st := []) (pc := 585) (DCa dc_Law_law_6 29 rfl) (sp_Tide_seen F _ _ _) ce_Tide_seen (tb5 8 rfl rfl) rfl rfl ⟨Nat.le_of_ble_eq_true rfl, Nat.le_of_ble_eq_true rfl⟩ rfl (Nat.le_of_ble_eq_true rfl) (fun r106 h107 => ?_)
        refine V_aload_n (pc := 588) (DCa dc_Law_law_6 30 rfl) rfl 2 rfl ?_
        refine V_aload_n (pc := 589) (DCa dc_Law_law_6 31 rfl) rfl 0 rfl ?_
        refine V_iload_n (pc := 590) (DCa dc_Law_law_6 32 rfl) rfl 3 rfl ?_
        refine V_iconst (pc := 591) (DCa dc_Law_law_6 33 rfl) (by decide) ?_
        refine V_iadd (pc := 592) (DCa dc_Law_law_6 34 rfl) ?_
        refine Q_xl (pc := 593) (DCa dc_Law_law_6 35 rfl) (fun v108 => ?_)
        refine Q_callv (ci := 12) (st := [(0, r106)]) (pc := 594) (DCa dc_Law_law_6 36 rfl) (sp_Mod_seen F _ _ _) ce_Mod_seen (tb8 122 rfl rfl) rfl rfl ⟨Nat.le_of_ble_eq_true rfl, Nat.le_of_ble_eq_true rfl⟩ rfl (Nat.le_of_ble_eq_true rfl) (fun r109 h110 => ?_)
        refine V_icmp_eq (tgt := 1432) (pc := 597) (DCa dc_Law_law_6 37 rfl) (by decide) (fun _ => ?_) (fun _ => ?_)
        · refine V_iinc (ls' := [(0, 2, l0), (1, 2, l1), (2, 2, l2), (3, 0, w32 (l3 + 6))]) (pc := 1432) (DCa dc_Law_law_20 2 rfl) (Nat.le_of_ble_eq_true rfl) (by decide) 3 rfl rfl ?_
          refine V_goto (tgt := 18) (pc := 1435) (DCa dc_Law_law_20 3 rfl) (by decide) ?_
          exact hR18 _ _ _ _ _
        · refine V_iconst (pc := 600) (DCa dc_Law_law_6 38 rfl) (by decide) ?_
          exact V_zreturn (pc := 601) (DCa dc_Law_law_6 39 rfl) rfl
      | 14, _ =>
        refine ⟨_, 602, rfl, by decide, ?_⟩
        refine V_aload_n (pc := 602) (DCa dc_Law_law_6 40 rfl) rfl 1 rfl ?_
        refine V_aload_n (pc := 603) (DCa dc_Law_law_6 41 rfl) rfl 0 rfl ?_
        refine V_iload_n (pc := 604) (DCa dc_Law_law_6 42 rfl) rfl 3 rfl ?_
        refine V_iconst (pc := 605) (DCa dc_Law_law_6 43 rfl) (by decide) ?_
        refine V_iadd (pc := 606) (DCa dc_Law_law_6 44 rfl) ?_
        refine Q_xl (pc := 607) (DCa dc_Law_law_6 45 rfl) (fun v111 => ?_)
        refine Q_callv (ci := 11) (st := []) (pc := 608) (DCa dc_Law_law_6 46 rfl) (sp_Tide_photo F _ _ _) ce_Tide_photo (tb5 25 rfl rfl) rfl rfl ⟨Nat.le_of_ble_eq_true rfl, Nat.le_of_ble_eq_true rfl⟩ rfl (Nat.le_of_ble_eq_true rfl) (fun r112 h113 => ?_)
        refine V_aload_n (pc := 611) (DCa dc_Law_law_6 47 rfl) rfl 2 rfl ?_
        refine V_aload_n (pc := 612) (DCa dc_Law_law_6 48 rfl) rfl 0 rfl ?_
        refine V_iload_n (pc := 613) (DCa dc_Law_law_6 49 rfl) rfl 3 rfl ?_
        refine V_iconst (pc := 614) (DCa dc_Law_law_7 0 rfl) (by decide) ?_
        refine V_iadd (pc := 615) (DCa dc_Law_law_7 1 rfl) ?_
        refine Q_xl (pc := 616) (DCa dc_Law_law_7 2 rfl) (fun v114 => ?_)
        refine Q_callv (ci := 12) (st := [(0, r112)]) (pc := 617) (DCa dc_Law_law_7 3 rfl) (sp_Mod_photo F _ _ _) ce_Mod_photo (tb8 130 rfl rfl) rfl rfl ⟨Nat.le_of_ble_eq_true rfl, Nat.le_of_ble_eq_true rfl⟩ rfl (Nat.le_of_ble_eq_true rfl) (fun r115 h116 => ?_)
        refine V_icmp_eq (tgt := 1432) (pc := 620) (DCa dc_Law_law_7 4 rfl) (by decide) (fun _ => ?_) (fun _ => ?_)
        · refine V_iinc (ls' := [(0, 2, l0), (1, 2, l1), (2, 2, l2), (3, 0, w32 (l3 + 6))]) (pc := 1432) (DCa dc_Law_law_20 2 rfl) (Nat.le_of_ble_eq_true rfl) (by decide) 3 rfl rfl ?_
          refine V_goto (tgt := 18) (pc := 1435) (DCa dc_Law_law_20 3 rfl) (by decide) ?_
          exact hR18 _ _ _ _ _
        · refine V_iconst (pc := 623) (DCa dc_Law_law_7 5 rfl) (by decide) ?_
          exact V_zreturn (pc := 624) (DCa dc_Law_law_7 6 rfl) rfl
      | 15, _ =>
        refine ⟨_, 625, rfl, by decide, ?_⟩
        refine V_aload_n (pc := 625) (DCa dc_Law_law_7 7 rfl) rfl 1 rfl ?_
        refine Q_callv (ci := 11) (st := []) (pc := 626) (DCa dc_Law_law_7 8 rfl) (sp_Tide_bestMinute F _ _) ce_Tide_bestMinute (tb5 33 rfl rfl) rfl rfl ⟨Nat.le_of_ble_eq_true rfl, Nat.le_of_ble_eq_true rfl⟩ rfl (Nat.le_of_ble_eq_true rfl) (fun r117 h118 => ?_)
        refine V_aload_n (pc := 629) (DCa dc_Law_law_7 9 rfl) rfl 2 rfl ?_
        refine Q_callv (ci := 12) (st := [(0, r117)]) (pc := 630) (DCa dc_Law_law_7 10 rfl) (sp_Mod_bestMinute F _ _) ce_Mod_bestMinute (tb8 138 rfl rfl) rfl rfl ⟨Nat.le_of_ble_eq_true rfl, Nat.le_of_ble_eq_true rfl⟩ rfl (Nat.le_of_ble_eq_true rfl) (fun r119 h120 => ?_)
        refine V_icmp_eq (tgt := 1432) (pc := 633) (DCa dc_Law_law_7 11 rfl) (by decide) (fun _ => ?_) (fun _ => ?_)
        · refine V_iinc (ls' := [(0, 2, l0), (1, 2, l1), (2, 2, l2), (3, 0, w32 (l3 + 6))]) (pc := 1432) (DCa dc_Law_law_20 2 rfl) (Nat.le_of_ble_eq_true rfl) (by decide) 3 rfl rfl ?_
          refine V_goto (tgt := 18) (pc := 1435) (DCa dc_Law_law_20 3 rfl) (by decide) ?_
          exact hR18 _ _ _ _ _
        · refine V_iconst (pc := 636) (DCa dc_Law_law_7 12 rfl) (by decide) ?_
          exact V_zreturn (pc := 637) (DCa dc_Law_law_7 13 rfl) rfl
      | 16, _ =>
        refine ⟨_, 638, rfl, by decide, ?_⟩
        refine V_aload_n (pc := 638) (DCa dc_Law_law_7 14 rfl) rfl 1 rfl ?_
        refine V_aload_n (pc := 639) (DCa dc_Law_law_7 15 rfl) rfl 0 rfl ?_
        refine V_iload_n (pc := 640) (DCa dc_Law_law_7 16 rfl) rfl 3 rfl ?_
        refine V_iconst (pc := 641) (DCa dc_Law_law_7 17 rfl) (by decide) ?_
        refine V_iadd (pc := 642) (DCa dc_Law_law_7 18 rfl) ?_
        refine Q_xl (pc := 643) (DCa dc_Law_law_7 19 rfl) (fun v121 => ?_)
        refine V_aload_n (pc := 644) (DCa dc_Law_law_7 20 rfl) rfl 0 rfl ?_
        refine V_iload_n (pc := 645) (DCa dc_Law_law_7 21 rfl) rfl 3 rfl ?_
        refine V_iconst (pc := 646) (DCa dc_Law_law_7 22 rfl) (by decide) ?_
        refine V_iadd (pc := 647) (DCa dc_Law_law_7 23 rfl) ?_
        refine Q_xl (pc := 648) (DCa dc_Law_law_7 24 rfl) (fun v122 => ?_)
        refine Q_callv (ci := 11) (st := []) (pc := 649) (DCa dc_Law_law_7 25 rfl) (sp_Tide_stays F _ _ _ _) ce_Tide_stays (tb5 37 rfl rfl) rfl rfl ⟨Nat.le_of_ble_eq_true rfl, Nat.le_of_ble_eq_true rfl⟩ rfl (Nat.le_of_ble_eq_true rfl) (fun r123 h124 => ?_)
        refine V_aload_n (pc := 652) (DCa dc_Law_law_7 26 rfl) rfl 2 rfl ?_
        refine V_aload_n (pc := 653) (DCa dc_Law_law_7 27 rfl) rfl 0 rfl ?_
        refine V_iload_n (pc := 654) (DCa dc_Law_law_7 28 rfl) rfl 3 rfl ?_
        refine V_iconst (pc := 655) (DCa dc_Law_law_7 29 rfl) (by decide) ?_
        refine V_iadd (pc := 656) (DCa dc_Law_law_7 30 rfl) ?_
        refine Q_xl (pc := 657) (DCa dc_Law_law_7 31 rfl) (fun v125 => ?_)
        refine V_aload_n (pc := 658) (DCa dc_Law_law_7 32 rfl) rfl 0 rfl ?_
        refine V_iload_n (pc := 659) (DCa dc_Law_law_7 33 rfl) rfl 3 rfl ?_
        refine V_iconst (pc := 660) (DCa dc_Law_law_7 34 rfl) (by decide) ?_
        refine V_iadd (pc := 661) (DCa dc_Law_law_7 35 rfl) ?_
        refine Q_xl (pc := 662) (DCa dc_Law_law_7 36 rfl) (fun v126 => ?_)
        refine Q_callv (ci := 12) (st := [(0, r123)]) (pc := 663) (DCa dc_Law_law_7 37 rfl) (sp_Mod_stays F _ _ _ _) ce_Mod_stays (tb8 59 rfl rfl) rfl rfl ⟨Nat.le_of_ble_eq_true rfl, Nat.le_of_ble_eq_true rfl⟩ rfl (Nat.le_of_ble_eq_true rfl) (fun r127 h128 => ?_)
        refine V_icmp_eq (tgt := 1432) (pc := 666) (DCa dc_Law_law_7 38 rfl) (by decide) (fun _ => ?_) (fun _ => ?_)
        · refine V_iinc (ls' := [(0, 2, l0), (1, 2, l1), (2, 2, l2), (3, 0, w32 (l3 + 6))]) (pc := 1432) (DCa dc_Law_law_20 2 rfl) (Nat.le_of_ble_eq_true rfl) (by decide) 3 rfl rfl ?_
          refine V_goto (tgt := 18) (pc := 1435) (DCa dc_Law_law_20 3 rfl) (by decide) ?_
          exact hR18 _ _ _ _ _
        · refine V_iconst (pc := 669) (DCa dc_Law_law_7 39 rfl) (by decide) ?_
          exact V_zreturn (pc := 670) (DCa dc_Law_law_7 40 rfl) rfl
      | 17, _ =>
        refine ⟨_, 671, rfl, by decide, ?_⟩
        refine V_aload_n (pc := 671) (DCa dc_Law_law_7 41 rfl) rfl 1 rfl ?_
        refine V_aload_n (pc := 672) (DCa dc_Law_law_7 42 rfl) rfl 0 rfl ?_
        refine V_iload_n (pc := 673) (DCa dc_Law_law_7 43 rfl) rfl 3 rfl ?_
        refine V_iconst (pc := 674) (DCa dc_Law_law_7 44 rfl) (by decide) ?_
        refine V_iadd (pc := 675) (DCa dc_Law_law_7 45 rfl) ?_
        refine Q_xl (pc := 676) (DCa dc_Law_law_7 46 rfl) (fun v129 => ?_)
        refine V_aload_n (pc := 677) (DCa dc_Law_law_7 47 rfl) rfl 0 rfl ?_
        refine V_iload_n (pc := 678) (DCa dc_Law_law_7 48 rfl) rfl 3 rfl ?_
        refine V_iconst (pc := 679) (DCa dc_Law_law_7 49 rfl) (by decide) ?_
        refine V_iadd (pc := 680) (DCa dc_Law_law_8 0 rfl) ?_
        refine Q_xl (pc := 681) (DCa dc_Law_law_8 1 rfl) (fun v130 => ?_)
        refine V_aload_n (pc := 682) (DCa dc_Law_law_8 2 rfl) rfl 0 rfl ?_
        refine V_iload_n (pc := 683) (DCa dc_Law_law_8 3 rfl) rfl 3 rfl ?_
        refine V_iconst (pc := 684) (DCa dc_Law_law_8 4 rfl) (by decide) ?_
        refine V_iadd (pc := 685) (DCa dc_Law_law_8 5 rfl) ?_
        refine Q_xl (pc := 686) (DCa dc_Law_law_8 6 rfl) (fun v131 => ?_)
        refine Q_callv (ci := 11) (st := []) (pc := 687) (DCa dc_Law_law_8 7 rfl) (sp_Tide_plan F _ _ _ _ _) ce_Tide_plan (tb5 41 rfl rfl) rfl rfl ⟨Nat.le_of_ble_eq_true rfl, Nat.le_of_ble_eq_true rfl⟩ rfl (Nat.le_of_ble_eq_true rfl) (fun r132 h133 => ?_)
        refine V_aload_n (pc := 690) (DCa dc_Law_law_8 8 rfl) rfl 2 rfl ?_
        refine V_aload_n (pc := 691) (DCa dc_Law_law_8 9 rfl) rfl 0 rfl ?_
        refine V_iload_n (pc := 692) (DCa dc_Law_law_8 10 rfl) rfl 3 rfl ?_
        refine V_iconst (pc := 693) (DCa dc_Law_law_8 11 rfl) (by decide) ?_
        refine V_iadd (pc := 694) (DCa dc_Law_law_8 12 rfl) ?_
        refine Q_xl (pc := 695) (DCa dc_Law_law_8 13 rfl) (fun v134 => ?_)
        refine V_aload_n (pc := 696) (DCa dc_Law_law_8 14 rfl) rfl 0 rfl ?_
        refine V_iload_n (pc := 697) (DCa dc_Law_law_8 15 rfl) rfl 3 rfl ?_
        refine V_iconst (pc := 698) (DCa dc_Law_law_8 16 rfl) (by decide) ?_
        refine V_iadd (pc := 699) (DCa dc_Law_law_8 17 rfl) ?_
        refine Q_xl (pc := 700) (DCa dc_Law_law_8 18 rfl) (fun v135 => ?_)
        refine V_aload_n (pc := 701) (DCa dc_Law_law_8 19 rfl) rfl 0 rfl ?_
        refine V_iload_n (pc := 702) (DCa dc_Law_law_8 20 rfl) rfl 3 rfl ?_
        refine V_iconst (pc := 703) (DCa dc_Law_law_8 21 rfl) (by decide) ?_
        refine V_iadd (pc := 704) (DCa dc_Law_law_8 22 rfl) ?_
        refine Q_xl (pc := 705) (DCa dc_Law_law_8 23 rfl) (fun v136 => ?_)
        refine Q_callv (ci := 12) (st := [(0, r132)]) (pc := 706) (DCa dc_Law_law_8 24 rfl) (sp_Mod_plan F _ _ _ _ _) ce_Mod_plan (tb8 142 rfl rfl) rfl rfl ⟨Nat.le_of_ble_eq_true rfl, Nat.le_of_ble_eq_true rfl⟩ rfl (Nat.le_of_ble_eq_true rfl) (fun r137 h138 => ?_)
        refine V_icmp_eq (tgt := 1432) (pc := 709) (DCa dc_Law_law_8 25 rfl) (by decide) (fun _ => ?_) (fun _ => ?_)
        · refine V_iinc (ls' := [(0, 2, l0), (1, 2, l1), (2, 2, l2), (3, 0, w32 (l3 + 6))]) (pc := 1432) (DCa dc_Law_law_20 2 rfl) (Nat.le_of_ble_eq_true rfl) (by decide) 3 rfl rfl ?_
          refine V_goto (tgt := 18) (pc := 1435) (DCa dc_Law_law_20 3 rfl) (by decide) ?_
          exact hR18 _ _ _ _ _
        · refine V_iconst (pc := 712) (DCa dc_Law_law_8 26 rfl) (by decide) ?_
          exact V_zreturn (pc := 713) (DCa dc_Law_law_8 27 rfl) rfl
      | 18, _ =>
        refine ⟨_, 714, rfl, by decide, ?_⟩
        refine V_aload_n (pc := 714) (DCa dc_Law_law_8 28 rfl) rfl 1 rfl ?_
        refine V_aload_n (pc := 715) (DCa dc_Law_law_8 29 rfl) rfl 0 rfl ?_
        refine V_iload_n (pc := 716) (DCa dc_Law_law_8 30 rfl) rfl 3 rfl ?_
        refine V_iconst (pc := 717) (DCa dc_Law_law_8 31 rfl) (by decide) ?_
        refine V_iadd (pc := 718) (DCa dc_Law_law_8 32 rfl) ?_
        refine Q_xl (pc := 719) (DCa dc_Law_law_8 33 rfl) (fun v139 => ?_)
        refine V_aload_n (pc := 720) (DCa dc_Law_law_8 34 rfl) rfl 0 rfl ?_
        refine V_iload_n (pc := 721) (DCa dc_Law_law_8 35 rfl) rfl 3 rfl ?_
        refine V_iconst (pc := 722) (DCa dc_Law_law_8 36 rfl) (by decide) ?_
        refine V_iadd (pc := 723) (DCa dc_Law_law_8 37 rfl) ?_
        refine Q_xl (pc := 724) (DCa dc_Law_law_8 38 rfl) (fun v140 => ?_)
        refine V_aload_n (pc := 725) (DCa dc_Law_law_8 39 rfl) rfl 0 rfl ?_
        refine V_iload_n (pc := 726) (DCa dc_Law_law_8 40 rfl) rfl 3 rfl ?_
        refine V_iconst (pc := 727) (DCa dc_Law_law_8 41 rfl) (by decide) ?_
        refine V_iadd (pc := 728) (DCa dc_Law_law_8 42 rfl) ?_
        refine Q_xl (pc := 729) (DCa dc_Law_law_8 43 rfl) (fun v141 => ?_)
        refine Q_callv (ci := 11) (st := []) (pc := 730) (DCa dc_Law_law_8 44 rfl) (sp_Tide_planAt F _ _ _ _ _) ce_Tide_planAt (tb5 85 rfl rfl) rfl rfl ⟨Nat.le_of_ble_eq_true rfl, Nat.le_of_ble_eq_true rfl⟩ rfl (Nat.le_of_ble_eq_true rfl) (fun r142 h143 => ?_)
        refine V_aload_n (pc := 733) (DCa dc_Law_law_8 45 rfl) rfl 2 rfl ?_
        refine V_aload_n (pc := 734) (DCa dc_Law_law_8 46 rfl) rfl 0 rfl ?_
        refine V_iload_n (pc := 735) (DCa dc_Law_law_8 47 rfl) rfl 3 rfl ?_
        refine V_iconst (pc := 736) (DCa dc_Law_law_8 48 rfl) (by decide) ?_
        refine V_iadd (pc := 737) (DCa dc_Law_law_8 49 rfl) ?_
        refine Q_xl (pc := 738) (DCa dc_Law_law_9 0 rfl) (fun v144 => ?_)
        refine V_aload_n (pc := 739) (DCa dc_Law_law_9 1 rfl) rfl 0 rfl ?_
        refine V_iload_n (pc := 740) (DCa dc_Law_law_9 2 rfl) rfl 3 rfl ?_
        refine V_iconst (pc := 741) (DCa dc_Law_law_9 3 rfl) (by decide) ?_
        refine V_iadd (pc := 742) (DCa dc_Law_law_9 4 rfl) ?_
        refine Q_xl (pc := 743) (DCa dc_Law_law_9 5 rfl) (fun v145 => ?_)
        refine V_aload_n (pc := 744) (DCa dc_Law_law_9 6 rfl) rfl 0 rfl ?_
        refine V_iload_n (pc := 745) (DCa dc_Law_law_9 7 rfl) rfl 3 rfl ?_
        refine V_iconst (pc := 746) (DCa dc_Law_law_9 8 rfl) (by decide) ?_
        refine V_iadd (pc := 747) (DCa dc_Law_law_9 9 rfl) ?_
        refine Q_xl (pc := 748) (DCa dc_Law_law_9 10 rfl) (fun v146 => ?_)
        refine Q_callv (ci := 12) (st := [(0, r142)]) (pc := 749) (DCa dc_Law_law_9 11 rfl) (sp_Mod_planAt F _ _ _ _ _) ce_Mod_planAt (tb8 190 rfl rfl) rfl rfl ⟨Nat.le_of_ble_eq_true rfl, Nat.le_of_ble_eq_true rfl⟩ rfl (Nat.le_of_ble_eq_true rfl) (fun r147 h148 => ?_)
        refine V_icmp_eq (tgt := 1432) (pc := 752) (DCa dc_Law_law_9 12 rfl) (by decide) (fun _ => ?_) (fun _ => ?_)
        · refine V_iinc (ls' := [(0, 2, l0), (1, 2, l1), (2, 2, l2), (3, 0, w32 (l3 + 6))]) (pc := 1432) (DCa dc_Law_law_20 2 rfl) (Nat.le_of_ble_eq_true rfl) (by decide) 3 rfl rfl ?_
          refine V_goto (tgt := 18) (pc := 1435) (DCa dc_Law_law_20 3 rfl) (by decide) ?_
          exact hR18 _ _ _ _ _
        · refine V_iconst (pc := 755) (DCa dc_Law_law_9 13 rfl) (by decide) ?_
          exact V_zreturn (pc := 756) (DCa dc_Law_law_9 14 rfl) rfl
      | 19, _ =>
        refine ⟨_, 757, rfl, by decide, ?_⟩
        refine V_aload_n (pc := 757) (DCa dc_Law_law_9 15 rfl) rfl 1 rfl ?_
        refine V_aload_n (pc := 758) (DCa dc_Law_law_9 16 rfl) rfl 0 rfl ?_
        refine V_iload_n (pc := 759) (DCa dc_Law_law_9 17 rfl) rfl 3 rfl ?_
        refine V_iconst (pc := 760) (DCa dc_Law_law_9 18 rfl) (by decide) ?_
        refine V_iadd (pc := 761) (DCa dc_Law_law_9 19 rfl) ?_
        refine Q_xl (pc := 762) (DCa dc_Law_law_9 20 rfl) (fun v149 => ?_)
        refine V_aload_n (pc := 763) (DCa dc_Law_law_9 21 rfl) rfl 0 rfl ?_
        refine V_iload_n (pc := 764) (DCa dc_Law_law_9 22 rfl) rfl 3 rfl ?_
        refine V_iconst (pc := 765) (DCa dc_Law_law_9 23 rfl) (by decide) ?_
        refine V_iadd (pc := 766) (DCa dc_Law_law_9 24 rfl) ?_
        refine Q_xl (pc := 767) (DCa dc_Law_law_9 25 rfl) (fun v150 => ?_)
        refine V_aload_n (pc := 768) (DCa dc_Law_law_9 26 rfl) rfl 0 rfl ?_
        refine V_iload_n (pc := 769) (DCa dc_Law_law_9 27 rfl) rfl 3 rfl ?_
        refine V_iconst (pc := 770) (DCa dc_Law_law_9 28 rfl) (by decide) ?_
        refine V_iadd (pc := 771) (DCa dc_Law_law_9 29 rfl) ?_
        refine Q_xl (pc := 772) (DCa dc_Law_law_9 30 rfl) (fun v151 => ?_)
        refine V_aload_n (pc := 773) (DCa dc_Law_law_9 31 rfl) rfl 0 rfl ?_
        refine V_iload_n (pc := 774) (DCa dc_Law_law_9 32 rfl) rfl 3 rfl ?_
        refine V_iconst (pc := 775) (DCa dc_Law_law_9 33 rfl) (by decide) ?_
        refine V_iadd (pc := 776) (DCa dc_Law_law_9 34 rfl) ?_
        refine Q_xl (pc := 777) (DCa dc_Law_law_9 35 rfl) (fun v152 => ?_)
        refine Q_callv (ci := 11) (st := []) (pc := 778) (DCa dc_Law_law_9 36 rfl) (sp_Tide_two F _ _ _ _ _ _) ce_Tide_two (tb5 109 rfl rfl) rfl rfl ⟨Nat.le_of_ble_eq_true rfl, Nat.le_of_ble_eq_true rfl⟩ rfl (Nat.le_of_ble_eq_true rfl) (fun r153 h154 => ?_)
        refine V_aload_n (pc := 781) (DCa dc_Law_law_9 37 rfl) rfl 2 rfl ?_
        refine V_aload_n (pc := 782) (DCa dc_Law_law_9 38 rfl) rfl 0 rfl ?_
        refine V_iload_n (pc := 783) (DCa dc_Law_law_9 39 rfl) rfl 3 rfl ?_
        refine V_iconst (pc := 784) (DCa dc_Law_law_9 40 rfl) (by decide) ?_
        refine V_iadd (pc := 785) (DCa dc_Law_law_9 41 rfl) ?_
        refine Q_xl (pc := 786) (DCa dc_Law_law_9 42 rfl) (fun v155 => ?_)
        refine V_aload_n (pc := 787) (DCa dc_Law_law_9 43 rfl) rfl 0 rfl ?_
        refine V_iload_n (pc := 788) (DCa dc_Law_law_9 44 rfl) rfl 3 rfl ?_
        refine V_iconst (pc := 789) (DCa dc_Law_law_9 45 rfl) (by decide) ?_
        refine V_iadd (pc := 790) (DCa dc_Law_law_9 46 rfl) ?_
        refine Q_xl (pc := 791) (DCa dc_Law_law_9 47 rfl) (fun v156 => ?_)
        refine V_aload_n (pc := 792) (DCa dc_Law_law_9 48 rfl) rfl 0 rfl ?_
        refine V_iload_n (pc := 793) (DCa dc_Law_law_9 49 rfl) rfl 3 rfl ?_
        refine V_iconst (pc := 794) (DCa dc_Law_law_10 0 rfl) (by decide) ?_
        refine V_iadd (pc := 795) (DCa dc_Law_law_10 1 rfl) ?_
        refine Q_xl (pc := 796) (DCa dc_Law_law_10 2 rfl) (fun v157 => ?_)
        refine V_aload_n (pc := 797) (DCa dc_Law_law_10 3 rfl) rfl 0 rfl ?_
        refine V_iload_n (pc := 798) (DCa dc_Law_law_10 4 rfl) rfl 3 rfl ?_
        refine V_iconst (pc := 799) (DCa dc_Law_law_10 5 rfl) (by decide) ?_
        refine V_iadd (pc := 800) (DCa dc_Law_law_10 6 rfl) ?_
        refine Q_xl (pc := 801) (DCa dc_Law_law_10 7 rfl) (fun v158 => ?_)
        refine Q_callv (ci := 12) (st := [(0, r153)]) (pc := 802) (DCa dc_Law_law_10 8 rfl) (sp_Mod_two F _ _ _ _ _ _) ce_Mod_two (tb8 221 rfl rfl) rfl rfl ⟨Nat.le_of_ble_eq_true rfl, Nat.le_of_ble_eq_true rfl⟩ rfl (Nat.le_of_ble_eq_true rfl) (fun r159 h160 => ?_)
        refine V_icmp_eq (tgt := 1432) (pc := 805) (DCa dc_Law_law_10 9 rfl) (by decide) (fun _ => ?_) (fun _ => ?_)
        · refine V_iinc (ls' := [(0, 2, l0), (1, 2, l1), (2, 2, l2), (3, 0, w32 (l3 + 6))]) (pc := 1432) (DCa dc_Law_law_20 2 rfl) (Nat.le_of_ble_eq_true rfl) (by decide) 3 rfl rfl ?_
          refine V_goto (tgt := 18) (pc := 1435) (DCa dc_Law_law_20 3 rfl) (by decide) ?_
          exact hR18 _ _ _ _ _
        · refine V_iconst (pc := 808) (DCa dc_Law_law_10 10 rfl) (by decide) ?_
          exact V_zreturn (pc := 809) (DCa dc_Law_law_10 11 rfl) rfl
      | 20, _ =>
        refine ⟨_, 810, rfl, by decide, ?_⟩
        refine V_aload_n (pc := 810) (DCa dc_Law_law_10 12 rfl) rfl 1 rfl ?_
        refine V_aload_n (pc := 811) (DCa dc_Law_law_10 13 rfl) rfl 0 rfl ?_
        refine V_iload_n (pc := 812) (DCa dc_Law_law_10 14 rfl) rfl 3 rfl ?_
        refine V_iconst (pc := 813) (DCa dc_Law_law_10 15 rfl) (by decide) ?_
        refine V_iadd (pc := 814) (DCa dc_Law_law_10 16 rfl) ?_
        refine Q_xl (pc := 815) (DCa dc_Law_law_10 17 rfl) (fun v161 => ?_)
        refine V_aload_n (pc := 816) (DCa dc_Law_law_10 18 rfl) rfl 0 rfl ?_
        refine V_iload_n (pc := 817) (DCa dc_Law_law_10 19 rfl) rfl 3 rfl ?_
        refine V_iconst (pc := 818) (DCa dc_Law_law_10 20 rfl) (by decide) ?_
        refine V_iadd (pc := 819) (DCa dc_Law_law_10 21 rfl) ?_
        refine Q_xl (pc := 820) (DCa dc_Law_law_10 22 rfl) (fun v162 => ?_)
        refine Q_callv (ci := 11) (st := []) (pc := 821) (DCa dc_Law_law_10 23 rfl) (sp_Tide_hands F _ _ _ _) ce_Tide_hands (tb5 125 rfl rfl) rfl rfl ⟨Nat.le_of_ble_eq_true rfl, Nat.le_of_ble_eq_true rfl⟩ rfl (Nat.le_of_ble_eq_true rfl) (fun r163 h164 => ?_)
        refine V_aload_n (pc := 824) (DCa dc_Law_law_10 24 rfl) rfl 2 rfl ?_
        refine V_aload_n (pc := 825) (DCa dc_Law_law_10 25 rfl) rfl 0 rfl ?_
        refine V_iload_n (pc := 826) (DCa dc_Law_law_10 26 rfl) rfl 3 rfl ?_
        refine V_iconst (pc := 827) (DCa dc_Law_law_10 27 rfl) (by decide) ?_
        refine V_iadd (pc := 828) (DCa dc_Law_law_10 28 rfl) ?_
        refine Q_xl (pc := 829) (DCa dc_Law_law_10 29 rfl) (fun v165 => ?_)
        refine V_aload_n (pc := 830) (DCa dc_Law_law_10 30 rfl) rfl 0 rfl ?_
        refine V_iload_n (pc := 831) (DCa dc_Law_law_10 31 rfl) rfl 3 rfl ?_
        refine V_iconst (pc := 832) (DCa dc_Law_law_10 32 rfl) (by decide) ?_
        refine V_iadd (pc := 833) (DCa dc_Law_law_10 33 rfl) ?_
        refine Q_xl (pc := 834) (DCa dc_Law_law_10 34 rfl) (fun v166 => ?_)
        refine Q_callv (ci := 12) (st := [(0, r163)]) (pc := 835) (DCa dc_Law_law_10 35 rfl) (sp_Mod_hands F _ _ _ _) ce_Mod_hands (tb8 229 rfl rfl) rfl rfl ⟨Nat.le_of_ble_eq_true rfl, Nat.le_of_ble_eq_true rfl⟩ rfl (Nat.le_of_ble_eq_true rfl) (fun r167 h168 => ?_)
        refine V_icmp_eq (tgt := 1432) (pc := 838) (DCa dc_Law_law_10 36 rfl) (by decide) (fun _ => ?_) (fun _ => ?_)
        · refine V_iinc (ls' := [(0, 2, l0), (1, 2, l1), (2, 2, l2), (3, 0, w32 (l3 + 6))]) (pc := 1432) (DCa dc_Law_law_20 2 rfl) (Nat.le_of_ble_eq_true rfl) (by decide) 3 rfl rfl ?_
          refine V_goto (tgt := 18) (pc := 1435) (DCa dc_Law_law_20 3 rfl) (by decide) ?_
          exact hR18 _ _ _ _ _
        · refine V_iconst (pc := 841) (DCa dc_Law_law_10 37 rfl) (by decide) ?_
          exact V_zreturn (pc := 842) (DCa dc_Law_law_10 38 rfl) rfl
      | 21, _ =>
        refine ⟨_, 843, rfl, by decide, ?_⟩
        refine V_aload_n (pc := 843) (DCa dc_Law_law_10 39 rfl) rfl 1 rfl ?_
        refine V_aload_n (pc := 844) (DCa dc_Law_law_10 40 rfl) rfl 0 rfl ?_
        refine V_iload_n (pc := 845) (DCa dc_Law_law_10 41 rfl) rfl 3 rfl ?_
        refine V_iconst (pc := 846) (DCa dc_Law_law_10 42 rfl) (by decide) ?_
        refine V_iadd (pc := 847) (DCa dc_Law_law_10 43 rfl) ?_
        refine Q_xl (pc := 848) (DCa dc_Law_law_10 44 rfl) (fun v169 => ?_)
        refine V_aload_n (pc := 849) (DCa dc_Law_law_10 45 rfl) rfl 0 rfl ?_
        refine V_iload_n (pc := 850) (DCa dc_Law_law_10 46 rfl) rfl 3 rfl ?_
        refine V_iconst (pc := 851) (DCa dc_Law_law_10 47 rfl) (by decide) ?_
        refine V_iadd (pc := 852) (DCa dc_Law_law_10 48 rfl) ?_
        refine Q_xl (pc := 853) (DCa dc_Law_law_10 49 rfl) (fun v170 => ?_)
        refine Q_callv (ci := 11) (st := []) (pc := 854) (DCa dc_Law_law_11 0 rfl) (sp_Tide_spare F _ _ _ _) ce_Tide_spare (tb5 141 rfl rfl) rfl rfl ⟨Nat.le_of_ble_eq_true rfl, Nat.le_of_ble_eq_true rfl⟩ rfl (Nat.le_of_ble_eq_true rfl) (fun r171 h172 => ?_)
        refine V_aload_n (pc := 857) (DCa dc_Law_law_11 1 rfl) rfl 2 rfl ?_
        refine V_aload_n (pc := 858) (DCa dc_Law_law_11 2 rfl) rfl 0 rfl ?_
        refine V_iload_n (pc := 859) (DCa dc_Law_law_11 3 rfl) rfl 3 rfl ?_
        refine V_iconst (pc := 860) (DCa dc_Law_law_11 4 rfl) (by decide) ?_
        refine V_iadd (pc := 861) (DCa dc_Law_law_11 5 rfl) ?_
        refine Q_xl (pc := 862) (DCa dc_Law_law_11 6 rfl) (fun v173 => ?_)
        refine V_aload_n (pc := 863) (DCa dc_Law_law_11 7 rfl) rfl 0 rfl ?_
        refine V_iload_n (pc := 864) (DCa dc_Law_law_11 8 rfl) rfl 3 rfl ?_
        refine V_iconst (pc := 865) (DCa dc_Law_law_11 9 rfl) (by decide) ?_
        refine V_iadd (pc := 866) (DCa dc_Law_law_11 10 rfl) ?_
        refine Q_xl (pc := 867) (DCa dc_Law_law_11 11 rfl) (fun v174 => ?_)
        refine Q_callv (ci := 12) (st := [(0, r171)]) (pc := 868) (DCa dc_Law_law_11 12 rfl) (sp_Mod_spare F _ _ _ _) ce_Mod_spare (tb8 213 rfl rfl) rfl rfl ⟨Nat.le_of_ble_eq_true rfl, Nat.le_of_ble_eq_true rfl⟩ rfl (Nat.le_of_ble_eq_true rfl) (fun r175 h176 => ?_)
        refine V_icmp_eq (tgt := 1432) (pc := 871) (DCa dc_Law_law_11 13 rfl) (by decide) (fun _ => ?_) (fun _ => ?_)
        · refine V_iinc (ls' := [(0, 2, l0), (1, 2, l1), (2, 2, l2), (3, 0, w32 (l3 + 6))]) (pc := 1432) (DCa dc_Law_law_20 2 rfl) (Nat.le_of_ble_eq_true rfl) (by decide) 3 rfl rfl ?_
          refine V_goto (tgt := 18) (pc := 1435) (DCa dc_Law_law_20 3 rfl) (by decide) ?_
          exact hR18 _ _ _ _ _
        · refine V_iconst (pc := 874) (DCa dc_Law_law_11 14 rfl) (by decide) ?_
          exact V_zreturn (pc := 875) (DCa dc_Law_law_11 15 rfl) rfl
      | 22, _ =>
        refine ⟨_, 876, rfl, by decide, ?_⟩
        refine V_aload_n (pc := 876) (DCa dc_Law_law_11 16 rfl) rfl 1 rfl ?_
        refine V_aload_n (pc := 877) (DCa dc_Law_law_11 17 rfl) rfl 0 rfl ?_
        refine V_iload_n (pc := 878) (DCa dc_Law_law_11 18 rfl) rfl 3 rfl ?_
        refine V_iconst (pc := 879) (DCa dc_Law_law_11 19 rfl) (by decide) ?_
        refine V_iadd (pc := 880) (DCa dc_Law_law_11 20 rfl) ?_
        refine Q_xl (pc := 881) (DCa dc_Law_law_11 21 rfl) (fun v177 => ?_)
        refine V_aload_n (pc := 882) (DCa dc_Law_law_11 22 rfl) rfl 0 rfl ?_
        refine V_iload_n (pc := 883) (DCa dc_Law_law_11 23 rfl) rfl 3 rfl ?_
        refine V_iconst (pc := 884) (DCa dc_Law_law_11 24 rfl) (by decide) ?_
        refine V_iadd (pc := 885) (DCa dc_Law_law_11 25 rfl) ?_
        refine Q_xl (pc := 886) (DCa dc_Law_law_11 26 rfl) (fun v178 => ?_)
        refine Q_callv (ci := 11) (st := []) (pc := 887) (DCa dc_Law_law_11 27 rfl) (sp_Tide_quickest F _ _ _ _) ce_Tide_quickest (tb5 157 rfl rfl) rfl rfl ⟨Nat.le_of_ble_eq_true rfl, Nat.le_of_ble_eq_true rfl⟩ rfl (Nat.le_of_ble_eq_true rfl) (fun r179 h180 => ?_)
        refine V_aload_n (pc := 890) (DCa dc_Law_law_11 28 rfl) rfl 2 rfl ?_
        refine V_aload_n (pc := 891) (DCa dc_Law_law_11 29 rfl) rfl 0 rfl ?_
        refine V_iload_n (pc := 892) (DCa dc_Law_law_11 30 rfl) rfl 3 rfl ?_
        refine V_iconst (pc := 893) (DCa dc_Law_law_11 31 rfl) (by decide) ?_
        refine V_iadd (pc := 894) (DCa dc_Law_law_11 32 rfl) ?_
        refine Q_xl (pc := 895) (DCa dc_Law_law_11 33 rfl) (fun v181 => ?_)
        refine V_aload_n (pc := 896) (DCa dc_Law_law_11 34 rfl) rfl 0 rfl ?_
        refine V_iload_n (pc := 897) (DCa dc_Law_law_11 35 rfl) rfl 3 rfl ?_
        refine V_iconst (pc := 898) (DCa dc_Law_law_11 36 rfl) (by decide) ?_
        refine V_iadd (pc := 899) (DCa dc_Law_law_11 37 rfl) ?_
        refine Q_xl (pc := 900) (DCa dc_Law_law_11 38 rfl) (fun v182 => ?_)
        refine Q_callv (ci := 12) (st := [(0, r179)]) (pc := 901) (DCa dc_Law_law_11 39 rfl) (sp_Mod_quickest F _ _ _ _) ce_Mod_quickest (tb8 217 rfl rfl) rfl rfl ⟨Nat.le_of_ble_eq_true rfl, Nat.le_of_ble_eq_true rfl⟩ rfl (Nat.le_of_ble_eq_true rfl) (fun r183 h184 => ?_)
        refine V_icmp_eq (tgt := 1432) (pc := 904) (DCa dc_Law_law_11 40 rfl) (by decide) (fun _ => ?_) (fun _ => ?_)
        · refine V_iinc (ls' := [(0, 2, l0), (1, 2, l1), (2, 2, l2), (3, 0, w32 (l3 + 6))]) (pc := 1432) (DCa dc_Law_law_20 2 rfl) (Nat.le_of_ble_eq_true rfl) (by decide) 3 rfl rfl ?_
          refine V_goto (tgt := 18) (pc := 1435) (DCa dc_Law_law_20 3 rfl) (by decide) ?_
          exact hR18 _ _ _ _ _
        · refine V_iconst (pc := 907) (DCa dc_Law_law_11 41 rfl) (by decide) ?_
          exact V_zreturn (pc := 908) (DCa dc_Law_law_11 42 rfl) rfl
      | 23, _ =>
        refine ⟨_, 909, rfl, by decide, ?_⟩
        refine V_aload_n (pc := 909) (DCa dc_Law_law_11 43 rfl) rfl 1 rfl ?_
        refine V_aload_n (pc := 910) (DCa dc_Law_law_11 44 rfl) rfl 0 rfl ?_
        refine V_iload_n (pc := 911) (DCa dc_Law_law_11 45 rfl) rfl 3 rfl ?_
        refine V_iconst (pc := 912) (DCa dc_Law_law_11 46 rfl) (by decide) ?_
        refine V_iadd (pc := 913) (DCa dc_Law_law_11 47 rfl) ?_
        refine Q_xl (pc := 914) (DCa dc_Law_law_11 48 rfl) (fun v185 => ?_)
        refine V_aload_n (pc := 915) (DCa dc_Law_law_11 49 rfl) rfl 0 rfl ?_
        refine V_iload_n (pc := 916) (DCa dc_Law_law_12 0 rfl) rfl 3 rfl ?_
        refine V_iconst (pc := 917) (DCa dc_Law_law_12 1 rfl) (by decide) ?_
        refine V_iadd (pc := 918) (DCa dc_Law_law_12 2 rfl) ?_
        refine Q_xl (pc := 919) (DCa dc_Law_law_12 3 rfl) (fun v186 => ?_)
        refine V_aload_n (pc := 920) (DCa dc_Law_law_12 4 rfl) rfl 0 rfl ?_
        refine V_iload_n (pc := 921) (DCa dc_Law_law_12 5 rfl) rfl 3 rfl ?_
        refine V_iconst (pc := 922) (DCa dc_Law_law_12 6 rfl) (by decide) ?_
        refine V_iadd (pc := 923) (DCa dc_Law_law_12 7 rfl) ?_
        refine Q_xl (pc := 924) (DCa dc_Law_law_12 8 rfl) (fun v187 => ?_)
        refine Q_callv (ci := 11) (st := []) (pc := 925) (DCa dc_Law_law_12 9 rfl) (sp_Tide_mends F _ _ _ _ _) ce_Tide_mends (tb5 162 rfl rfl) rfl rfl ⟨Nat.le_of_ble_eq_true rfl, Nat.le_of_ble_eq_true rfl⟩ rfl (Nat.le_of_ble_eq_true rfl) (fun r188 h189 => ?_)
        refine V_aload_n (pc := 928) (DCa dc_Law_law_12 10 rfl) rfl 2 rfl ?_
        refine V_aload_n (pc := 929) (DCa dc_Law_law_12 11 rfl) rfl 0 rfl ?_
        refine V_iload_n (pc := 930) (DCa dc_Law_law_12 12 rfl) rfl 3 rfl ?_
        refine V_iconst (pc := 931) (DCa dc_Law_law_12 13 rfl) (by decide) ?_
        refine V_iadd (pc := 932) (DCa dc_Law_law_12 14 rfl) ?_
        refine Q_xl (pc := 933) (DCa dc_Law_law_12 15 rfl) (fun v190 => ?_)
        refine V_aload_n (pc := 934) (DCa dc_Law_law_12 16 rfl) rfl 0 rfl ?_
        refine V_iload_n (pc := 935) (DCa dc_Law_law_12 17 rfl) rfl 3 rfl ?_
        refine V_iconst (pc := 936) (DCa dc_Law_law_12 18 rfl) (by decide) ?_
        refine V_iadd (pc := 937) (DCa dc_Law_law_12 19 rfl) ?_
        refine Q_xl (pc := 938) (DCa dc_Law_law_12 20 rfl) (fun v191 => ?_)
        refine V_aload_n (pc := 939) (DCa dc_Law_law_12 21 rfl) rfl 0 rfl ?_
        refine V_iload_n (pc := 940) (DCa dc_Law_law_12 22 rfl) rfl 3 rfl ?_
        refine V_iconst (pc := 941) (DCa dc_Law_law_12 23 rfl) (by decide) ?_
        refine V_iadd (pc := 942) (DCa dc_Law_law_12 24 rfl) ?_
        refine Q_xl (pc := 943) (DCa dc_Law_law_12 25 rfl) (fun v192 => ?_)
        refine Q_callv (ci := 12) (st := [(0, r188)]) (pc := 944) (DCa dc_Law_law_12 26 rfl) (sp_Mod_mends F _ _ _ _ _) ce_Mod_mends (tb8 201 rfl rfl) rfl rfl ⟨Nat.le_of_ble_eq_true rfl, Nat.le_of_ble_eq_true rfl⟩ rfl (Nat.le_of_ble_eq_true rfl) (fun r193 h194 => ?_)
        refine V_icmp_eq (tgt := 1432) (pc := 947) (DCa dc_Law_law_12 27 rfl) (by decide) (fun _ => ?_) (fun _ => ?_)
        · refine V_iinc (ls' := [(0, 2, l0), (1, 2, l1), (2, 2, l2), (3, 0, w32 (l3 + 6))]) (pc := 1432) (DCa dc_Law_law_20 2 rfl) (Nat.le_of_ble_eq_true rfl) (by decide) 3 rfl rfl ?_
          refine V_goto (tgt := 18) (pc := 1435) (DCa dc_Law_law_20 3 rfl) (by decide) ?_
          exact hR18 _ _ _ _ _
        · refine V_iconst (pc := 950) (DCa dc_Law_law_12 28 rfl) (by decide) ?_
          exact V_zreturn (pc := 951) (DCa dc_Law_law_12 29 rfl) rfl
      | 24, _ =>
        refine ⟨_, 952, rfl, by decide, ?_⟩
        refine V_aload_n (pc := 952) (DCa dc_Law_law_12 30 rfl) rfl 1 rfl ?_
        refine V_aload_n (pc := 953) (DCa dc_Law_law_12 31 rfl) rfl 0 rfl ?_
        refine V_iload_n (pc := 954) (DCa dc_Law_law_12 32 rfl) rfl 3 rfl ?_
        refine V_iconst (pc := 955) (DCa dc_Law_law_12 33 rfl) (by decide) ?_
        refine V_iadd (pc := 956) (DCa dc_Law_law_12 34 rfl) ?_
        refine Q_xl (pc := 957) (DCa dc_Law_law_12 35 rfl) (fun v195 => ?_)
        refine V_aload_n (pc := 958) (DCa dc_Law_law_12 36 rfl) rfl 0 rfl ?_
        refine V_iload_n (pc := 959) (DCa dc_Law_law_12 37 rfl) rfl 3 rfl ?_
        refine V_iconst (pc := 960) (DCa dc_Law_law_12 38 rfl) (by decide) ?_
        refine V_iadd (pc := 961) (DCa dc_Law_law_12 39 rfl) ?_
        refine Q_xl (pc := 962) (DCa dc_Law_law_12 40 rfl) (fun v196 => ?_)
        refine V_aload_n (pc := 963) (DCa dc_Law_law_12 41 rfl) rfl 0 rfl ?_
        refine V_iload_n (pc := 964) (DCa dc_Law_law_12 42 rfl) rfl 3 rfl ?_
        refine V_iconst (pc := 965) (DCa dc_Law_law_12 43 rfl) (by decide) ?_
        refine V_iadd (pc := 966) (DCa dc_Law_law_12 44 rfl) ?_
        refine Q_xl (pc := 967) (DCa dc_Law_law_12 45 rfl) (fun v197 => ?_)
        refine Q_callv (ci := 11) (st := []) (pc := 968) (DCa dc_Law_law_12 46 rfl) (sp_Tide_after F _ _ _ _ _) ce_Tide_after (tb5 174 rfl rfl) rfl rfl ⟨Nat.le_of_ble_eq_true rfl, Nat.le_of_ble_eq_true rfl⟩ rfl (Nat.le_of_ble_eq_true rfl) (fun r198 h199 => ?_)
        refine V_aload_n (pc := 971) (DCa dc_Law_law_12 47 rfl) rfl 2 rfl ?_
        refine V_aload_n (pc := 972) (DCa dc_Law_law_12 48 rfl) rfl 0 rfl ?_
        refine V_iload_n (pc := 973) (DCa dc_Law_law_12 49 rfl) rfl 3 rfl ?_
        refine V_iconst (pc := 974) (DCa dc_Law_law_13 0 rfl) (by decide) ?_
        refine V_iadd (pc := 975) (DCa dc_Law_law_13 1 rfl) ?_
        refine Q_xl (pc := 976) (DCa dc_Law_law_13 2 rfl) (fun v200 => ?_)
        refine V_aload_n (pc := 977) (DCa dc_Law_law_13 3 rfl) rfl 0 rfl ?_
        refine V_iload_n (pc := 978) (DCa dc_Law_law_13 4 rfl) rfl 3 rfl ?_
        refine V_iconst (pc := 979) (DCa dc_Law_law_13 5 rfl) (by decide) ?_
        refine V_iadd (pc := 980) (DCa dc_Law_law_13 6 rfl) ?_
        refine Q_xl (pc := 981) (DCa dc_Law_law_13 7 rfl) (fun v201 => ?_)
        refine V_aload_n (pc := 982) (DCa dc_Law_law_13 8 rfl) rfl 0 rfl ?_
        refine V_iload_n (pc := 983) (DCa dc_Law_law_13 9 rfl) rfl 3 rfl ?_
        refine V_iconst (pc := 984) (DCa dc_Law_law_13 10 rfl) (by decide) ?_
        refine V_iadd (pc := 985) (DCa dc_Law_law_13 11 rfl) ?_
        refine Q_xl (pc := 986) (DCa dc_Law_law_13 12 rfl) (fun v202 => ?_)
        refine Q_callv (ci := 12) (st := [(0, r198)]) (pc := 987) (DCa dc_Law_law_13 13 rfl) (sp_Mod_after F _ _ _ _ _) ce_Mod_after (tb8 209 rfl rfl) rfl rfl ⟨Nat.le_of_ble_eq_true rfl, Nat.le_of_ble_eq_true rfl⟩ rfl (Nat.le_of_ble_eq_true rfl) (fun r203 h204 => ?_)
        refine V_icmp_eq (tgt := 1432) (pc := 990) (DCa dc_Law_law_13 14 rfl) (by decide) (fun _ => ?_) (fun _ => ?_)
        · refine V_iinc (ls' := [(0, 2, l0), (1, 2, l1), (2, 2, l2), (3, 0, w32 (l3 + 6))]) (pc := 1432) (DCa dc_Law_law_20 2 rfl) (Nat.le_of_ble_eq_true rfl) (by decide) 3 rfl rfl ?_
          refine V_goto (tgt := 18) (pc := 1435) (DCa dc_Law_law_20 3 rfl) (by decide) ?_
          exact hR18 _ _ _ _ _
        · refine V_iconst (pc := 993) (DCa dc_Law_law_13 15 rfl) (by decide) ?_
          exact V_zreturn (pc := 994) (DCa dc_Law_law_13 16 rfl) rfl
      | 25, _ =>
        refine ⟨_, 995, rfl, by decide, ?_⟩
        refine V_aload_n (pc := 995) (DCa dc_Law_law_13 17 rfl) rfl 1 rfl ?_
        refine V_aload_n (pc := 996) (DCa dc_Law_law_13 18 rfl) rfl 0 rfl ?_
        refine V_iload_n (pc := 997) (DCa dc_Law_law_13 19 rfl) rfl 3 rfl ?_
        refine V_iconst (pc := 998) (DCa dc_Law_law_13 20 rfl) (by decide) ?_
        refine V_iadd (pc := 999) (DCa dc_Law_law_13 21 rfl) ?_
        refine Q_xl (pc := 1000) (DCa dc_Law_law_13 22 rfl) (fun v205 => ?_)
        refine V_aload_n (pc := 1001) (DCa dc_Law_law_13 23 rfl) rfl 0 rfl ?_
        refine V_iload_n (pc := 1002) (DCa dc_Law_law_13 24 rfl) rfl 3 rfl ?_
        refine V_iconst (pc := 1003) (DCa dc_Law_law_13 25 rfl) (by decide) ?_
        refine V_iadd (pc := 1004) (DCa dc_Law_law_13 26 rfl) ?_
        refine Q_xl (pc := 1005) (DCa dc_Law_law_13 27 rfl) (fun v206 => ?_)
        refine V_aload_n (pc := 1006) (DCa dc_Law_law_13 28 rfl) rfl 0 rfl ?_
        refine V_iload_n (pc := 1007) (DCa dc_Law_law_13 29 rfl) rfl 3 rfl ?_
        refine V_iconst (pc := 1008) (DCa dc_Law_law_13 30 rfl) (by decide) ?_
        refine V_iadd (pc := 1009) (DCa dc_Law_law_13 31 rfl) ?_
        refine Q_xl (pc := 1010) (DCa dc_Law_law_13 32 rfl) (fun v207 => ?_)
        refine V_if_eq (tgt := 1018) (pc := 1011) (DCa dc_Law_law_13 33 rfl) (by decide) (fun _ => ?_) (fun _ => ?_)
        · refine V_iconst (pc := 1018) (DCa dc_Law_law_13 36 rfl) (by decide) ?_
          exact v_Law_law_B1019 F R18 hR18 _ _ _ _ _ _ _ _ _
        · refine V_iconst (pc := 1014) (DCa dc_Law_law_13 34 rfl) (by decide) ?_
          refine V_goto (tgt := 1019) (pc := 1015) (DCa dc_Law_law_13 35 rfl) (by decide) ?_
          exact v_Law_law_B1019 F R18 hR18 _ _ _ _ _ _ _ _ _
      | 26, _ =>
        refine ⟨_, 1054, rfl, by decide, ?_⟩
        refine V_aload_n (pc := 1054) (DCa dc_Law_law_14 12 rfl) rfl 1 rfl ?_
        refine V_aload_n (pc := 1055) (DCa dc_Law_law_14 13 rfl) rfl 0 rfl ?_
        refine V_iload_n (pc := 1056) (DCa dc_Law_law_14 14 rfl) rfl 3 rfl ?_
        refine V_iconst (pc := 1057) (DCa dc_Law_law_14 15 rfl) (by decide) ?_
        refine V_iadd (pc := 1058) (DCa dc_Law_law_14 16 rfl) ?_
        refine Q_xl (pc := 1059) (DCa dc_Law_law_14 17 rfl) (fun v208 => ?_)
        refine Q_callv (ci := 11) (st := []) (pc := 1060) (DCa dc_Law_law_14 18 rfl) (sp_Tide_large F _ _ _) ce_Tide_large (tb5 196 rfl rfl) rfl rfl ⟨Nat.le_of_ble_eq_true rfl, Nat.le_of_ble_eq_true rfl⟩ rfl (Nat.le_of_ble_eq_true rfl) (fun r209 h210 => ?_)
        refine V_aload_n (pc := 1063) (DCa dc_Law_law_14 19 rfl) rfl 2 rfl ?_
        refine V_aload_n (pc := 1064) (DCa dc_Law_law_14 20 rfl) rfl 0 rfl ?_
        refine V_iload_n (pc := 1065) (DCa dc_Law_law_14 21 rfl) rfl 3 rfl ?_
        refine V_iconst (pc := 1066) (DCa dc_Law_law_14 22 rfl) (by decide) ?_
        refine V_iadd (pc := 1067) (DCa dc_Law_law_14 23 rfl) ?_
        refine Q_xl (pc := 1068) (DCa dc_Law_law_14 24 rfl) (fun v211 => ?_)
        refine Q_callv (ci := 12) (st := [(0, r209)]) (pc := 1069) (DCa dc_Law_law_14 25 rfl) (sp_Mod_large F _ _ _) ce_Mod_large (tb8 237 rfl rfl) rfl rfl ⟨Nat.le_of_ble_eq_true rfl, Nat.le_of_ble_eq_true rfl⟩ rfl (Nat.le_of_ble_eq_true rfl) (fun r212 h213 => ?_)
        refine V_icmp_eq (tgt := 1432) (pc := 1072) (DCa dc_Law_law_14 26 rfl) (by decide) (fun _ => ?_) (fun _ => ?_)
        · refine V_iinc (ls' := [(0, 2, l0), (1, 2, l1), (2, 2, l2), (3, 0, w32 (l3 + 6))]) (pc := 1432) (DCa dc_Law_law_20 2 rfl) (Nat.le_of_ble_eq_true rfl) (by decide) 3 rfl rfl ?_
          refine V_goto (tgt := 18) (pc := 1435) (DCa dc_Law_law_20 3 rfl) (by decide) ?_
          exact hR18 _ _ _ _ _
        · refine V_iconst (pc := 1075) (DCa dc_Law_law_14 27 rfl) (by decide) ?_
          exact V_zreturn (pc := 1076) (DCa dc_Law_law_14 28 rfl) rfl
      | 27, _ =>
        refine ⟨_, 1077, rfl, by decide, ?_⟩
        refine V_aload_n (pc := 1077) (DCa dc_Law_law_14 29 rfl) rfl 1 rfl ?_
        refine V_aload_n (pc := 1078) (DCa dc_Law_law_14 30 rfl) rfl 0 rfl ?_
        refine V_iload_n (pc := 1079) (DCa dc_Law_law_14 31 rfl) rfl 3 rfl ?_
        refine V_iconst (pc := 1080) (DCa dc_Law_law_14 32 rfl) (by decide) ?_
        refine V_iadd (pc := 1081) (DCa dc_Law_law_14 33 rfl) ?_
        refine Q_xl (pc := 1082) (DCa dc_Law_law_14 34 rfl) (fun v214 => ?_)
        refine V_aload_n (pc := 1083) (DCa dc_Law_law_14 35 rfl) rfl 0 rfl ?_
        refine V_iload_n (pc := 1084) (DCa dc_Law_law_14 36 rfl) rfl 3 rfl ?_
        refine V_iconst (pc := 1085) (DCa dc_Law_law_14 37 rfl) (by decide) ?_
        refine V_iadd (pc := 1086) (DCa dc_Law_law_14 38 rfl) ?_
        refine Q_xl (pc := 1087) (DCa dc_Law_law_14 39 rfl) (fun v215 => ?_)
        refine V_aload_n (pc := 1088) (DCa dc_Law_law_14 40 rfl) rfl 0 rfl ?_
        refine V_iload_n (pc := 1089) (DCa dc_Law_law_14 41 rfl) rfl 3 rfl ?_
        refine V_iconst (pc := 1090) (DCa dc_Law_law_14 42 rfl) (by decide) ?_
        refine V_iadd (pc := 1091) (DCa dc_Law_law_14 43 rfl) ?_
        refine Q_xl (pc := 1092) (DCa dc_Law_law_14 44 rfl) (fun v216 => ?_)
        refine Q_callv (ci := 11) (st := []) (pc := 1093) (DCa dc_Law_law_14 45 rfl) (sp_Tide_hopes F _ _ _ _ _) ce_Tide_hopes (tb5 211 rfl rfl) rfl rfl ⟨Nat.le_of_ble_eq_true rfl, Nat.le_of_ble_eq_true rfl⟩ rfl (Nat.le_of_ble_eq_true rfl) (fun r217 h218 => ?_)
        refine V_aload_n (pc := 1096) (DCa dc_Law_law_14 46 rfl) rfl 2 rfl ?_
        refine V_aload_n (pc := 1097) (DCa dc_Law_law_14 47 rfl) rfl 0 rfl ?_
        refine V_iload_n (pc := 1098) (DCa dc_Law_law_14 48 rfl) rfl 3 rfl ?_
        refine V_iconst (pc := 1099) (DCa dc_Law_law_14 49 rfl) (by decide) ?_
        refine V_iadd (pc := 1100) (DCa dc_Law_law_15 0 rfl) ?_
        refine Q_xl (pc := 1101) (DCa dc_Law_law_15 1 rfl) (fun v219 => ?_)
        refine V_aload_n (pc := 1102) (DCa dc_Law_law_15 2 rfl) rfl 0 rfl ?_
        refine V_iload_n (pc := 1103) (DCa dc_Law_law_15 3 rfl) rfl 3 rfl ?_
        refine V_iconst (pc := 1104) (DCa dc_Law_law_15 4 rfl) (by decide) ?_
        refine V_iadd (pc := 1105) (DCa dc_Law_law_15 5 rfl) ?_
        refine Q_xl (pc := 1106) (DCa dc_Law_law_15 6 rfl) (fun v220 => ?_)
        refine V_aload_n (pc := 1107) (DCa dc_Law_law_15 7 rfl) rfl 0 rfl ?_
        refine V_iload_n (pc := 1108) (DCa dc_Law_law_15 8 rfl) rfl 3 rfl ?_
        refine V_iconst (pc := 1109) (DCa dc_Law_law_15 9 rfl) (by decide) ?_
        refine V_iadd (pc := 1110) (DCa dc_Law_law_15 10 rfl) ?_
        refine Q_xl (pc := 1111) (DCa dc_Law_law_15 11 rfl) (fun v221 => ?_)
        refine Q_callv (ci := 12) (st := [(0, r217)]) (pc := 1112) (DCa dc_Law_law_15 12 rfl) (sp_Mod_hopes F _ _ _ _ _) ce_Mod_hopes (tb9 5 rfl rfl) rfl rfl ⟨Nat.le_of_ble_eq_true rfl, Nat.le_of_ble_eq_true rfl⟩ rfl (Nat.le_of_ble_eq_true rfl) (fun r222 h223 => ?_)
        refine V_icmp_eq (tgt := 1432) (pc := 1115) (DCa dc_Law_law_15 13 rfl) (by decide) (fun _ => ?_) (fun _ => ?_)
        · refine V_iinc (ls' := [(0, 2, l0), (1, 2, l1), (2, 2, l2), (3, 0, w32 (l3 + 6))]) (pc := 1432) (DCa dc_Law_law_20 2 rfl) (Nat.le_of_ble_eq_true rfl) (by decide) 3 rfl rfl ?_
          refine V_goto (tgt := 18) (pc := 1435) (DCa dc_Law_law_20 3 rfl) (by decide) ?_
          exact hR18 _ _ _ _ _
        · refine V_iconst (pc := 1118) (DCa dc_Law_law_15 14 rfl) (by decide) ?_
          exact V_zreturn (pc := 1119) (DCa dc_Law_law_15 15 rfl) rfl
      | 28, _ =>
        refine ⟨_, 1120, rfl, by decide, ?_⟩
        refine V_aload_n (pc := 1120) (DCa dc_Law_law_15 16 rfl) rfl 1 rfl ?_
        refine V_aload_n (pc := 1121) (DCa dc_Law_law_15 17 rfl) rfl 0 rfl ?_
        refine V_iload_n (pc := 1122) (DCa dc_Law_law_15 18 rfl) rfl 3 rfl ?_
        refine V_iconst (pc := 1123) (DCa dc_Law_law_15 19 rfl) (by decide) ?_
        refine V_iadd (pc := 1124) (DCa dc_Law_law_15 20 rfl) ?_
        refine Q_xl (pc := 1125) (DCa dc_Law_law_15 21 rfl) (fun v224 => ?_)
        refine V_aload_n (pc := 1126) (DCa dc_Law_law_15 22 rfl) rfl 0 rfl ?_
        refine V_iload_n (pc := 1127) (DCa dc_Law_law_15 23 rfl) rfl 3 rfl ?_
        refine V_iconst (pc := 1128) (DCa dc_Law_law_15 24 rfl) (by decide) ?_
        refine V_iadd (pc := 1129) (DCa dc_Law_law_15 25 rfl) ?_
        refine Q_xl (pc := 1130) (DCa dc_Law_law_15 26 rfl) (fun v225 => ?_)
        refine Q_callv (ci := 11) (st := []) (pc := 1131) (DCa dc_Law_law_15 27 rfl) (sp_Tide_hope F _ _ _ _) ce_Tide_hope (tb6 0 rfl rfl) rfl rfl ⟨Nat.le_of_ble_eq_true rfl, Nat.le_of_ble_eq_true rfl⟩ rfl (Nat.le_of_ble_eq_true rfl) (fun r226 h227 => ?_)
        refine V_aload_n (pc := 1134) (DCa dc_Law_law_15 28 rfl) rfl 2 rfl ?_
        refine V_aload_n (pc := 1135) (DCa dc_Law_law_15 29 rfl) rfl 0 rfl ?_
        refine V_iload_n (pc := 1136) (DCa dc_Law_law_15 30 rfl) rfl 3 rfl ?_
        refine V_iconst (pc := 1137) (DCa dc_Law_law_15 31 rfl) (by decide) ?_
        refine V_iadd (pc := 1138) (DCa dc_Law_law_15 32 rfl) ?_
        refine Q_xl (pc := 1139) (DCa dc_Law_law_15 33 rfl) (fun v228 => ?_)
        refine V_aload_n (pc := 1140) (DCa dc_Law_law_15 34 rfl) rfl 0 rfl ?_
        refine V_iload_n (pc := 1141) (DCa dc_Law_law_15 35 rfl) rfl 3 rfl ?_
        refine V_iconst (pc := 1142) (DCa dc_Law_law_15 36 rfl) (by decide) ?_
        refine V_iadd (pc := 1143) (DCa dc_Law_law_15 37 rfl) ?_
        refine Q_xl (pc := 1144) (DCa dc_Law_law_15 38 rfl) (fun v229 => ?_)
        refine Q_callv (ci := 12) (st := [(0, r226)]) (pc := 1145) (DCa dc_Law_law_15 39 rfl) (sp_Mod_hope F _ _ _ _) ce_Mod_hope (tb9 24 rfl rfl) rfl rfl ⟨Nat.le_of_ble_eq_true rfl, Nat.le_of_ble_eq_true rfl⟩ rfl (Nat.le_of_ble_eq_true rfl) (fun r230 h231 => ?_)
        refine V_icmp_eq (tgt := 1432) (pc := 1148) (DCa dc_Law_law_15 40 rfl) (by decide) (fun _ => ?_) (fun _ => ?_)
        · refine V_iinc (ls' := [(0, 2, l0), (1, 2, l1), (2, 2, l2), (3, 0, w32 (l3 + 6))]) (pc := 1432) (DCa dc_Law_law_20 2 rfl) (Nat.le_of_ble_eq_true rfl) (by decide) 3 rfl rfl ?_
          refine V_goto (tgt := 18) (pc := 1435) (DCa dc_Law_law_20 3 rfl) (by decide) ?_
          exact hR18 _ _ _ _ _
        · refine V_iconst (pc := 1151) (DCa dc_Law_law_15 41 rfl) (by decide) ?_
          exact V_zreturn (pc := 1152) (DCa dc_Law_law_15 42 rfl) rfl
      | 29, _ =>
        refine ⟨_, 1153, rfl, by decide, ?_⟩
        refine V_aload_n (pc := 1153) (DCa dc_Law_law_15 43 rfl) rfl 1 rfl ?_
        refine V_aload_n (pc := 1154) (DCa dc_Law_law_15 44 rfl) rfl 0 rfl ?_
        refine V_iload_n (pc := 1155) (DCa dc_Law_law_15 45 rfl) rfl 3 rfl ?_
        refine V_iconst (pc := 1156) (DCa dc_Law_law_15 46 rfl) (by decide) ?_
        refine V_iadd (pc := 1157) (DCa dc_Law_law_15 47 rfl) ?_
        refine Q_xl (pc := 1158) (DCa dc_Law_law_15 48 rfl) (fun v232 => ?_)
        refine V_aload_n (pc := 1159) (DCa dc_Law_law_15 49 rfl) rfl 0 rfl ?_
        refine V_iload_n (pc := 1160) (DCa dc_Law_law_16 0 rfl) rfl 3 rfl ?_
        refine V_iconst (pc := 1161) (DCa dc_Law_law_16 1 rfl) (by decide) ?_
        refine V_iadd (pc := 1162) (DCa dc_Law_law_16 2 rfl) ?_
        refine Q_xl (pc := 1163) (DCa dc_Law_law_16 3 rfl) (fun v233 => ?_)
        refine Q_callv (ci := 11) (st := []) (pc := 1164) (DCa dc_Law_law_16 4 rfl) (sp_Tide_dog F _ _ _ _) ce_Tide_dog (tb6 4 rfl rfl) rfl rfl ⟨Nat.le_of_ble_eq_true rfl, Nat.le_of_ble_eq_true rfl⟩ rfl (Nat.le_of_ble_eq_true rfl) (fun r234 h235 => ?_)
        refine V_aload_n (pc := 1167) (DCa dc_Law_law_16 5 rfl) rfl 2 rfl ?_
        refine V_aload_n (pc := 1168) (DCa dc_Law_law_16 6 rfl) rfl 0 rfl ?_
        refine V_iload_n (pc := 1169) (DCa dc_Law_law_16 7 rfl) rfl 3 rfl ?_
        refine V_iconst (pc := 1170) (DCa dc_Law_law_16 8 rfl) (by decide) ?_
        refine V_iadd (pc := 1171) (DCa dc_Law_law_16 9 rfl) ?_
        refine Q_xl (pc := 1172) (DCa dc_Law_law_16 10 rfl) (fun v236 => ?_)
        refine V_aload_n (pc := 1173) (DCa dc_Law_law_16 11 rfl) rfl 0 rfl ?_
        refine V_iload_n (pc := 1174) (DCa dc_Law_law_16 12 rfl) rfl 3 rfl ?_
        refine V_iconst (pc := 1175) (DCa dc_Law_law_16 13 rfl) (by decide) ?_
        refine V_iadd (pc := 1176) (DCa dc_Law_law_16 14 rfl) ?_
        refine Q_xl (pc := 1177) (DCa dc_Law_law_16 15 rfl) (fun v237 => ?_)
        refine Q_callv (ci := 12) (st := [(0, r234)]) (pc := 1178) (DCa dc_Law_law_16 16 rfl) (sp_Mod_dog F _ _ _ _) ce_Mod_dog (tb8 47 rfl rfl) rfl rfl ⟨Nat.le_of_ble_eq_true rfl, Nat.le_of_ble_eq_true rfl⟩ rfl (Nat.le_of_ble_eq_true rfl) (fun r238 h239 => ?_)
        refine V_icmp_eq (tgt := 1432) (pc := 1181) (DCa dc_Law_law_16 17 rfl) (by decide) (fun _ => ?_) (fun _ => ?_)
        · refine V_iinc (ls' := [(0, 2, l0), (1, 2, l1), (2, 2, l2), (3, 0, w32 (l3 + 6))]) (pc := 1432) (DCa dc_Law_law_20 2 rfl) (Nat.le_of_ble_eq_true rfl) (by decide) 3 rfl rfl ?_
          refine V_goto (tgt := 18) (pc := 1435) (DCa dc_Law_law_20 3 rfl) (by decide) ?_
          exact hR18 _ _ _ _ _
        · refine V_iconst (pc := 1184) (DCa dc_Law_law_16 18 rfl) (by decide) ?_
          exact V_zreturn (pc := 1185) (DCa dc_Law_law_16 19 rfl) rfl
      | 30, _ =>
        refine ⟨_, 1186, rfl, by decide, ?_⟩
        refine V_aload_n (pc := 1186) (DCa dc_Law_law_16 20 rfl) rfl 1 rfl ?_
        refine V_aload_n (pc := 1187) (DCa dc_Law_law_16 21 rfl) rfl 0 rfl ?_
        refine V_iload_n (pc := 1188) (DCa dc_Law_law_16 22 rfl) rfl 3 rfl ?_
        refine V_iconst (pc := 1189) (DCa dc_Law_law_16 23 rfl) (by decide) ?_
        refine V_iadd (pc := 1190) (DCa dc_Law_law_16 24 rfl) ?_
        refine Q_xl (pc := 1191) (DCa dc_Law_law_16 25 rfl) (fun v240 => ?_)
        refine V_aload_n (pc := 1192) (DCa dc_Law_law_16 26 rfl) rfl 0 rfl ?_
        refine V_iload_n (pc := 1193) (DCa dc_Law_law_16 27 rfl) rfl 3 rfl ?_
        refine V_iconst (pc := 1194) (DCa dc_Law_law_16 28 rfl) (by decide) ?_
        refine V_iadd (pc := 1195) (DCa dc_Law_law_16 29 rfl) ?_
        refine Q_xl (pc := 1196) (DCa dc_Law_law_16 30 rfl) (fun v241 => ?_)
        refine V_if_eq (tgt := 1204) (pc := 1197) (DCa dc_Law_law_16 31 rfl) (by decide) (fun _ => ?_) (fun _ => ?_)
        · refine V_iconst (pc := 1204) (DCa dc_Law_law_16 34 rfl) (by decide) ?_
          exact v_Law_law_B1205 F R18 hR18 _ _ _ _ _ _ _ _
        · refine V_iconst (pc := 1200) (DCa dc_Law_law_16 32 rfl) (by decide) ?_
          refine V_goto (tgt := 1205) (pc := 1201) (DCa dc_Law_law_16 33 rfl) (by decide) ?_
          exact v_Law_law_B1205 F R18 hR18 _ _ _ _ _ _ _ _
      | 31, _ =>
        refine ⟨_, 1235, rfl, by decide, ?_⟩
        refine V_aload_n (pc := 1235) (DCa dc_Law_law_17 5 rfl) rfl 1 rfl ?_
        refine V_aload_n (pc := 1236) (DCa dc_Law_law_17 6 rfl) rfl 0 rfl ?_
        refine V_iload_n (pc := 1237) (DCa dc_Law_law_17 7 rfl) rfl 3 rfl ?_
        refine V_iconst (pc := 1238) (DCa dc_Law_law_17 8 rfl) (by decide) ?_
        refine V_iadd (pc := 1239) (DCa dc_Law_law_17 9 rfl) ?_
        refine Q_xl (pc := 1240) (DCa dc_Law_law_17 10 rfl) (fun v242 => ?_)
        refine Q_callv (ci := 11) (st := []) (pc := 1241) (DCa dc_Law_law_17 11 rfl) (sp_Tide_fails F _ _ _) ce_Tide_fails (tb6 12 rfl rfl) rfl rfl ⟨Nat.le_of_ble_eq_true rfl, Nat.le_of_ble_eq_true rfl⟩ rfl (Nat.le_of_ble_eq_true rfl) (fun r243 h244 => ?_)
        refine V_aload_n (pc := 1244) (DCa dc_Law_law_17 12 rfl) rfl 2 rfl ?_
        refine V_aload_n (pc := 1245) (DCa dc_Law_law_17 13 rfl) rfl 0 rfl ?_
        refine V_iload_n (pc := 1246) (DCa dc_Law_law_17 14 rfl) rfl 3 rfl ?_
        refine V_iconst (pc := 1247) (DCa dc_Law_law_17 15 rfl) (by decide) ?_
        refine V_iadd (pc := 1248) (DCa dc_Law_law_17 16 rfl) ?_
        refine Q_xl (pc := 1249) (DCa dc_Law_law_17 17 rfl) (fun v245 => ?_)
        refine Q_callv (ci := 12) (st := [(0, r243)]) (pc := 1250) (DCa dc_Law_law_17 18 rfl) (sp_Mod_fails F _ _ _) ce_Mod_fails (tb9 40 rfl rfl) rfl rfl ⟨Nat.le_of_ble_eq_true rfl, Nat.le_of_ble_eq_true rfl⟩ rfl (Nat.le_of_ble_eq_true rfl) (fun r246 h247 => ?_)
        refine V_icmp_eq (tgt := 1432) (pc := 1253) (DCa dc_Law_law_17 19 rfl) (by decide) (fun _ => ?_) (fun _ => ?_)
        · refine V_iinc (ls' := [(0, 2, l0), (1, 2, l1), (2, 2, l2), (3, 0, w32 (l3 + 6))]) (pc := 1432) (DCa dc_Law_law_20 2 rfl) (Nat.le_of_ble_eq_true rfl) (by decide) 3 rfl rfl ?_
          refine V_goto (tgt := 18) (pc := 1435) (DCa dc_Law_law_20 3 rfl) (by decide) ?_
          exact hR18 _ _ _ _ _
        · refine V_iconst (pc := 1256) (DCa dc_Law_law_17 20 rfl) (by decide) ?_
          exact V_zreturn (pc := 1257) (DCa dc_Law_law_17 21 rfl) rfl
      | 32, _ =>
        refine ⟨_, 1258, rfl, by decide, ?_⟩
        refine V_aload_n (pc := 1258) (DCa dc_Law_law_17 22 rfl) rfl 1 rfl ?_
        refine V_aload_n (pc := 1259) (DCa dc_Law_law_17 23 rfl) rfl 0 rfl ?_
        refine V_iload_n (pc := 1260) (DCa dc_Law_law_17 24 rfl) rfl 3 rfl ?_
        refine V_iconst (pc := 1261) (DCa dc_Law_law_17 25 rfl) (by decide) ?_
        refine V_iadd (pc := 1262) (DCa dc_Law_law_17 26 rfl) ?_
        refine Q_xl (pc := 1263) (DCa dc_Law_law_17 27 rfl) (fun v248 => ?_)
        refine V_aload_n (pc := 1264) (DCa dc_Law_law_17 28 rfl) rfl 0 rfl ?_
        refine V_iload_n (pc := 1265) (DCa dc_Law_law_17 29 rfl) rfl 3 rfl ?_
        refine V_iconst (pc := 1266) (DCa dc_Law_law_17 30 rfl) (by decide) ?_
        refine V_iadd (pc := 1267) (DCa dc_Law_law_17 31 rfl) ?_
        refine Q_xl (pc := 1268) (DCa dc_Law_law_17 32 rfl) (fun v249 => ?_)
        refine V_aload_n (pc := 1269) (DCa dc_Law_law_17 33 rfl) rfl 0 rfl ?_
        refine V_iload_n (pc := 1270) (DCa dc_Law_law_17 34 rfl) rfl 3 rfl ?_
        refine V_iconst (pc := 1271) (DCa dc_Law_law_17 35 rfl) (by decide) ?_
        refine V_iadd (pc := 1272) (DCa dc_Law_law_17 36 rfl) ?_
        refine Q_xl (pc := 1273) (DCa dc_Law_law_17 37 rfl) (fun v250 => ?_)
        refine V_if_eq (tgt := 1281) (pc := 1274) (DCa dc_Law_law_17 38 rfl) (by decide) (fun _ => ?_) (fun _ => ?_)
        · refine V_iconst (pc := 1281) (DCa dc_Law_law_17 41 rfl) (by decide) ?_
          exact v_Law_law_B1282 F R18 hR18 _ _ _ _ _ _ _ _ _
        · refine V_iconst (pc := 1277) (DCa dc_Law_law_17 39 rfl) (by decide) ?_
          refine V_goto (tgt := 1282) (pc := 1278) (DCa dc_Law_law_17 40 rfl) (by decide) ?_
          exact v_Law_law_B1282 F R18 hR18 _ _ _ _ _ _ _ _ _
      | 33, _ =>
        refine ⟨_, 1317, rfl, by decide, ?_⟩
        refine V_aload_n (pc := 1317) (DCa dc_Law_law_18 17 rfl) rfl 1 rfl ?_
        refine Q_callv (ci := 11) (st := []) (pc := 1318) (DCa dc_Law_law_18 18 rfl) (sp_Tide_forget F _ _) ce_Tide_forget (tb6 24 rfl rfl) rfl rfl ⟨Nat.le_of_ble_eq_true rfl, Nat.le_of_ble_eq_true rfl⟩ rfl (Nat.le_of_ble_eq_true rfl) (fun r251 h252 => ?_)
        refine V_aload_n (pc := 1321) (DCa dc_Law_law_18 19 rfl) rfl 2 rfl ?_
        refine Q_callv (ci := 12) (st := [(0, r251)]) (pc := 1322) (DCa dc_Law_law_18 20 rfl) (sp_Mod_forget F _ _) ce_Mod_forget (tb9 48 rfl rfl) rfl rfl ⟨Nat.le_of_ble_eq_true rfl, Nat.le_of_ble_eq_true rfl⟩ rfl (Nat.le_of_ble_eq_true rfl) (fun r253 h254 => ?_)
        refine V_icmp_eq (tgt := 1432) (pc := 1325) (DCa dc_Law_law_18 21 rfl) (by decide) (fun _ => ?_) (fun _ => ?_)
        · refine V_iinc (ls' := [(0, 2, l0), (1, 2, l1), (2, 2, l2), (3, 0, w32 (l3 + 6))]) (pc := 1432) (DCa dc_Law_law_20 2 rfl) (Nat.le_of_ble_eq_true rfl) (by decide) 3 rfl rfl ?_
          refine V_goto (tgt := 18) (pc := 1435) (DCa dc_Law_law_20 3 rfl) (by decide) ?_
          exact hR18 _ _ _ _ _
        · refine V_iconst (pc := 1328) (DCa dc_Law_law_18 22 rfl) (by decide) ?_
          exact V_zreturn (pc := 1329) (DCa dc_Law_law_18 23 rfl) rfl
      | 34, _ =>
        refine ⟨_, 1330, rfl, by decide, ?_⟩
        refine V_aload_n (pc := 1330) (DCa dc_Law_law_18 24 rfl) rfl 1 rfl ?_
        refine V_aload_n (pc := 1331) (DCa dc_Law_law_18 25 rfl) rfl 0 rfl ?_
        refine V_iload_n (pc := 1332) (DCa dc_Law_law_18 26 rfl) rfl 3 rfl ?_
        refine V_iconst (pc := 1333) (DCa dc_Law_law_18 27 rfl) (by decide) ?_
        refine V_iadd (pc := 1334) (DCa dc_Law_law_18 28 rfl) ?_
        refine Q_xl (pc := 1335) (DCa dc_Law_law_18 29 rfl) (fun v255 => ?_)
        refine V_aload_n (pc := 1336) (DCa dc_Law_law_18 30 rfl) rfl 0 rfl ?_
        refine V_iload_n (pc := 1337) (DCa dc_Law_law_18 31 rfl) rfl 3 rfl ?_
        refine V_iconst (pc := 1338) (DCa dc_Law_law_18 32 rfl) (by decide) ?_
        refine V_iadd (pc := 1339) (DCa dc_Law_law_18 33 rfl) ?_
        refine Q_xl (pc := 1340) (DCa dc_Law_law_18 34 rfl) (fun v256 => ?_)
        refine Q_callv (ci := 11) (st := []) (pc := 1341) (DCa dc_Law_law_18 35 rfl) (sp_Tide_late F _ _ _ _) ce_Tide_late (tb6 28 rfl rfl) rfl rfl ⟨Nat.le_of_ble_eq_true rfl, Nat.le_of_ble_eq_true rfl⟩ rfl (Nat.le_of_ble_eq_true rfl) (fun r257 h258 => ?_)
        refine V_aload_n (pc := 1344) (DCa dc_Law_law_18 36 rfl) rfl 2 rfl ?_
        refine V_aload_n (pc := 1345) (DCa dc_Law_law_18 37 rfl) rfl 0 rfl ?_
        refine V_iload_n (pc := 1346) (DCa dc_Law_law_18 38 rfl) rfl 3 rfl ?_
        refine V_iconst (pc := 1347) (DCa dc_Law_law_18 39 rfl) (by decide) ?_
        refine V_iadd (pc := 1348) (DCa dc_Law_law_18 40 rfl) ?_
        refine Q_xl (pc := 1349) (DCa dc_Law_law_18 41 rfl) (fun v259 => ?_)
        refine V_aload_n (pc := 1350) (DCa dc_Law_law_18 42 rfl) rfl 0 rfl ?_
        refine V_iload_n (pc := 1351) (DCa dc_Law_law_18 43 rfl) rfl 3 rfl ?_
        refine V_iconst (pc := 1352) (DCa dc_Law_law_18 44 rfl) (by decide) ?_
        refine V_iadd (pc := 1353) (DCa dc_Law_law_18 45 rfl) ?_
        refine Q_xl (pc := 1354) (DCa dc_Law_law_18 46 rfl) (fun v260 => ?_)
        refine Q_callv (ci := 12) (st := [(0, r257)]) (pc := 1355) (DCa dc_Law_law_18 47 rfl) (sp_Mod_late F _ _ _ _) ce_Mod_late (tb9 52 rfl rfl) rfl rfl ⟨Nat.le_of_ble_eq_true rfl, Nat.le_of_ble_eq_true rfl⟩ rfl (Nat.le_of_ble_eq_true rfl) (fun r261 h262 => ?_)
        refine V_icmp_eq (tgt := 1432) (pc := 1358) (DCa dc_Law_law_18 48 rfl) (by decide) (fun _ => ?_) (fun _ => ?_)
        · refine V_iinc (ls' := [(0, 2, l0), (1, 2, l1), (2, 2, l2), (3, 0, w32 (l3 + 6))]) (pc := 1432) (DCa dc_Law_law_20 2 rfl) (Nat.le_of_ble_eq_true rfl) (by decide) 3 rfl rfl ?_
          refine V_goto (tgt := 18) (pc := 1435) (DCa dc_Law_law_20 3 rfl) (by decide) ?_
          exact hR18 _ _ _ _ _
        · refine V_iconst (pc := 1361) (DCa dc_Law_law_18 49 rfl) (by decide) ?_
          exact V_zreturn (pc := 1362) (DCa dc_Law_law_19 0 rfl) rfl
      | 35, _ =>
        refine ⟨_, 1363, rfl, by decide, ?_⟩
        refine V_aload_n (pc := 1363) (DCa dc_Law_law_19 1 rfl) rfl 1 rfl ?_
        refine V_aload_n (pc := 1364) (DCa dc_Law_law_19 2 rfl) rfl 0 rfl ?_
        refine V_iload_n (pc := 1365) (DCa dc_Law_law_19 3 rfl) rfl 3 rfl ?_
        refine V_iconst (pc := 1366) (DCa dc_Law_law_19 4 rfl) (by decide) ?_
        refine V_iadd (pc := 1367) (DCa dc_Law_law_19 5 rfl) ?_
        refine Q_xl (pc := 1368) (DCa dc_Law_law_19 6 rfl) (fun v263 => ?_)
        refine Q_callv (ci := 11) (st := []) (pc := 1369) (DCa dc_Law_law_19 7 rfl) (sp_Tide_hold F _ _ _) ce_Tide_hold (tb6 50 rfl rfl) rfl rfl ⟨Nat.le_of_ble_eq_true rfl, Nat.le_of_ble_eq_true rfl⟩ rfl (Nat.le_of_ble_eq_true rfl) (fun r264 h265 => ?_)
        refine V_aload_n (pc := 1372) (DCa dc_Law_law_19 8 rfl) rfl 2 rfl ?_
        refine V_aload_n (pc := 1373) (DCa dc_Law_law_19 9 rfl) rfl 0 rfl ?_
        refine V_iload_n (pc := 1374) (DCa dc_Law_law_19 10 rfl) rfl 3 rfl ?_
        refine V_iconst (pc := 1375) (DCa dc_Law_law_19 11 rfl) (by decide) ?_
        refine V_iadd (pc := 1376) (DCa dc_Law_law_19 12 rfl) ?_
        refine Q_xl (pc := 1377) (DCa dc_Law_law_19 13 rfl) (fun v266 => ?_)
        refine Q_callv (ci := 12) (st := [(0, r264)]) (pc := 1378) (DCa dc_Law_law_19 14 rfl) (sp_Mod_hold F _ _ _) ce_Mod_hold (tb9 60 rfl rfl) rfl rfl ⟨Nat.le_of_ble_eq_true rfl, Nat.le_of_ble_eq_true rfl⟩ rfl (Nat.le_of_ble_eq_true rfl) (fun r267 h268 => ?_)
        refine V_icmp_eq (tgt := 1432) (pc := 1381) (DCa dc_Law_law_19 15 rfl) (by decide) (fun _ => ?_) (fun _ => ?_)
        · refine V_iinc (ls' := [(0, 2, l0), (1, 2, l1), (2, 2, l2), (3, 0, w32 (l3 + 6))]) (pc := 1432) (DCa dc_Law_law_20 2 rfl) (Nat.le_of_ble_eq_true rfl) (by decide) 3 rfl rfl ?_
          refine V_goto (tgt := 18) (pc := 1435) (DCa dc_Law_law_20 3 rfl) (by decide) ?_
          exact hR18 _ _ _ _ _
        · refine V_iconst (pc := 1384) (DCa dc_Law_law_19 16 rfl) (by decide) ?_
          exact V_zreturn (pc := 1385) (DCa dc_Law_law_19 17 rfl) rfl
      | 36, _ =>
        refine ⟨_, 1386, rfl, by decide, ?_⟩
        refine V_aload_n (pc := 1386) (DCa dc_Law_law_19 18 rfl) rfl 1 rfl ?_
        refine V_aload_n (pc := 1387) (DCa dc_Law_law_19 19 rfl) rfl 0 rfl ?_
        refine V_iload_n (pc := 1388) (DCa dc_Law_law_19 20 rfl) rfl 3 rfl ?_
        refine V_iconst (pc := 1389) (DCa dc_Law_law_19 21 rfl) (by decide) ?_
        refine V_iadd (pc := 1390) (DCa dc_Law_law_19 22 rfl) ?_
        refine Q_xl (pc := 1391) (DCa dc_Law_law_19 23 rfl) (fun v269 => ?_)
        refine Q_callv (ci := 11) (st := []) (pc := 1392) (DCa dc_Law_law_19 24 rfl) (sp_Tide_restore F _ _ _) ce_Tide_restore (tb6 65 rfl rfl) rfl rfl ⟨Nat.le_of_ble_eq_true rfl, Nat.le_of_ble_eq_true rfl⟩ rfl (Nat.le_of_ble_eq_true rfl) (fun r270 h271 => ?_)
        refine V_aload_n (pc := 1395) (DCa dc_Law_law_19 25 rfl) rfl 2 rfl ?_
        refine V_aload_n (pc := 1396) (DCa dc_Law_law_19 26 rfl) rfl 0 rfl ?_
        refine V_iload_n (pc := 1397) (DCa dc_Law_law_19 27 rfl) rfl 3 rfl ?_
        refine V_iconst (pc := 1398) (DCa dc_Law_law_19 28 rfl) (by decide) ?_
        refine V_iadd (pc := 1399) (DCa dc_Law_law_19 29 rfl) ?_
        refine Q_xl (pc := 1400) (DCa dc_Law_law_19 30 rfl) (fun v272 => ?_)
        refine Q_callv (ci := 12) (st := [(0, r270)]) (pc := 1401) (DCa dc_Law_law_19 31 rfl) (sp_Mod_restore F _ _ _) ce_Mod_restore (tb9 64 rfl rfl) rfl rfl ⟨Nat.le_of_ble_eq_true rfl, Nat.le_of_ble_eq_true rfl⟩ rfl (Nat.le_of_ble_eq_true rfl) (fun r273 h274 => ?_)
        refine V_icmp_eq (tgt := 1432) (pc := 1404) (DCa dc_Law_law_19 32 rfl) (by decide) (fun _ => ?_) (fun _ => ?_)
        · refine V_iinc (ls' := [(0, 2, l0), (1, 2, l1), (2, 2, l2), (3, 0, w32 (l3 + 6))]) (pc := 1432) (DCa dc_Law_law_20 2 rfl) (Nat.le_of_ble_eq_true rfl) (by decide) 3 rfl rfl ?_
          refine V_goto (tgt := 18) (pc := 1435) (DCa dc_Law_law_20 3 rfl) (by decide) ?_
          exact hR18 _ _ _ _ _
        · refine V_iconst (pc := 1407) (DCa dc_Law_law_19 33 rfl) (by decide) ?_
          exact V_zreturn (pc := 1408) (DCa dc_Law_law_19 34 rfl) rfl
      | 37, _ =>
        refine ⟨_, 1409, rfl, by decide, ?_⟩
        refine V_aload_n (pc := 1409) (DCa dc_Law_law_19 35 rfl) rfl 1 rfl ?_
        refine V_aload_n (pc := 1410) (DCa dc_Law_law_19 36 rfl) rfl 0 rfl ?_
        refine V_iload_n (pc := 1411) (DCa dc_Law_law_19 37 rfl) rfl 3 rfl ?_
        refine V_iconst (pc := 1412) (DCa dc_Law_law_19 38 rfl) (by decide) ?_
        refine V_iadd (pc := 1413) (DCa dc_Law_law_19 39 rfl) ?_
        refine Q_xl (pc := 1414) (DCa dc_Law_law_19 40 rfl) (fun v275 => ?_)
        refine Q_callv (ci := 11) (st := []) (pc := 1415) (DCa dc_Law_law_19 41 rfl) (sp_Tide_count F _ _ _) ce_Tide_count (tb6 69 rfl rfl) rfl rfl ⟨Nat.le_of_ble_eq_true rfl, Nat.le_of_ble_eq_true rfl⟩ rfl (Nat.le_of_ble_eq_true rfl) (fun r276 h277 => ?_)
        refine V_aload_n (pc := 1418) (DCa dc_Law_law_19 42 rfl) rfl 2 rfl ?_
        refine V_aload_n (pc := 1419) (DCa dc_Law_law_19 43 rfl) rfl 0 rfl ?_
        refine V_iload_n (pc := 1420) (DCa dc_Law_law_19 44 rfl) rfl 3 rfl ?_
        refine V_iconst (pc := 1421) (DCa dc_Law_law_19 45 rfl) (by decide) ?_
        refine V_iadd (pc := 1422) (DCa dc_Law_law_19 46 rfl) ?_
        refine Q_xl (pc := 1423) (DCa dc_Law_law_19 47 rfl) (fun v278 => ?_)
        refine Q_callv (ci := 12) (st := [(0, r276)]) (pc := 1424) (DCa dc_Law_law_19 48 rfl) (sp_Mod_count F _ _ _) ce_Mod_count (tb9 68 rfl rfl) rfl rfl ⟨Nat.le_of_ble_eq_true rfl, Nat.le_of_ble_eq_true rfl⟩ rfl (Nat.le_of_ble_eq_true rfl) (fun r279 h280 => ?_)
        refine V_icmp_eq (tgt := 1432) (pc := 1427) (DCa dc_Law_law_19 49 rfl) (by decide) (fun _ => ?_) (fun _ => ?_)
        · refine V_iinc (ls' := [(0, 2, l0), (1, 2, l1), (2, 2, l2), (3, 0, w32 (l3 + 6))]) (pc := 1432) (DCa dc_Law_law_20 2 rfl) (Nat.le_of_ble_eq_true rfl) (by decide) 3 rfl rfl ?_
          refine V_goto (tgt := 18) (pc := 1435) (DCa dc_Law_law_20 3 rfl) (by decide) ?_
          exact hR18 _ _ _ _ _
        · refine V_iconst (pc := 1430) (DCa dc_Law_law_20 0 rfl) (by decide) ?_
          exact V_zreturn (pc := 1431) (DCa dc_Law_law_20 1 rfl) rfl
      | k + 38, hi => exact absurd hi (by omega)
theorem v_Law_law_L18 (F : Nat)  (n : Nat) : ∀ (l0 l1 l2 l3 : Int) (h : Hp), V X_Law_law 18 [(0, 2, l0), (1, 2, l1), (2, 2, l2), (3, 0, l3)] [] h (Law_law_L18 F  n l0 l1 l2 l3 h) := by
  induction n with
  | zero => intros; exact V_none
  | succ n ih => exact fun l0 l1 l2 l3 h => v_Law_law_L18s F  _ ih l0 l1 l2 l3 h
theorem v_Law_law (F : Nat) (l0 : Int) (h : Hp) : V X_Law_law 0 [(0, 2, l0)] [] h (Law_law F l0 h) := by
  unfold Law_law
  refine Q_new (pc := 0) (DCa dc_Law_law_0 0 rfl) cls_11 (tb1 23 rfl rfl) rfl rfl (fun v1 h2 => ?_)
  refine V_dup (pc := 3) (DCa dc_Law_law_0 1 rfl) rfl ?_
  refine Q_calli (ci := 11) (st := [(2, v1)]) (pc := 4) (DCa dc_Law_law_0 2 rfl) (sp_Tide_init F _ _) ce_Tide_init (tb1 25 rfl rfl) rfl rfl ⟨Nat.le_of_ble_eq_true rfl, Nat.le_of_ble_eq_true rfl⟩ rfl (Nat.le_of_ble_eq_true rfl) (fun r3 h4 => ?_)
  refine V_astore_n (ls' := [(0, 2, l0), (1, 2, v1)]) (pc := 7) (DCa dc_Law_law_0 3 rfl) rfl (Nat.le_of_ble_eq_true rfl) rfl ?_
  refine Q_new (pc := 8) (DCa dc_Law_law_0 4 rfl) cls_12 (tb6 80 rfl rfl) rfl rfl (fun v5 h6 => ?_)
  refine V_dup (pc := 11) (DCa dc_Law_law_0 5 rfl) rfl ?_
  refine Q_calli (ci := 12) (st := [(2, v5)]) (pc := 12) (DCa dc_Law_law_0 6 rfl) (sp_Mod_init F _ _) ce_Mod_init (tb6 82 rfl rfl) rfl rfl ⟨Nat.le_of_ble_eq_true rfl, Nat.le_of_ble_eq_true rfl⟩ rfl (Nat.le_of_ble_eq_true rfl) (fun r7 h8 => ?_)
  refine V_astore_n (ls' := [(0, 2, l0), (1, 2, v1), (2, 2, v5)]) (pc := 15) (DCa dc_Law_law_0 7 rfl) rfl (Nat.le_of_ble_eq_true rfl) rfl ?_
  refine V_iconst (pc := 16) (DCa dc_Law_law_0 8 rfl) (by decide) ?_
  refine V_istore_n (ls' := [(0, 2, l0), (1, 2, v1), (2, 2, v5), (3, 0, 0)]) (pc := 17) (DCa dc_Law_law_0 9 rfl) rfl (Nat.le_of_ble_eq_true rfl) rfl ?_
  exact v_Law_law_L18 F F _ _ _ _ _
