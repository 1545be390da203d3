/-! ===== BatchShareLaw.law([I)Z ===== -/
def Law_law_L18 : Nat → Nat → Nat → Nat → Int → AH → Option (Int × AH)
  | 0, _, _, _, _, _ => none
  | n + 1, v0, v1, v2, v3, h => aN h 24 v0 fun x1 => if ((wr (x1 - 6)) : Int) < v3 then (some (1, h)) else (aI h 24 v0 v3 fun x2 => if ((iAnd x2 63) : Int) = 0 then (aI h 24 v0 (wr (v3 + 1)) fun x3 => aI h 24 v0 (wr (v3 + 2)) fun x4 => aI h 24 v0 (wr (v3 + 3)) fun x5 => aI h 24 v0 (wr (v3 + 4)) fun x6 => aI h 24 v0 (wr (v3 + 5)) fun x7 => rc h 12 v1 <| bnd (Bat_feed v1 x3 x4 x5 x6 x7 h) fun x9 h8 => aI h8 24 v0 (wr (v3 + 1)) fun x11 => aI h8 24 v0 (wr (v3 + 2)) fun x12 => aI h8 24 v0 (wr (v3 + 3)) fun x13 => aI h8 24 v0 (wr (v3 + 4)) fun x14 => aI h8 24 v0 (wr (v3 + 5)) fun x15 => rc h8 13 v2 <| bnd (Mod_feed v2 x11 x12 x13 x14 x15 h8) fun x17 h16 => if (x9 : Int) = x17 then (Law_law_L18 n v0 v1 v2 ((wr (v3 + 6))) h16) else (some (0, h16))) else (if ((iAnd x2 63) : Int) = 1 then (aI h 24 v0 (wr (v3 + 1)) fun x19 => rc h 12 v1 <| bnd (Bat_end v1 x19 h) fun x21 h20 => aI h20 24 v0 (wr (v3 + 1)) fun x23 => rc h20 13 v2 <| bnd (Mod_end v2 x23 h20) fun x25 h24 => if (x21 : Int) = x25 then (Law_law_L18 n v0 v1 v2 ((wr (v3 + 6))) h24) else (some (0, h24))) else (if ((iAnd x2 63) : Int) = 2 then (rc h 12 v1 <| bnd (Bat_base v1 h) fun x28 h27 => rc h27 13 v2 <| bnd (Mod_base v2 h27) fun x31 h30 => if (x28 : Int) = x31 then (Law_law_L18 n v0 v1 v2 ((wr (v3 + 6))) h30) else (some (0, h30))) else (if ((iAnd x2 63) : Int) = 3 then (rc h 12 v1 <| bnd (Bat_query v1 h) fun x34 h33 => rc h33 13 v2 <| bnd (Mod_query v2 h33) fun x37 h36 => if (x34 : Int) = x37 then (Law_law_L18 n v0 v1 v2 ((wr (v3 + 6))) h36) else (some (0, h36))) else (if ((iAnd x2 63) : Int) = 4 then (aI h 24 v0 (wr (v3 + 1)) fun x39 => aI h 24 v0 (wr (v3 + 2)) fun x40 => aI h 24 v0 (wr (v3 + 3)) fun x41 => rc h 12 v1 <| bnd (Bat_cell v1 x39 x40 x41 h) fun x43 h42 => aI h42 24 v0 (wr (v3 + 1)) fun x45 => aI h42 24 v0 (wr (v3 + 2)) fun x46 => aI h42 24 v0 (wr (v3 + 3)) fun x47 => rc h42 13 v2 <| bnd (Mod_cell v2 x45 x46 x47 h42) fun x49 h48 => if (x43 : Int) = x49 then (Law_law_L18 n v0 v1 v2 ((wr (v3 + 6))) h48) else (some (0, h48))) else (if ((iAnd x2 63) : Int) = 5 then (aI h 24 v0 (wr (v3 + 1)) fun x51 => aI h 24 v0 (wr (v3 + 2)) fun x52 => rc h 12 v1 <| bnd (Bat_form v1 x51 x52 h) fun x54 h53 => aI h53 24 v0 (wr (v3 + 1)) fun x56 => aI h53 24 v0 (wr (v3 + 2)) fun x57 => rc h53 13 v2 <| bnd (Mod_form v2 x56 x57 h53) fun x59 h58 => if (x54 : Int) = x59 then (Law_law_L18 n v0 v1 v2 ((wr (v3 + 6))) h58) else (some (0, h58))) else (if ((iAnd x2 63) : Int) = 6 then (aI h 24 v0 (wr (v3 + 1)) fun x61 => rc h 12 v1 <| bnd (Bat_digest v1 x61 h) fun x63 h62 => aI h62 24 v0 (wr (v3 + 1)) fun x65 => rc h62 13 v2 <| bnd (Mod_digest v2 x65 h62) fun x67 h66 => if (x63 : Int) = x67 then (Law_law_L18 n v0 v1 v2 ((wr (v3 + 6))) h66) else (some (0, h66))) else (if ((iAnd x2 63) : Int) = 7 then (aI h 24 v0 (wr (v3 + 1)) fun x69 => rc h 12 v1 <| bnd (Bat_alike v1 x69 h) fun x71 h70 => aI h70 24 v0 (wr (v3 + 1)) fun x73 => rc h70 13 v2 <| bnd (Mod_alike v2 x73 h70) fun x75 h74 => if (x71 : Int) = x75 then (Law_law_L18 n v0 v1 v2 ((wr (v3 + 6))) h74) else (some (0, h74))) else (if ((iAnd x2 63) : Int) = 8 then (aI h 24 v0 (wr (v3 + 1)) fun x77 => aI h 24 v0 (wr (v3 + 2)) fun x78 => aI h 24 v0 (wr (v3 + 3)) fun x79 => rc h 12 v1 <| bnd (Bat_answer v1 x77 x78 x79 h) fun x81 h80 => aI h80 24 v0 (wr (v3 + 1)) fun x83 => aI h80 24 v0 (wr (v3 + 2)) fun x84 => aI h80 24 v0 (wr (v3 + 3)) fun x85 => rc h80 13 v2 <| bnd (Mod_answer v2 x83 x84 x85 h80) fun x87 h86 => if (x81 : Int) = x87 then (Law_law_L18 n v0 v1 v2 ((wr (v3 + 6))) h86) else (some (0, h86))) else (if ((iAnd x2 63) : Int) = 9 then (aI h 24 v0 (wr (v3 + 1)) fun x89 => rc h 12 v1 <| bnd (Bat_alone v1 x89 h) fun x91 h90 => aI h90 24 v0 (wr (v3 + 1)) fun x93 => rc h90 13 v2 <| bnd (Mod_alone v2 x93 h90) fun x95 h94 => if (x91 : Int) = x95 then (Law_law_L18 n v0 v1 v2 ((wr (v3 + 6))) h94) else (some (0, h94))) else (if ((iAnd x2 63) : Int) = 10 then (rc h 12 v1 <| bnd (Bat_candidates v1 h) fun x98 h97 => rc h97 13 v2 <| bnd (Mod_candidates v2 h97) fun x101 h100 => if (x98 : Int) = x101 then (Law_law_L18 n v0 v1 v2 ((wr (v3 + 6))) h100) else (some (0, h100))) else (if ((iAnd x2 63) : Int) = 11 then (aI h 24 v0 (wr (v3 + 1)) fun x103 => aI h 24 v0 (wr (v3 + 2)) fun x104 => rc h 12 v1 <| bnd (Bat_candidate v1 x103 x104 h) fun x106 h105 => aI h105 24 v0 (wr (v3 + 1)) fun x108 => aI h105 24 v0 (wr (v3 + 2)) fun x109 => rc h105 13 v2 <| bnd (Mod_candidate v2 x108 x109 h105) fun x111 h110 => if (x106 : Int) = x111 then (Law_law_L18 n v0 v1 v2 ((wr (v3 + 6))) h110) else (some (0, h110))) else (if ((iAnd x2 63) : Int) = 12 then (aI h 24 v0 (wr (v3 + 1)) fun x113 => rc h 12 v1 <| bnd (Bat_gain v1 x113 h) fun x115 h114 => aI h114 24 v0 (wr (v3 + 1)) fun x117 => rc h114 13 v2 <| bnd (Mod_gain v2 x117 h114) fun x119 h118 => if (x115 : Int) = x119 then (Law_law_L18 n v0 v1 v2 ((wr (v3 + 6))) h118) else (some (0, h118))) else (if ((iAnd x2 63) : Int) = 13 then (aI h 24 v0 (wr (v3 + 1)) fun x121 => rc h 12 v1 <| bnd (Bat_greedy v1 x121 h) fun x123 h122 => aI h122 24 v0 (wr (v3 + 1)) fun x125 => rc h122 13 v2 <| bnd (Mod_greedy v2 x125 h122) fun x127 h126 => if (x123 : Int) = x127 then (Law_law_L18 n v0 v1 v2 ((wr (v3 + 6))) h126) else (some (0, h126))) else (if ((iAnd x2 63) : Int) = 14 then (aI h 24 v0 (wr (v3 + 1)) fun x129 => rc h 12 v1 <| bnd (Bat_best v1 x129 h) fun x131 h130 => aI h130 24 v0 (wr (v3 + 1)) fun x133 => rc h130 13 v2 <| bnd (Mod_best v2 x133 h130) fun x135 h134 => if (x131 : Int) = x135 then (Law_law_L18 n v0 v1 v2 ((wr (v3 + 6))) h134) else (some (0, h134))) else (if ((iAnd x2 63) : Int) = 15 then (aI h 24 v0 (wr (v3 + 1)) fun x137 => aI h 24 v0 (wr (v3 + 2)) fun x138 => aI h 24 v0 (wr (v3 + 3)) fun x139 => aI h 24 v0 (wr (v3 + 4)) fun x140 => rc h 12 v1 <| bnd (Bat_put v1 x137 x138 x139 x140 h) fun x142 h141 => aI h141 24 v0 (wr (v3 + 1)) fun x144 => aI h141 24 v0 (wr (v3 + 2)) fun x145 => aI h141 24 v0 (wr (v3 + 3)) fun x146 => aI h141 24 v0 (wr (v3 + 4)) fun x147 => rc h141 13 v2 <| bnd (Mod_put v2 x144 x145 x146 x147 h141) fun x149 h148 => if (x142 : Int) = x149 then (Law_law_L18 n v0 v1 v2 ((wr (v3 + 6))) h148) else (some (0, h148))) else (if ((iAnd x2 63) : Int) = 16 then (aI h 24 v0 (wr (v3 + 1)) fun x151 => aI h 24 v0 (wr (v3 + 2)) fun x152 => rc h 12 v1 <| bnd (Bat_remove v1 x151 x152 h) fun x154 h153 => aI h153 24 v0 (wr (v3 + 1)) fun x156 => aI h153 24 v0 (wr (v3 + 2)) fun x157 => rc h153 13 v2 <| bnd (Mod_remove v2 x156 x157 h153) fun x159 h158 => if (x154 : Int) = x159 then (Law_law_L18 n v0 v1 v2 ((wr (v3 + 6))) h158) else (some (0, h158))) else (if ((iAnd x2 63) : Int) = 17 then (aI h 24 v0 (wr (v3 + 1)) fun x161 => aI h 24 v0 (wr (v3 + 2)) fun x162 => aI h 24 v0 (wr (v3 + 3)) fun x163 => aI h 24 v0 (wr (v3 + 4)) fun x164 => rc h 12 v1 <| bnd (Bat_change v1 x161 x162 x163 x164 h) fun x166 h165 => aI h165 24 v0 (wr (v3 + 1)) fun x168 => aI h165 24 v0 (wr (v3 + 2)) fun x169 => aI h165 24 v0 (wr (v3 + 3)) fun x170 => aI h165 24 v0 (wr (v3 + 4)) fun x171 => rc h165 13 v2 <| bnd (Mod_change v2 x168 x169 x170 x171 h165) fun x173 h172 => if (x166 : Int) = x173 then (Law_law_L18 n v0 v1 v2 ((wr (v3 + 6))) h172) else (some (0, h172))) else (if ((iAnd x2 63) : Int) = 18 then (aI h 24 v0 (wr (v3 + 1)) fun x175 => rc h 12 v1 <| bnd (Bat_strike v1 x175 h) fun x177 h176 => aI h176 24 v0 (wr (v3 + 1)) fun x179 => rc h176 13 v2 <| bnd (Mod_strike v2 x179 h176) fun x181 h180 => if (x177 : Int) = x181 then (Law_law_L18 n v0 v1 v2 ((wr (v3 + 6))) h180) else (some (0, h180))) else (if ((iAnd x2 63) : Int) = 19 then (aI h 24 v0 (wr (v3 + 1)) fun x183 => rc h 12 v1 <| bnd (Bat_keep v1 x183 h) fun x185 h184 => aI h184 24 v0 (wr (v3 + 1)) fun x187 => rc h184 13 v2 <| bnd (Mod_keep v2 x187 h184) fun x189 h188 => if (x185 : Int) = x189 then (Law_law_L18 n v0 v1 v2 ((wr (v3 + 6))) h188) else (some (0, h188))) else (if ((iAnd x2 63) : Int) = 20 then (aI h 24 v0 (wr (v3 + 1)) fun x191 => rc h 12 v1 <| bnd (Bat_forget v1 x191 h) fun x193 h192 => aI h192 24 v0 (wr (v3 + 1)) fun x195 => rc h192 13 v2 <| bnd (Mod_forget v2 x195 h192) fun x197 h196 => if (x193 : Int) = x197 then (Law_law_L18 n v0 v1 v2 ((wr (v3 + 6))) h196) else (some (0, h196))) else (if ((iAnd x2 63) : Int) = 21 then (aI h 24 v0 (wr (v3 + 1)) fun x199 => rc h 12 v1 <| bnd (Bat_refresh v1 x199 h) fun x201 h200 => aI h200 24 v0 (wr (v3 + 1)) fun x203 => rc h200 13 v2 <| bnd (Mod_refresh v2 x203 h200) fun x205 h204 => if (x201 : Int) = x205 then (Law_law_L18 n v0 v1 v2 ((wr (v3 + 6))) h204) else (some (0, h204))) else (if ((iAnd x2 63) : Int) = 22 then (rc h 12 v1 <| bnd (Bat_run v1 h) fun x208 h207 => rc h207 13 v2 <| bnd (Mod_run v2 h207) fun x211 h210 => if (x208 : Int) = x211 then (Law_law_L18 n v0 v1 v2 ((wr (v3 + 6))) h210) else (some (0, h210))) else (if ((iAnd x2 63) : Int) = 23 then (rc h 12 v1 <| bnd (Bat_undo v1 h) fun x214 h213 => rc h213 13 v2 <| bnd (Mod_undo v2 h213) fun x217 h216 => if (x214 : Int) = x217 then (Law_law_L18 n v0 v1 v2 ((wr (v3 + 6))) h216) else (some (0, h216))) else (if ((iAnd x2 63) : Int) = 24 then (aI h 24 v0 (wr (v3 + 1)) fun x219 => aI h 24 v0 (wr (v3 + 2)) fun x220 => rc h 12 v1 <| bnd (Bat_kept v1 x219 x220 h) fun x222 h221 => aI h221 24 v0 (wr (v3 + 1)) fun x224 => aI h221 24 v0 (wr (v3 + 2)) fun x225 => rc h221 13 v2 <| bnd (Mod_kept v2 x224 x225 h221) fun x227 h226 => if (x222 : Int) = x227 then (Law_law_L18 n v0 v1 v2 ((wr (v3 + 6))) h226) else (some (0, h226))) else (if ((iAnd x2 63) : Int) = 25 then (rc h 12 v1 <| bnd (Bat_batch v1 h) fun x230 h229 => rc h229 13 v2 <| bnd (Mod_batch v2 h229) fun x233 h232 => if (x230 : Int) = x233 then (Law_law_L18 n v0 v1 v2 ((wr (v3 + 6))) h232) else (some (0, h232))) else (if ((iAnd x2 63) : Int) = 26 then (aI h 24 v0 (wr (v3 + 1)) fun x235 => rc h 12 v1 <| bnd (Bat_costs v1 x235 h) fun x237 h236 => aI h236 24 v0 (wr (v3 + 1)) fun x239 => rc h236 13 v2 <| bnd (Mod_costs v2 x239 h236) fun x241 h240 => if (x237 : Int) = x241 then (Law_law_L18 n v0 v1 v2 ((wr (v3 + 6))) h240) else (some (0, h240))) else (if ((iAnd x2 63) : Int) = 27 then (aI h 24 v0 (wr (v3 + 1)) fun x243 => aI h 24 v0 (wr (v3 + 2)) fun x244 => rc h 12 v1 <| bnd (Bat_serves v1 x243 x244 h) fun x246 h245 => aI h245 24 v0 (wr (v3 + 1)) fun x248 => aI h245 24 v0 (wr (v3 + 2)) fun x249 => rc h245 13 v2 <| bnd (Mod_serves v2 x248 x249 h245) fun x251 h250 => if (x246 : Int) = x251 then (Law_law_L18 n v0 v1 v2 ((wr (v3 + 6))) h250) else (some (0, h250))) else (if ((iAnd x2 63) : Int) = 28 then (aI h 24 v0 (wr (v3 + 1)) fun x253 => aI h 24 v0 (wr (v3 + 2)) fun x254 => rc h 12 v1 <| bnd (Bat_marks v1 x253 x254 h) fun x256 h255 => aI h255 24 v0 (wr (v3 + 1)) fun x258 => aI h255 24 v0 (wr (v3 + 2)) fun x259 => rc h255 13 v2 <| bnd (Mod_marks v2 x258 x259 h255) fun x261 h260 => if (x256 : Int) = x261 then (Law_law_L18 n v0 v1 v2 ((wr (v3 + 6))) h260) else (some (0, h260))) else (if ((iAnd x2 63) : Int) = 29 then (rc h 12 v1 <| bnd (Bat_shared v1 h) fun x264 h263 => rc h263 13 v2 <| bnd (Mod_shared v2 h263) fun x267 h266 => if (x264 : Int) = x267 then (Law_law_L18 n v0 v1 v2 ((wr (v3 + 6))) h266) else (some (0, h266))) else (if ((iAnd x2 63) : Int) = 30 then (aI h 24 v0 (wr (v3 + 1)) fun x269 => aI h 24 v0 (wr (v3 + 2)) fun x270 => rc h 12 v1 <| bnd (Bat_residue v1 x269 x270 h) fun x272 h271 => aI h271 24 v0 (wr (v3 + 1)) fun x274 => aI h271 24 v0 (wr (v3 + 2)) fun x275 => rc h271 13 v2 <| bnd (Mod_residue v2 x274 x275 h271) fun x277 h276 => if (x272 : Int) = x277 then (Law_law_L18 n v0 v1 v2 ((wr (v3 + 6))) h276) else (some (0, h276))) else (if ((iAnd x2 63) : Int) = 31 then (aI h 24 v0 (wr (v3 + 1)) fun x279 => aI h 24 v0 (wr (v3 + 2)) fun x280 => aI h 24 v0 (wr (v3 + 3)) fun x281 => aI h 24 v0 (wr (v3 + 4)) fun x282 => rc h 12 v1 <| bnd (Bat_drift v1 x279 x280 x281 x282 h) fun x284 h283 => aI h283 24 v0 (wr (v3 + 1)) fun x286 => aI h283 24 v0 (wr (v3 + 2)) fun x287 => aI h283 24 v0 (wr (v3 + 3)) fun x288 => aI h283 24 v0 (wr (v3 + 4)) fun x289 => rc h283 13 v2 <| bnd (Mod_drift v2 x286 x287 x288 x289 h283) fun x291 h290 => if (x284 : Int) = x291 then (Law_law_L18 n v0 v1 v2 ((wr (v3 + 6))) h290) else (some (0, h290))) else (if ((iAnd x2 63) : Int) = 32 then (aI h 24 v0 (wr (v3 + 1)) fun x293 => rc h 12 v1 <| bnd (Bat_seed v1 x293 h) fun x295 h294 => aI h294 24 v0 (wr (v3 + 1)) fun x297 => rc h294 13 v2 <| bnd (Mod_seed v2 x297 h294) fun x299 h298 => if (x295 : Int) = x299 then (Law_law_L18 n v0 v1 v2 ((wr (v3 + 6))) h298) else (some (0, h298))) else (if ((iAnd x2 63) : Int) = 33 then (aI h 24 v0 (wr (v3 + 1)) fun x301 => rc h 12 v1 <| bnd (Bat_count v1 x301 h) fun x303 h302 => aI h302 24 v0 (wr (v3 + 1)) fun x305 => rc h302 13 v2 <| bnd (Mod_count v2 x305 h302) fun x307 h306 => if (x303 : Int) = x307 then (Law_law_L18 n v0 v1 v2 ((wr (v3 + 6))) h306) else (some (0, h306))) else (if ((iAnd x2 63) : Int) = 34 then (aI h 24 v0 (wr (v3 + 1)) fun x309 => rc h 12 v1 <| bnd (Bat_image v1 x309 h) fun x311 h310 => aI h310 24 v0 (wr (v3 + 1)) fun x313 => rc h310 13 v2 <| bnd (Mod_image v2 x313 h310) fun x315 h314 => if (x311 : Int) = x315 then (Law_law_L18 n v0 v1 v2 ((wr (v3 + 6))) h314) else (some (0, h314))) else (if ((iAnd x2 63) : Int) = 35 then (aI h 24 v0 (wr (v3 + 1)) fun x317 => rc h 12 v1 <| bnd (Bat_back v1 x317 h) fun x319 h318 => aI h318 24 v0 (wr (v3 + 1)) fun x321 => rc h318 13 v2 <| bnd (Mod_back v2 x321 h318) fun x323 h322 => if (x319 : Int) = x323 then (Law_law_L18 n v0 v1 v2 ((wr (v3 + 6))) h322) else (some (0, h322))) else (Law_law_L18 n v0 v1 v2 ((wr (v3 + 6))) h)))))))))))))))))))))))))))))))))))))
set_option maxHeartbeats 4000000 in
set_option maxRecDepth 20000 in
theorem s_Law_law_L18 : ∀ (n : Nat) (v0 : Nat) (v1 : Nat) (v2 : Nat) (v3 : Int) (h : AH), Sd M_Law_law 14 554 emI 18 [(0, vr v0), (1, vr v1), (2, vr v2), (3, vi v3)] [] h (Law_law_L18 n v0 v1 v2 v3 h)
  | 0, _, _, _, _, _ => Sd.none
  | n + 1, v0, v1, v2, v3, h => by
    rw [Law_law_L18]
    refine Sd_iload_n (pc' := 19) (dc D_Law_law_0 10 rfl) rfl 3 rfl rfl ?_
    refine Sd_aload_n (pc' := 20) (dc D_Law_law_0 11 rfl) rfl 0 rfl rfl ?_
    refine Sd_slen (pc' := 21) (dc D_Law_law_0 12 rfl) rfl ?_
    refine Sd_bipush (pc' := 23) (dc D_Law_law_0 13 rfl) rfl ⟨by decide, by decide⟩ (by decide) ?_
    refine Sd_isub (pc' := 24) (dc D_Law_law_0 14 rfl) rfl ?_
    refine Sd_icmp_gt (tgt := 1196) (pc' := 27) (dc D_Law_law_0 15 rfl) (by decide) rfl (fun _ => ?_) (fun _ => ?_)
    · refine Sd_iconst (pc' := 1197) (dc D_Law_law_20 6 rfl) rfl ⟨by decide, by decide⟩ ?_
      exact Sd_zret (dc D_Law_law_20 7 rfl) rfl (Or.inr rfl)
    · refine Sd_aload_n (pc' := 28) (dc D_Law_law_0 16 rfl) rfl 0 rfl rfl ?_
      refine Sd_iload_n (pc' := 29) (dc D_Law_law_0 17 rfl) rfl 3 rfl rfl ?_
      refine Sd_saload (pc' := 30) (dc D_Law_law_0 18 rfl) rfl ?_
      refine Sd_bipush (pc' := 32) (dc D_Law_law_0 19 rfl) rfl ⟨by decide, by decide⟩ (by decide) ?_
      refine Sd_iand (pc' := 33) (dc D_Law_law_0 20 rfl) rfl ?_
      refine Sd_tcase (i := 0) (tgt := 192) (dc D_Law_law_0 21 rfl) rfl (by decide) (by decide) (by decide) (fun _ => ?_) (fun hn0 => ?_)
      · refine Sd_aload_n (pc' := 193) (dc D_Law_law_0 22 rfl) rfl 1 rfl rfl ?_
        refine Sd_aload_n (pc' := 194) (dc D_Law_law_0 23 rfl) rfl 0 rfl rfl ?_
        refine Sd_iload_n (pc' := 195) (dc D_Law_law_0 24 rfl) rfl 3 rfl rfl ?_
        refine Sd_iconst (pc' := 196) (dc D_Law_law_0 25 rfl) rfl ⟨by decide, by decide⟩ ?_
        refine Sd_iadd (pc' := 197) (dc D_Law_law_0 26 rfl) rfl ?_
        refine Sd_saload (pc' := 198) (dc D_Law_law_0 27 rfl) rfl ?_
        refine Sd_aload_n (pc' := 199) (dc D_Law_law_0 28 rfl) rfl 0 rfl rfl ?_
        refine Sd_iload_n (pc' := 200) (dc D_Law_law_0 29 rfl) rfl 3 rfl rfl ?_
        refine Sd_iconst (pc' := 201) (dc D_Law_law_0 30 rfl) rfl ⟨by decide, by decide⟩ ?_
        refine Sd_iadd (pc' := 202) (dc D_Law_law_0 31 rfl) rfl ?_
        refine Sd_saload (pc' := 203) (dc D_Law_law_0 32 rfl) rfl ?_
        refine Sd_aload_n (pc' := 204) (dc D_Law_law_0 33 rfl) rfl 0 rfl rfl ?_
        refine Sd_iload_n (pc' := 205) (dc D_Law_law_0 34 rfl) rfl 3 rfl rfl ?_
        refine Sd_iconst (pc' := 206) (dc D_Law_law_0 35 rfl) rfl ⟨by decide, by decide⟩ ?_
        refine Sd_iadd (pc' := 207) (dc D_Law_law_0 36 rfl) rfl ?_
        refine Sd_saload (pc' := 208) (dc D_Law_law_0 37 rfl) rfl ?_
        refine Sd_aload_n (pc' := 209) (dc D_Law_law_0 38 rfl) rfl 0 rfl rfl ?_
        refine Sd_iload_n (pc' := 210) (dc D_Law_law_0 39 rfl) rfl 3 rfl rfl ?_
        refine Sd_iconst (pc' := 211) (dc D_Law_law_1 0 rfl) rfl ⟨by decide, by decide⟩ ?_
        refine Sd_iadd (pc' := 212) (dc D_Law_law_1 1 rfl) rfl ?_
        refine Sd_saload (pc' := 213) (dc D_Law_law_1 2 rfl) rfl ?_
        refine Sd_aload_n (pc' := 214) (dc D_Law_law_1 3 rfl) rfl 0 rfl rfl ?_
        refine Sd_iload_n (pc' := 215) (dc D_Law_law_1 4 rfl) rfl 3 rfl rfl ?_
        refine Sd_iconst (pc' := 216) (dc D_Law_law_1 5 rfl) rfl ⟨by decide, by decide⟩ ?_
        refine Sd_iadd (pc' := 217) (dc D_Law_law_1 6 rfl) rfl ?_
        refine Sd_saload (pc' := 218) (dc D_Law_law_1 7 rfl) rfl ?_
        refine Sd.callVI (ci := 11) (t := 12) (as := [_, _, _, _, _]) RX11 (pc' := 221) (dc D_Law_law_1 8 rfl) rfl rfl rfl rfl K_Bat_feed L_Law_13 Ks_Bat_feed Kv_Bat_feed ⟨by decide, by decide⟩ rfl rfl (Nat.le_of_ble_eq_true rfl) (s_Bat_feed _ _ _ _ _ _ _) (fun x9 h8 => ?_)
        refine Sd_aload_n (pc' := 222) (dc D_Law_law_1 9 rfl) rfl 2 rfl rfl ?_
        refine Sd_aload_n (pc' := 223) (dc D_Law_law_1 10 rfl) rfl 0 rfl rfl ?_
        refine Sd_iload_n (pc' := 224) (dc D_Law_law_1 11 rfl) rfl 3 rfl rfl ?_
        refine Sd_iconst (pc' := 225) (dc D_Law_law_1 12 rfl) rfl ⟨by decide, by decide⟩ ?_
        refine Sd_iadd (pc' := 226) (dc D_Law_law_1 13 rfl) rfl ?_
        refine Sd_saload (pc' := 227) (dc D_Law_law_1 14 rfl) rfl ?_
        refine Sd_aload_n (pc' := 228) (dc D_Law_law_1 15 rfl) rfl 0 rfl rfl ?_
        refine Sd_iload_n (pc' := 229) (dc D_Law_law_1 16 rfl) rfl 3 rfl rfl ?_
        refine Sd_iconst (pc' := 230) (dc D_Law_law_1 17 rfl) rfl ⟨by decide, by decide⟩ ?_
        refine Sd_iadd (pc' := 231) (dc D_Law_law_1 18 rfl) rfl ?_
        refine Sd_saload (pc' := 232) (dc D_Law_law_1 19 rfl) rfl ?_
        refine Sd_aload_n (pc' := 233) (dc D_Law_law_1 20 rfl) rfl 0 rfl rfl ?_
        refine Sd_iload_n (pc' := 234) (dc D_Law_law_1 21 rfl) rfl 3 rfl rfl ?_
        refine Sd_iconst (pc' := 235) (dc D_Law_law_1 22 rfl) rfl ⟨by decide, by decide⟩ ?_
        refine Sd_iadd (pc' := 236) (dc D_Law_law_1 23 rfl) rfl ?_
        refine Sd_saload (pc' := 237) (dc D_Law_law_1 24 rfl) rfl ?_
        refine Sd_aload_n (pc' := 238) (dc D_Law_law_1 25 rfl) rfl 0 rfl rfl ?_
        refine Sd_iload_n (pc' := 239) (dc D_Law_law_1 26 rfl) rfl 3 rfl rfl ?_
        refine Sd_iconst (pc' := 240) (dc D_Law_law_1 27 rfl) rfl ⟨by decide, by decide⟩ ?_
        refine Sd_iadd (pc' := 241) (dc D_Law_law_1 28 rfl) rfl ?_
        refine Sd_saload (pc' := 242) (dc D_Law_law_1 29 rfl) rfl ?_
        refine Sd_aload_n (pc' := 243) (dc D_Law_law_1 30 rfl) rfl 0 rfl rfl ?_
        refine Sd_iload_n (pc' := 244) (dc D_Law_law_1 31 rfl) rfl 3 rfl rfl ?_
        refine Sd_iconst (pc' := 245) (dc D_Law_law_1 32 rfl) rfl ⟨by decide, by decide⟩ ?_
        refine Sd_iadd (pc' := 246) (dc D_Law_law_1 33 rfl) rfl ?_
        refine Sd_saload (pc' := 247) (dc D_Law_law_1 34 rfl) rfl ?_
        refine Sd.callVI (ci := 12) (t := 13) (as := [_, _, _, _, _]) RX12 (pc' := 250) (dc D_Law_law_1 35 rfl) rfl rfl rfl rfl K_Mod_feed L_Law_17 Ks_Mod_feed Kv_Mod_feed ⟨by decide, by decide⟩ rfl rfl (Nat.le_of_ble_eq_true rfl) (s_Mod_feed _ _ _ _ _ _ _) (fun x17 h16 => ?_)
        refine Sd_icmp_eq (tgt := 1190) (pc' := 253) (dc D_Law_law_1 36 rfl) (by decide) rfl (fun _ => ?_) (fun _ => ?_)
        · refine Sd_iinc (pc' := 1193) (l' := [(3, _), (0, _), (1, _), (2, _)]) (dc D_Law_law_20 4 rfl) rfl 3 rfl (by decide) rfl ?_
          refine Sd_goto (tgt := 18) (dc D_Law_law_20 5 rfl) (by decide) ?_
          refine Sd.sub (l' := [(0, _), (1, _), (2, _), (3, _)]) [1, 2, 3, 0] rfl ?_
          exact s_Law_law_L18 n _ _ _ _ _
        · refine Sd_iconst (pc' := 254) (dc D_Law_law_1 37 rfl) rfl ⟨by decide, by decide⟩ ?_
          exact Sd_zret (dc D_Law_law_1 38 rfl) rfl (Or.inl rfl)
      refine Sd_tcase (i := 1) (tgt := 255) (dc D_Law_law_0 21 rfl) rfl (by decide) (by decide) (by decide) (fun _ => ?_) (fun hn1 => ?_)
      · refine Sd_aload_n (pc' := 256) (dc D_Law_law_1 39 rfl) rfl 1 rfl rfl ?_
        refine Sd_aload_n (pc' := 257) (dc D_Law_law_2 0 rfl) rfl 0 rfl rfl ?_
        refine Sd_iload_n (pc' := 258) (dc D_Law_law_2 1 rfl) rfl 3 rfl rfl ?_
        refine Sd_iconst (pc' := 259) (dc D_Law_law_2 2 rfl) rfl ⟨by decide, by decide⟩ ?_
        refine Sd_iadd (pc' := 260) (dc D_Law_law_2 3 rfl) rfl ?_
        refine Sd_saload (pc' := 261) (dc D_Law_law_2 4 rfl) rfl ?_
        refine Sd.callVI (ci := 11) (t := 12) (as := [_]) RX11 (pc' := 264) (dc D_Law_law_2 5 rfl) rfl rfl rfl rfl K_Bat_end L_Law_18 Ks_Bat_end Kv_Bat_end ⟨by decide, by decide⟩ rfl rfl (Nat.le_of_ble_eq_true rfl) (s_Bat_end _ _ _) (fun x21 h20 => ?_)
        refine Sd_aload_n (pc' := 265) (dc D_Law_law_2 6 rfl) rfl 2 rfl rfl ?_
        refine Sd_aload_n (pc' := 266) (dc D_Law_law_2 7 rfl) rfl 0 rfl rfl ?_
        refine Sd_iload_n (pc' := 267) (dc D_Law_law_2 8 rfl) rfl 3 rfl rfl ?_
        refine Sd_iconst (pc' := 268) (dc D_Law_law_2 9 rfl) rfl ⟨by decide, by decide⟩ ?_
        refine Sd_iadd (pc' := 269) (dc D_Law_law_2 10 rfl) rfl ?_
        refine Sd_saload (pc' := 270) (dc D_Law_law_2 11 rfl) rfl ?_
        refine Sd.callVI (ci := 12) (t := 13) (as := [_]) RX12 (pc' := 273) (dc D_Law_law_2 12 rfl) rfl rfl rfl rfl K_Mod_end L_Law_22 Ks_Mod_end Kv_Mod_end ⟨by decide, by decide⟩ rfl rfl (Nat.le_of_ble_eq_true rfl) (s_Mod_end _ _ _) (fun x25 h24 => ?_)
        refine Sd_icmp_eq (tgt := 1190) (pc' := 276) (dc D_Law_law_2 13 rfl) (by decide) rfl (fun _ => ?_) (fun _ => ?_)
        · refine Sd_iinc (pc' := 1193) (l' := [(3, _), (0, _), (1, _), (2, _)]) (dc D_Law_law_20 4 rfl) rfl 3 rfl (by decide) rfl ?_
          refine Sd_goto (tgt := 18) (dc D_Law_law_20 5 rfl) (by decide) ?_
          refine Sd.sub (l' := [(0, _), (1, _), (2, _), (3, _)]) [1, 2, 3, 0] rfl ?_
          exact s_Law_law_L18 n _ _ _ _ _
        · refine Sd_iconst (pc' := 277) (dc D_Law_law_2 14 rfl) rfl ⟨by decide, by decide⟩ ?_
          exact Sd_zret (dc D_Law_law_2 15 rfl) rfl (Or.inl rfl)
      refine Sd_tcase (i := 2) (tgt := 278) (dc D_Law_law_0 21 rfl) rfl (by decide) (by decide) (by decide) (fun _ => ?_) (fun hn2 => ?_)
      · refine Sd_aload_n (pc' := 279) (dc D_Law_law_2 16 rfl) rfl 1 rfl rfl ?_
        refine Sd.callVI (ci := 11) (t := 12) (as := []) RX11 (pc' := 282) (dc D_Law_law_2 17 rfl) rfl rfl rfl rfl K_Bat_base L_Law_23 Ks_Bat_base Kv_Bat_base ⟨by decide, by decide⟩ rfl rfl (Nat.le_of_ble_eq_true rfl) (s_Bat_base _ _) (fun x28 h27 => ?_)
        refine Sd_aload_n (pc' := 283) (dc D_Law_law_2 18 rfl) rfl 2 rfl rfl ?_
        refine Sd.callVI (ci := 12) (t := 13) (as := []) RX12 (pc' := 286) (dc D_Law_law_2 19 rfl) rfl rfl rfl rfl K_Mod_base L_Law_27 Ks_Mod_base Kv_Mod_base ⟨by decide, by decide⟩ rfl rfl (Nat.le_of_ble_eq_true rfl) (s_Mod_base _ _) (fun x31 h30 => ?_)
        refine Sd_icmp_eq (tgt := 1190) (pc' := 289) (dc D_Law_law_2 20 rfl) (by decide) rfl (fun _ => ?_) (fun _ => ?_)
        · refine Sd_iinc (pc' := 1193) (l' := [(3, _), (0, _), (1, _), (2, _)]) (dc D_Law_law_20 4 rfl) rfl 3 rfl (by decide) rfl ?_
          refine Sd_goto (tgt := 18) (dc D_Law_law_20 5 rfl) (by decide) ?_
          refine Sd.sub (l' := [(0, _), (1, _), (2, _), (3, _)]) [1, 2, 3, 0] rfl ?_
          exact s_Law_law_L18 n _ _ _ _ _
        · refine Sd_iconst (pc' := 290) (dc D_Law_law_2 21 rfl) rfl ⟨by decide, by decide⟩ ?_
          exact Sd_zret (dc D_Law_law_2 22 rfl) rfl (Or.inl rfl)
      refine Sd_tcase (i := 3) (tgt := 291) (dc D_Law_law_0 21 rfl) rfl (by decide) (by decide) (by decide) (fun _ => ?_) (fun hn3 => ?_)
      · refine Sd_aload_n (pc' := 292) (dc D_Law_law_2 23 rfl) rfl 1 rfl rfl ?_
        refine Sd.callVI (ci := 11) (t := 12) (as := []) RX11 (pc' := 295) (dc D_Law_law_2 24 rfl) rfl rfl rfl rfl K_Bat_query L_Law_28 Ks_Bat_query Kv_Bat_query ⟨by decide, by decide⟩ rfl rfl (Nat.le_of_ble_eq_true rfl) (s_Bat_query _ _) (fun x34 h33 => ?_)
        refine Sd_aload_n (pc' := 296) (dc D_Law_law_2 25 rfl) rfl 2 rfl rfl ?_
        refine Sd.callVI (ci := 12) (t := 13) (as := []) RX12 (pc' := 299) (dc D_Law_law_2 26 rfl) rfl rfl rfl rfl K_Mod_query L_Law_31 Ks_Mod_query Kv_Mod_query ⟨by decide, by decide⟩ rfl rfl (Nat.le_of_ble_eq_true rfl) (s_Mod_query _ _) (fun x37 h36 => ?_)
        refine Sd_icmp_eq (tgt := 1190) (pc' := 302) (dc D_Law_law_2 27 rfl) (by decide) rfl (fun _ => ?_) (fun _ => ?_)
        · refine Sd_iinc (pc' := 1193) (l' := [(3, _), (0, _), (1, _), (2, _)]) (dc D_Law_law_20 4 rfl) rfl 3 rfl (by decide) rfl ?_
          refine Sd_goto (tgt := 18) (dc D_Law_law_20 5 rfl) (by decide) ?_
          refine Sd.sub (l' := [(0, _), (1, _), (2, _), (3, _)]) [1, 2, 3, 0] rfl ?_
          exact s_Law_law_L18 n _ _ _ _ _
        · refine Sd_iconst (pc' := 303) (dc D_Law_law_2 28 rfl) rfl ⟨by decide, by decide⟩ ?_
          exact Sd_zret (dc D_Law_law_2 29 rfl) rfl (Or.inl rfl)
      refine Sd_tcase (i := 4) (tgt := 304) (dc D_Law_law_0 21 rfl) rfl (by decide) (by decide) (by decide) (fun _ => ?_) (fun hn4 => ?_)
      · refine Sd_aload_n (pc' := 305) (dc D_Law_law_2 30 rfl) rfl 1 rfl rfl ?_
        refine Sd_aload_n (pc' := 306) (dc D_Law_law_2 31 rfl) rfl 0 rfl rfl ?_
        refine Sd_iload_n (pc' := 307) (dc D_Law_law_2 32 rfl) rfl 3 rfl rfl ?_
        refine Sd_iconst (pc' := 308) (dc D_Law_law_2 33 rfl) rfl ⟨by decide, by decide⟩ ?_
        refine Sd_iadd (pc' := 309) (dc D_Law_law_2 34 rfl) rfl ?_
        refine Sd_saload (pc' := 310) (dc D_Law_law_2 35 rfl) rfl ?_
        refine Sd_aload_n (pc' := 311) (dc D_Law_law_2 36 rfl) rfl 0 rfl rfl ?_
        refine Sd_iload_n (pc' := 312) (dc D_Law_law_2 37 rfl) rfl 3 rfl rfl ?_
        refine Sd_iconst (pc' := 313) (dc D_Law_law_2 38 rfl) rfl ⟨by decide, by decide⟩ ?_
        refine Sd_iadd (pc' := 314) (dc D_Law_law_2 39 rfl) rfl ?_
        refine Sd_saload (pc' := 315) (dc D_Law_law_3 0 rfl) rfl ?_
        refine Sd_aload_n (pc' := 316) (dc D_Law_law_3 1 rfl) rfl 0 rfl rfl ?_
        refine Sd_iload_n (pc' := 317) (dc D_Law_law_3 2 rfl) rfl 3 rfl rfl ?_
        refine Sd_iconst (pc' := 318) (dc D_Law_law_3 3 rfl) rfl ⟨by decide, by decide⟩ ?_
        refine Sd_iadd (pc' := 319) (dc D_Law_law_3 4 rfl) rfl ?_
        refine Sd_saload (pc' := 320) (dc D_Law_law_3 5 rfl) rfl ?_
        refine Sd.callVI (ci := 11) (t := 12) (as := [_, _, _]) RX11 (pc' := 323) (dc D_Law_law_3 6 rfl) rfl rfl rfl rfl K_Bat_cell L_Law_32 Ks_Bat_cell Kv_Bat_cell ⟨by decide, by decide⟩ rfl rfl (Nat.le_of_ble_eq_true rfl) (s_Bat_cell _ _ _ _ _) (fun x43 h42 => ?_)
        refine Sd_aload_n (pc' := 324) (dc D_Law_law_3 7 rfl) rfl 2 rfl rfl ?_
        refine Sd_aload_n (pc' := 325) (dc D_Law_law_3 8 rfl) rfl 0 rfl rfl ?_
        refine Sd_iload_n (pc' := 326) (dc D_Law_law_3 9 rfl) rfl 3 rfl rfl ?_
        refine Sd_iconst (pc' := 327) (dc D_Law_law_3 10 rfl) rfl ⟨by decide, by decide⟩ ?_
        refine Sd_iadd (pc' := 328) (dc D_Law_law_3 11 rfl) rfl ?_
        refine Sd_saload (pc' := 329) (dc D_Law_law_3 12 rfl) rfl ?_
        refine Sd_aload_n (pc' := 330) (dc D_Law_law_3 13 rfl) rfl 0 rfl rfl ?_
        refine Sd_iload_n (pc' := 331) (dc D_Law_law_3 14 rfl) rfl 3 rfl rfl ?_
        refine Sd_iconst (pc' := 332) (dc D_Law_law_3 15 rfl) rfl ⟨by decide, by decide⟩ ?_
        refine Sd_iadd (pc' := 333) (dc D_Law_law_3 16 rfl) rfl ?_
        refine Sd_saload (pc' := 334) (dc D_Law_law_3 17 rfl) rfl ?_
        refine Sd_aload_n (pc' := 335) (dc D_Law_law_3 18 rfl) rfl 0 rfl rfl ?_
        refine Sd_iload_n (pc' := 336) (dc D_Law_law_3 19 rfl) rfl 3 rfl rfl ?_
        refine Sd_iconst (pc' := 337) (dc D_Law_law_3 20 rfl) rfl ⟨by decide, by decide⟩ ?_
        refine Sd_iadd (pc' := 338) (dc D_Law_law_3 21 rfl) rfl ?_
        refine Sd_saload (pc' := 339) (dc D_Law_law_3 22 rfl) rfl ?_
        refine Sd.callVI (ci := 12) (t := 13) (as := [_, _, _]) RX12 (pc' := 342) (dc D_Law_law_3 23 rfl) rfl rfl rfl rfl K_Mod_cell L_Law_36 Ks_Mod_cell Kv_Mod_cell ⟨by decide, by decide⟩ rfl rfl (Nat.le_of_ble_eq_true rfl) (s_Mod_cell _ _ _ _ _) (fun x49 h48 => ?_)
        refine Sd_icmp_eq (tgt := 1190) (pc' := 345) (dc D_Law_law_3 24 rfl) (by decide) rfl (fun _ => ?_) (fun _ => ?_)
        · refine Sd_iinc (pc' := 1193) (l' := [(3, _), (0, _), (1, _), (2, _)]) (dc D_Law_law_20 4 rfl) rfl 3 rfl (by decide) rfl ?_
          refine Sd_goto (tgt := 18) (dc D_Law_law_20 5 rfl) (by decide) ?_
          refine Sd.sub (l' := [(0, _), (1, _), (2, _), (3, _)]) [1, 2, 3, 0] rfl ?_
          exact s_Law_law_L18 n _ _ _ _ _
        · refine Sd_iconst (pc' := 346) (dc D_Law_law_3 25 rfl) rfl ⟨by decide, by decide⟩ ?_
          exact Sd_zret (dc D_Law_law_3 26 rfl) rfl (Or.inl rfl)
      refine Sd_tcase (i := 5) (tgt := 347) (dc D_Law_law_0 21 rfl) rfl (by decide) (by decide) (by decide) (fun _ => ?_) (fun hn5 => ?_)
      · refine Sd_aload_n (pc' := 348) (dc D_Law_law_3 27 rfl) rfl 1 rfl rfl ?_
        refine Sd_aload_n (pc' := 349) (dc D_Law_law_3 28 rfl) rfl 0 rfl rfl ?_
        refine Sd_iload_n (pc' := 350) (dc D_Law_law_3 29 rfl) rfl 3 rfl rfl ?_
        refine Sd_iconst (pc' := 351) (dc D_Law_law_3 30 rfl) rfl ⟨by decide, by decide⟩ ?_
        refine Sd_iadd (pc' := 352) (dc D_Law_law_3 31 rfl) rfl ?_
        refine Sd_saload (pc' := 353) (dc D_Law_law_3 32 rfl) rfl ?_
        refine Sd_aload_n (pc' := 354) (dc D_Law_law_3 33 rfl) rfl 0 rfl rfl ?_
        refine Sd_iload_n (pc' := 355) (dc D_Law_law_3 34 rfl) rfl 3 rfl rfl ?_
        refine Sd_iconst (pc' := 356) (dc D_Law_law_3 35 rfl) rfl ⟨by decide, by decide⟩ ?_
        refine Sd_iadd (pc' := 357) (dc D_Law_law_3 36 rfl) rfl ?_
        refine Sd_saload (pc' := 358) (dc D_Law_law_3 37 rfl) rfl ?_
        refine Sd.callVI (ci := 11) (t := 12) (as := [_, _]) RX11 (pc' := 361) (dc D_Law_law_3 38 rfl) rfl rfl rfl rfl K_Bat_form L_Law_37 Ks_Bat_form Kv_Bat_form ⟨by decide, by decide⟩ rfl rfl (Nat.le_of_ble_eq_true rfl) (s_Bat_form _ _ _ _) (fun x54 h53 => ?_)
        refine Sd_aload_n (pc' := 362) (dc D_Law_law_3 39 rfl) rfl 2 rfl rfl ?_
        refine Sd_aload_n (pc' := 363) (dc D_Law_law_4 0 rfl) rfl 0 rfl rfl ?_
        refine Sd_iload_n (pc' := 364) (dc D_Law_law_4 1 rfl) rfl 3 rfl rfl ?_
        refine Sd_iconst (pc' := 365) (dc D_Law_law_4 2 rfl) rfl ⟨by decide, by decide⟩ ?_
        refine Sd_iadd (pc' := 366) (dc D_Law_law_4 3 rfl) rfl ?_
        refine Sd_saload (pc' := 367) (dc D_Law_law_4 4 rfl) rfl ?_
        refine Sd_aload_n (pc' := 368) (dc D_Law_law_4 5 rfl) rfl 0 rfl rfl ?_
        refine Sd_iload_n (pc' := 369) (dc D_Law_law_4 6 rfl) rfl 3 rfl rfl ?_
        refine Sd_iconst (pc' := 370) (dc D_Law_law_4 7 rfl) rfl ⟨by decide, by decide⟩ ?_
        refine Sd_iadd (pc' := 371) (dc D_Law_law_4 8 rfl) rfl ?_
        refine Sd_saload (pc' := 372) (dc D_Law_law_4 9 rfl) rfl ?_
        refine Sd.callVI (ci := 12) (t := 13) (as := [_, _]) RX12 (pc' := 375) (dc D_Law_law_4 10 rfl) rfl rfl rfl rfl K_Mod_form L_Law_41 Ks_Mod_form Kv_Mod_form ⟨by decide, by decide⟩ rfl rfl (Nat.le_of_ble_eq_true rfl) (s_Mod_form _ _ _ _) (fun x59 h58 => ?_)
        refine Sd_icmp_eq (tgt := 1190) (pc' := 378) (dc D_Law_law_4 11 rfl) (by decide) rfl (fun _ => ?_) (fun _ => ?_)
        · refine Sd_iinc (pc' := 1193) (l' := [(3, _), (0, _), (1, _), (2, _)]) (dc D_Law_law_20 4 rfl) rfl 3 rfl (by decide) rfl ?_
          refine Sd_goto (tgt := 18) (dc D_Law_law_20 5 rfl) (by decide) ?_
          refine Sd.sub (l' := [(0, _), (1, _), (2, _), (3, _)]) [1, 2, 3, 0] rfl ?_
          exact s_Law_law_L18 n _ _ _ _ _
        · refine Sd_iconst (pc' := 379) (dc D_Law_law_4 12 rfl) rfl ⟨by decide, by decide⟩ ?_
          exact Sd_zret (dc D_Law_law_4 13 rfl) rfl (Or.inl rfl)
      refine Sd_tcase (i := 6) (tgt := 380) (dc D_Law_law_0 21 rfl) rfl (by decide) (by decide) (by decide) (fun _ => ?_) (fun hn6 => ?_)
      · refine Sd_aload_n (pc' := 381) (dc D_Law_law_4 14 rfl) rfl 1 rfl rfl ?_
        refine Sd_aload_n (pc' := 382) (dc D_Law_law_4 15 rfl) rfl 0 rfl rfl ?_
        refine Sd_iload_n (pc' := 383) (dc D_Law_law_4 16 rfl) rfl 3 rfl rfl ?_
        refine Sd_iconst (pc' := 384) (dc D_Law_law_4 17 rfl) rfl ⟨by decide, by decide⟩ ?_
        refine Sd_iadd (pc' := 385) (dc D_Law_law_4 18 rfl) rfl ?_
        refine Sd_saload (pc' := 386) (dc D_Law_law_4 19 rfl) rfl ?_
        refine Sd.callVI (ci := 11) (t := 12) (as := [_]) RX11 (pc' := 389) (dc D_Law_law_4 20 rfl) rfl rfl rfl rfl K_Bat_digest L_Law_42 Ks_Bat_digest Kv_Bat_digest ⟨by decide, by decide⟩ rfl rfl (Nat.le_of_ble_eq_true rfl) (s_Bat_digest _ _ _) (fun x63 h62 => ?_)
        refine Sd_aload_n (pc' := 390) (dc D_Law_law_4 21 rfl) rfl 2 rfl rfl ?_
        refine Sd_aload_n (pc' := 391) (dc D_Law_law_4 22 rfl) rfl 0 rfl rfl ?_
        refine Sd_iload_n (pc' := 392) (dc D_Law_law_4 23 rfl) rfl 3 rfl rfl ?_
        refine Sd_iconst (pc' := 393) (dc D_Law_law_4 24 rfl) rfl ⟨by decide, by decide⟩ ?_
        refine Sd_iadd (pc' := 394) (dc D_Law_law_4 25 rfl) rfl ?_
        refine Sd_saload (pc' := 395) (dc D_Law_law_4 26 rfl) rfl ?_
        refine Sd.callVI (ci := 12) (t := 13) (as := [_]) RX12 (pc' := 398) (dc D_Law_law_4 27 rfl) rfl rfl rfl rfl K_Mod_digest L_Law_45 Ks_Mod_digest Kv_Mod_digest ⟨by decide, by decide⟩ rfl rfl (Nat.le_of_ble_eq_true rfl) (s_Mod_digest _ _ _) (fun x67 h66 => ?_)
        refine Sd_icmp_eq (tgt := 1190) (pc' := 401) (dc D_Law_law_4 28 rfl) (by decide) rfl (fun _ => ?_) (fun _ => ?_)
        · refine Sd_iinc (pc' := 1193) (l' := [(3, _), (0, _), (1, _), (2, _)]) (dc D_Law_law_20 4 rfl) rfl 3 rfl (by decide) rfl ?_
          refine Sd_goto (tgt := 18) (dc D_Law_law_20 5 rfl) (by decide) ?_
          refine Sd.sub (l' := [(0, _), (1, _), (2, _), (3, _)]) [1, 2, 3, 0] rfl ?_
          exact s_Law_law_L18 n _ _ _ _ _
        · refine Sd_iconst (pc' := 402) (dc D_Law_law_4 29 rfl) rfl ⟨by decide, by decide⟩ ?_
          exact Sd_zret (dc D_Law_law_4 30 rfl) rfl (Or.inl rfl)
      refine Sd_tcase (i := 7) (tgt := 403) (dc D_Law_law_0 21 rfl) rfl (by decide) (by decide) (by decide) (fun _ => ?_) (fun hn7 => ?_)
      · refine Sd_aload_n (pc' := 404) (dc D_Law_law_4 31 rfl) rfl 1 rfl rfl ?_
        refine Sd_aload_n (pc' := 405) (dc D_Law_law_4 32 rfl) rfl 0 rfl rfl ?_
        refine Sd_iload_n (pc' := 406) (dc D_Law_law_4 33 rfl) rfl 3 rfl rfl ?_
        refine Sd_iconst (pc' := 407) (dc D_Law_law_4 34 rfl) rfl ⟨by decide, by decide⟩ ?_
        refine Sd_iadd (pc' := 408) (dc D_Law_law_4 35 rfl) rfl ?_
        refine Sd_saload (pc' := 409) (dc D_Law_law_4 36 rfl) rfl ?_
        refine Sd.callVI (ci := 11) (t := 12) (as := [_]) RX11 (pc' := 412) (dc D_Law_law_4 37 rfl) rfl rfl rfl rfl K_Bat_alike L_Law_46 Ks_Bat_alike Kv_Bat_alike ⟨by decide, by decide⟩ rfl rfl (Nat.le_of_ble_eq_true rfl) (s_Bat_alike _ _ _) (fun x71 h70 => ?_)
        refine Sd_aload_n (pc' := 413) (dc D_Law_law_4 38 rfl) rfl 2 rfl rfl ?_
        refine Sd_aload_n (pc' := 414) (dc D_Law_law_4 39 rfl) rfl 0 rfl rfl ?_
        refine Sd_iload_n (pc' := 415) (dc D_Law_law_5 0 rfl) rfl 3 rfl rfl ?_
        refine Sd_iconst (pc' := 416) (dc D_Law_law_5 1 rfl) rfl ⟨by decide, by decide⟩ ?_
        refine Sd_iadd (pc' := 417) (dc D_Law_law_5 2 rfl) rfl ?_
        refine Sd_saload (pc' := 418) (dc D_Law_law_5 3 rfl) rfl ?_
        refine Sd.callVI (ci := 12) (t := 13) (as := [_]) RX12 (pc' := 421) (dc D_Law_law_5 4 rfl) rfl rfl rfl rfl K_Mod_alike L_Law_49 Ks_Mod_alike Kv_Mod_alike ⟨by decide, by decide⟩ rfl rfl (Nat.le_of_ble_eq_true rfl) (s_Mod_alike _ _ _) (fun x75 h74 => ?_)
        refine Sd_icmp_eq (tgt := 1190) (pc' := 424) (dc D_Law_law_5 5 rfl) (by decide) rfl (fun _ => ?_) (fun _ => ?_)
        · refine Sd_iinc (pc' := 1193) (l' := [(3, _), (0, _), (1, _), (2, _)]) (dc D_Law_law_20 4 rfl) rfl 3 rfl (by decide) rfl ?_
          refine Sd_goto (tgt := 18) (dc D_Law_law_20 5 rfl) (by decide) ?_
          refine Sd.sub (l' := [(0, _), (1, _), (2, _), (3, _)]) [1, 2, 3, 0] rfl ?_
          exact s_Law_law_L18 n _ _ _ _ _
        · refine Sd_iconst (pc' := 425) (dc D_Law_law_5 6 rfl) rfl ⟨by decide, by decide⟩ ?_
          exact Sd_zret (dc D_Law_law_5 7 rfl) rfl (Or.inl rfl)
      refine Sd_tcase (i := 8) (tgt := 426) (dc D_Law_law_0 21 rfl) rfl (by decide) (by decide) (by decide) (fun _ => ?_) (fun hn8 => ?_)
      · refine Sd_aload_n (pc' := 427) (dc D_Law_law_5 8 rfl) rfl 1 rfl rfl ?_
        refine Sd_aload_n (pc' := 428) (dc D_Law_law_5 9 rfl) rfl 0 rfl rfl ?_
        refine Sd_iload_n (pc' := 429) (dc D_Law_law_5 10 rfl) rfl 3 rfl rfl ?_
        refine Sd_iconst (pc' := 430) (dc D_Law_law_5 11 rfl) rfl ⟨by decide, by decide⟩ ?_
        refine Sd_iadd (pc' := 431) (dc D_Law_law_5 12 rfl) rfl ?_
        refine Sd_saload (pc' := 432) (dc D_Law_law_5 13 rfl) rfl ?_
        refine Sd_aload_n (pc' := 433) (dc D_Law_law_5 14 rfl) rfl 0 rfl rfl ?_
        refine Sd_iload_n (pc' := 434) (dc D_Law_law_5 15 rfl) rfl 3 rfl rfl ?_
        refine Sd_iconst (pc' := 435) (dc D_Law_law_5 16 rfl) rfl ⟨by decide, by decide⟩ ?_
        refine Sd_iadd (pc' := 436) (dc D_Law_law_5 17 rfl) rfl ?_
        refine Sd_saload (pc' := 437) (dc D_Law_law_5 18 rfl) rfl ?_
        refine Sd_aload_n (pc' := 438) (dc D_Law_law_5 19 rfl) rfl 0 rfl rfl ?_
        refine Sd_iload_n (pc' := 439) (dc D_Law_law_5 20 rfl) rfl 3 rfl rfl ?_
        refine Sd_iconst (pc' := 440) (dc D_Law_law_5 21 rfl) rfl ⟨by decide, by decide⟩ ?_
        refine Sd_iadd (pc' := 441) (dc D_Law_law_5 22 rfl) rfl ?_
        refine Sd_saload (pc' := 442) (dc D_Law_law_5 23 rfl) rfl ?_
        refine Sd.callVI (ci := 11) (t := 12) (as := [_, _, _]) RX11 (pc' := 445) (dc D_Law_law_5 24 rfl) rfl rfl rfl rfl K_Bat_answer L_Law_50 Ks_Bat_answer Kv_Bat_answer ⟨by decide, by decide⟩ rfl rfl (Nat.le_of_ble_eq_true rfl) (s_Bat_answer _ _ _ _ _) (fun x81 h80 => ?_)
        refine Sd_aload_n (pc' := 446) (dc D_Law_law_5 25 rfl) rfl 2 rfl rfl ?_
        refine Sd_aload_n (pc' := 447) (dc D_Law_law_5 26 rfl) rfl 0 rfl rfl ?_
        refine Sd_iload_n (pc' := 448) (dc D_Law_law_5 27 rfl) rfl 3 rfl rfl ?_
        refine Sd_iconst (pc' := 449) (dc D_Law_law_5 28 rfl) rfl ⟨by decide, by decide⟩ ?_
        refine Sd_iadd (pc' := 450) (dc D_Law_law_5 29 rfl) rfl ?_
        refine Sd_saload (pc' := 451) (dc D_Law_law_5 30 rfl) rfl ?_
        refine Sd_aload_n (pc' := 452) (dc D_Law_law_5 31 rfl) rfl 0 rfl rfl ?_
        refine Sd_iload_n (pc' := 453) (dc D_Law_law_5 32 rfl) rfl 3 rfl rfl ?_
        refine Sd_iconst (pc' := 454) (dc D_Law_law_5 33 rfl) rfl ⟨by decide, by decide⟩ ?_
        refine Sd_iadd (pc' := 455) (dc D_Law_law_5 34 rfl) rfl ?_
        refine Sd_saload (pc' := 456) (dc D_Law_law_5 35 rfl) rfl ?_
        refine Sd_aload_n (pc' := 457) (dc D_Law_law_5 36 rfl) rfl 0 rfl rfl ?_
        refine Sd_iload_n (pc' := 458) (dc D_Law_law_5 37 rfl) rfl 3 rfl rfl ?_
        refine Sd_iconst (pc' := 459) (dc D_Law_law_5 38 rfl) rfl ⟨by decide, by decide⟩ ?_
        refine Sd_iadd (pc' := 460) (dc D_Law_law_5 39 rfl) rfl ?_
        refine Sd_saload (pc' := 461) (dc D_Law_law_6 0 rfl) rfl ?_
        refine Sd.callVI (ci := 12) (t := 13) (as := [_, _, _]) RX12 (pc' := 464) (dc D_Law_law_6 1 rfl) rfl rfl rfl rfl K_Mod_answer L_Law_53 Ks_Mod_answer Kv_Mod_answer ⟨by decide, by decide⟩ rfl rfl (Nat.le_of_ble_eq_true rfl) (s_Mod_answer _ _ _ _ _) (fun x87 h86 => ?_)
        refine Sd_icmp_eq (tgt := 1190) (pc' := 467) (dc D_Law_law_6 2 rfl) (by decide) rfl (fun _ => ?_) (fun _ => ?_)
        · refine Sd_iinc (pc' := 1193) (l' := [(3, _), (0, _), (1, _), (2, _)]) (dc D_Law_law_20 4 rfl) rfl 3 rfl (by decide) rfl ?_
          refine Sd_goto (tgt := 18) (dc D_Law_law_20 5 rfl) (by decide) ?_
          refine Sd.sub (l' := [(0, _), (1, _), (2, _), (3, _)]) [1, 2, 3, 0] rfl ?_
          exact s_Law_law_L18 n _ _ _ _ _
        · refine Sd_iconst (pc' := 468) (dc D_Law_law_6 3 rfl) rfl ⟨by decide, by decide⟩ ?_
          exact Sd_zret (dc D_Law_law_6 4 rfl) rfl (Or.inl rfl)
      refine Sd_tcase (i := 9) (tgt := 469) (dc D_Law_law_0 21 rfl) rfl (by decide) (by decide) (by decide) (fun _ => ?_) (fun hn9 => ?_)
      · refine Sd_aload_n (pc' := 470) (dc D_Law_law_6 5 rfl) rfl 1 rfl rfl ?_
        refine Sd_aload_n (pc' := 471) (dc D_Law_law_6 6 rfl) rfl 0 rfl rfl ?_
        refine Sd_iload_n (pc' := 472) (dc D_Law_law_6 7 rfl) rfl 3 rfl rfl ?_
        refine Sd_iconst (pc' := 473) (dc D_Law_law_6 8 rfl) rfl ⟨by decide, by decide⟩ ?_
        refine Sd_iadd (pc' := 474) (dc D_Law_law_6 9 rfl) rfl ?_
        refine Sd_saload (pc' := 475) (dc D_Law_law_6 10 rfl) rfl ?_
        refine Sd.callVI (ci := 11) (t := 12) (as := [_]) RX11 (pc' := 478) (dc D_Law_law_6 11 rfl) rfl rfl rfl rfl K_Bat_alone L_Law_54 Ks_Bat_alone Kv_Bat_alone ⟨by decide, by decide⟩ rfl rfl (Nat.le_of_ble_eq_true rfl) (s_Bat_alone _ _ _) (fun x91 h90 => ?_)
        refine Sd_aload_n (pc' := 479) (dc D_Law_law_6 12 rfl) rfl 2 rfl rfl ?_
        refine Sd_aload_n (pc' := 480) (dc D_Law_law_6 13 rfl) rfl 0 rfl rfl ?_
        refine Sd_iload_n (pc' := 481) (dc D_Law_law_6 14 rfl) rfl 3 rfl rfl ?_
        refine Sd_iconst (pc' := 482) (dc D_Law_law_6 15 rfl) rfl ⟨by decide, by decide⟩ ?_
        refine Sd_iadd (pc' := 483) (dc D_Law_law_6 16 rfl) rfl ?_
        refine Sd_saload (pc' := 484) (dc D_Law_law_6 17 rfl) rfl ?_
        refine Sd.callVI (ci := 12) (t := 13) (as := [_]) RX12 (pc' := 487) (dc D_Law_law_6 18 rfl) rfl rfl rfl rfl K_Mod_alone L_Law_57 Ks_Mod_alone Kv_Mod_alone ⟨by decide, by decide⟩ rfl rfl (Nat.le_of_ble_eq_true rfl) (s_Mod_alone _ _ _) (fun x95 h94 => ?_)
        refine Sd_icmp_eq (tgt := 1190) (pc' := 490) (dc D_Law_law_6 19 rfl) (by decide) rfl (fun _ => ?_) (fun _ => ?_)
        · refine Sd_iinc (pc' := 1193) (l' := [(3, _), (0, _), (1, _), (2, _)]) (dc D_Law_law_20 4 rfl) rfl 3 rfl (by decide) rfl ?_
          refine Sd_goto (tgt := 18) (dc D_Law_law_20 5 rfl) (by decide) ?_
          refine Sd.sub (l' := [(0, _), (1, _), (2, _), (3, _)]) [1, 2, 3, 0] rfl ?_
          exact s_Law_law_L18 n _ _ _ _ _
        · refine Sd_iconst (pc' := 491) (dc D_Law_law_6 20 rfl) rfl ⟨by decide, by decide⟩ ?_
          exact Sd_zret (dc D_Law_law_6 21 rfl) rfl (Or.inl rfl)
      refine Sd_tcase (i := 10) (tgt := 492) (dc D_Law_law_0 21 rfl) rfl (by decide) (by decide) (by decide) (fun _ => ?_) (fun hn10 => ?_)
      · refine Sd_aload_n (pc' := 493) (dc D_Law_law_6 22 rfl) rfl 1 rfl rfl ?_
        refine Sd.callVI (ci := 11) (t := 12) (as := []) RX11 (pc' := 496) (dc D_Law_law_6 23 rfl) rfl rfl rfl rfl K_Bat_candidates L_Law_58 Ks_Bat_candidates Kv_Bat_candidates ⟨by decide, by decide⟩ rfl rfl (Nat.le_of_ble_eq_true rfl) (s_Bat_candidates _ _) (fun x98 h97 => ?_)
        refine Sd_aload_n (pc' := 497) (dc D_Law_law_6 24 rfl) rfl 2 rfl rfl ?_
        refine Sd.callVI (ci := 12) (t := 13) (as := []) RX12 (pc' := 500) (dc D_Law_law_6 25 rfl) rfl rfl rfl rfl K_Mod_candidates L_Law_61 Ks_Mod_candidates Kv_Mod_candidates ⟨by decide, by decide⟩ rfl rfl (Nat.le_of_ble_eq_true rfl) (s_Mod_candidates _ _) (fun x101 h100 => ?_)
        refine Sd_icmp_eq (tgt := 1190) (pc' := 503) (dc D_Law_law_6 26 rfl) (by decide) rfl (fun _ => ?_) (fun _ => ?_)
        · refine Sd_iinc (pc' := 1193) (l' := [(3, _), (0, _), (1, _), (2, _)]) (dc D_Law_law_20 4 rfl) rfl 3 rfl (by decide) rfl ?_
          refine Sd_goto (tgt := 18) (dc D_Law_law_20 5 rfl) (by decide) ?_
          refine Sd.sub (l' := [(0, _), (1, _), (2, _), (3, _)]) [1, 2, 3, 0] rfl ?_
          exact s_Law_law_L18 n _ _ _ _ _
        · refine Sd_iconst (pc' := 504) (dc D_Law_law_6 27 rfl) rfl ⟨by decide, by decide⟩ ?_
          exact Sd_zret (dc D_Law_law_6 28 rfl) rfl (Or.inl rfl)
      refine Sd_tcase (i := 11) (tgt := 505) (dc D_Law_law_0 21 rfl) rfl (by decide) (by decide) (by decide) (fun _ => ?_) (fun hn11 => ?_)
      · refine Sd_aload_n (pc' := 506) (dc D_Law_law_6 29 rfl) rfl 1 rfl rfl ?_
        refine Sd_aload_n (pc' := 507) (dc D_Law_law_6 30 rfl) rfl 0 rfl rfl ?_
        refine Sd_iload_n (pc' := 508) (dc D_Law_law_6 31 rfl) rfl 3 rfl rfl ?_
        refine Sd_iconst (pc' := 509) (dc D_Law_law_6 32 rfl) rfl ⟨by decide, by decide⟩ ?_
        refine Sd_iadd (pc' := 510) (dc D_Law_law_6 33 rfl) rfl ?_
        refine Sd_saload (pc' := 511) (dc D_Law_law_6 34 rfl) rfl ?_
        refine Sd_aload_n (pc' := 512) (dc D_Law_law_6 35 rfl) rfl 0 rfl rfl ?_
        refine Sd_iload_n (pc' := 513) (dc D_Law_law_6 36 rfl) rfl 3 rfl rfl ?_
        refine Sd_iconst (pc' := 514) (dc D_Law_law_6 37 rfl) rfl ⟨by decide, by decide⟩ ?_
        refine Sd_iadd (pc' := 515) (dc D_Law_law_6 38 rfl) rfl ?_
        refine Sd_saload (pc' := 516) (dc D_Law_law_6 39 rfl) rfl ?_
        refine Sd.callVI (ci := 11) (t := 12) (as := [_, _]) RX11 (pc' := 519) (dc D_Law_law_7 0 rfl) rfl rfl rfl rfl K_Bat_candidate L_Law_62 Ks_Bat_candidate Kv_Bat_candidate ⟨by decide, by decide⟩ rfl rfl (Nat.le_of_ble_eq_true rfl) (s_Bat_candidate _ _ _ _) (fun x106 h105 => ?_)
        refine Sd_aload_n (pc' := 520) (dc D_Law_law_7 1 rfl) rfl 2 rfl rfl ?_
        refine Sd_aload_n (pc' := 521) (dc D_Law_law_7 2 rfl) rfl 0 rfl rfl ?_
        refine Sd_iload_n (pc' := 522) (dc D_Law_law_7 3 rfl) rfl 3 rfl rfl ?_
        refine Sd_iconst (pc' := 523) (dc D_Law_law_7 4 rfl) rfl ⟨by decide, by decide⟩ ?_
        refine Sd_iadd (pc' := 524) (dc D_Law_law_7 5 rfl) rfl ?_
        refine Sd_saload (pc' := 525) (dc D_Law_law_7 6 rfl) rfl ?_
        refine Sd_aload_n (pc' := 526) (dc D_Law_law_7 7 rfl) rfl 0 rfl rfl ?_
        refine Sd_iload_n (pc' := 527) (dc D_Law_law_7 8 rfl) rfl 3 rfl rfl ?_
        refine Sd_iconst (pc' := 528) (dc D_Law_law_7 9 rfl) rfl ⟨by decide, by decide⟩ ?_
        refine Sd_iadd (pc' := 529) (dc D_Law_law_7 10 rfl) rfl ?_
        refine Sd_saload (pc' := 530) (dc D_Law_law_7 11 rfl) rfl ?_
        refine Sd.callVI (ci := 12) (t := 13) (as := [_, _]) RX12 (pc' := 533) (dc D_Law_law_7 12 rfl) rfl rfl rfl rfl K_Mod_candidate L_Law_65 Ks_Mod_candidate Kv_Mod_candidate ⟨by decide, by decide⟩ rfl rfl (Nat.le_of_ble_eq_true rfl) (s_Mod_candidate _ _ _ _) (fun x111 h110 => ?_)
        refine Sd_icmp_eq (tgt := 1190) (pc' := 536) (dc D_Law_law_7 13 rfl) (by decide) rfl (fun _ => ?_) (fun _ => ?_)
        · refine Sd_iinc (pc' := 1193) (l' := [(3, _), (0, _), (1, _), (2, _)]) (dc D_Law_law_20 4 rfl) rfl 3 rfl (by decide) rfl ?_
          refine Sd_goto (tgt := 18) (dc D_Law_law_20 5 rfl) (by decide) ?_
          refine Sd.sub (l' := [(0, _), (1, _), (2, _), (3, _)]) [1, 2, 3, 0] rfl ?_
          exact s_Law_law_L18 n _ _ _ _ _
        · refine Sd_iconst (pc' := 537) (dc D_Law_law_7 14 rfl) rfl ⟨by decide, by decide⟩ ?_
          exact Sd_zret (dc D_Law_law_7 15 rfl) rfl (Or.inl rfl)
      refine Sd_tcase (i := 12) (tgt := 538) (dc D_Law_law_0 21 rfl) rfl (by decide) (by decide) (by decide) (fun _ => ?_) (fun hn12 => ?_)
      · refine Sd_aload_n (pc' := 539) (dc D_Law_law_7 16 rfl) rfl 1 rfl rfl ?_
        refine Sd_aload_n (pc' := 540) (dc D_Law_law_7 17 rfl) rfl 0 rfl rfl ?_
        refine Sd_iload_n (pc' := 541) (dc D_Law_law_7 18 rfl) rfl 3 rfl rfl ?_
        refine Sd_iconst (pc' := 542) (dc D_Law_law_7 19 rfl) rfl ⟨by decide, by decide⟩ ?_
        refine Sd_iadd (pc' := 543) (dc D_Law_law_7 20 rfl) rfl ?_
        refine Sd_saload (pc' := 544) (dc D_Law_law_7 21 rfl) rfl ?_
        refine Sd.callVI (ci := 11) (t := 12) (as := [_]) RX11 (pc' := 547) (dc D_Law_law_7 22 rfl) rfl rfl rfl rfl K_Bat_gain L_Law_66 Ks_Bat_gain Kv_Bat_gain ⟨by decide, by decide⟩ rfl rfl (Nat.le_of_ble_eq_true rfl) (s_Bat_gain _ _ _) (fun x115 h114 => ?_)
        refine Sd_aload_n (pc' := 548) (dc D_Law_law_7 23 rfl) rfl 2 rfl rfl ?_
        refine Sd_aload_n (pc' := 549) (dc D_Law_law_7 24 rfl) rfl 0 rfl rfl ?_
        refine Sd_iload_n (pc' := 550) (dc D_Law_law_7 25 rfl) rfl 3 rfl rfl ?_
        refine Sd_iconst (pc' := 551) (dc D_Law_law_7 26 rfl) rfl ⟨by decide, by decide⟩ ?_
        refine Sd_iadd (pc' := 552) (dc D_Law_law_7 27 rfl) rfl ?_
        refine Sd_saload (pc' := 553) (dc D_Law_law_7 28 rfl) rfl ?_
        refine Sd.callVI (ci := 12) (t := 13) (as := [_]) RX12 (pc' := 556) (dc D_Law_law_7 29 rfl) rfl rfl rfl rfl K_Mod_gain L_Law_69 Ks_Mod_gain Kv_Mod_gain ⟨by decide, by decide⟩ rfl rfl (Nat.le_of_ble_eq_true rfl) (s_Mod_gain _ _ _) (fun x119 h118 => ?_)
        refine Sd_icmp_eq (tgt := 1190) (pc' := 559) (dc D_Law_law_7 30 rfl) (by decide) rfl (fun _ => ?_) (fun _ => ?_)
        · refine Sd_iinc (pc' := 1193) (l' := [(3, _), (0, _), (1, _), (2, _)]) (dc D_Law_law_20 4 rfl) rfl 3 rfl (by decide) rfl ?_
          refine Sd_goto (tgt := 18) (dc D_Law_law_20 5 rfl) (by decide) ?_
          refine Sd.sub (l' := [(0, _), (1, _), (2, _), (3, _)]) [1, 2, 3, 0] rfl ?_
          exact s_Law_law_L18 n _ _ _ _ _
        · refine Sd_iconst (pc' := 560) (dc D_Law_law_7 31 rfl) rfl ⟨by decide, by decide⟩ ?_
          exact Sd_zret (dc D_Law_law_7 32 rfl) rfl (Or.inl rfl)
      refine Sd_tcase (i := 13) (tgt := 561) (dc D_Law_law_0 21 rfl) rfl (by decide) (by decide) (by decide) (fun _ => ?_) (fun hn13 => ?_)
      · refine Sd_aload_n (pc' := 562) (dc D_Law_law_7 33 rfl) rfl 1 rfl rfl ?_
        refine Sd_aload_n (pc' := 563) (dc D_Law_law_7 34 rfl) rfl 0 rfl rfl ?_
        refine Sd_iload_n (pc' := 564) (dc D_Law_law_7 35 rfl) rfl 3 rfl rfl ?_
        refine Sd_iconst (pc' := 565) (dc D_Law_law_7 36 rfl) rfl ⟨by decide, by decide⟩ ?_
        refine Sd_iadd (pc' := 566) (dc D_Law_law_7 37 rfl) rfl ?_
        refine Sd_saload (pc' := 567) (dc D_Law_law_7 38 rfl) rfl ?_
        refine Sd.callVI (ci := 11) (t := 12) (as := [_]) RX11 (pc' := 570) (dc D_Law_law_7 39 rfl) rfl rfl rfl rfl K_Bat_greedy L_Law_70 Ks_Bat_greedy Kv_Bat_greedy ⟨by decide, by decide⟩ rfl rfl (Nat.le_of_ble_eq_true rfl) (s_Bat_greedy _ _ _) (fun x123 h122 => ?_)
        refine Sd_aload_n (pc' := 571) (dc D_Law_law_8 0 rfl) rfl 2 rfl rfl ?_
        refine Sd_aload_n (pc' := 572) (dc D_Law_law_8 1 rfl) rfl 0 rfl rfl ?_
        refine Sd_iload_n (pc' := 573) (dc D_Law_law_8 2 rfl) rfl 3 rfl rfl ?_
        refine Sd_iconst (pc' := 574) (dc D_Law_law_8 3 rfl) rfl ⟨by decide, by decide⟩ ?_
        refine Sd_iadd (pc' := 575) (dc D_Law_law_8 4 rfl) rfl ?_
        refine Sd_saload (pc' := 576) (dc D_Law_law_8 5 rfl) rfl ?_
        refine Sd.callVI (ci := 12) (t := 13) (as := [_]) RX12 (pc' := 579) (dc D_Law_law_8 6 rfl) rfl rfl rfl rfl K_Mod_greedy L_Law_73 Ks_Mod_greedy Kv_Mod_greedy ⟨by decide, by decide⟩ rfl rfl (Nat.le_of_ble_eq_true rfl) (s_Mod_greedy _ _ _) (fun x127 h126 => ?_)
        refine Sd_icmp_eq (tgt := 1190) (pc' := 582) (dc D_Law_law_8 7 rfl) (by decide) rfl (fun _ => ?_) (fun _ => ?_)
        · refine Sd_iinc (pc' := 1193) (l' := [(3, _), (0, _), (1, _), (2, _)]) (dc D_Law_law_20 4 rfl) rfl 3 rfl (by decide) rfl ?_
          refine Sd_goto (tgt := 18) (dc D_Law_law_20 5 rfl) (by decide) ?_
          refine Sd.sub (l' := [(0, _), (1, _), (2, _), (3, _)]) [1, 2, 3, 0] rfl ?_
          exact s_Law_law_L18 n _ _ _ _ _
        · refine Sd_iconst (pc' := 583) (dc D_Law_law_8 8 rfl) rfl ⟨by decide, by decide⟩ ?_
          exact Sd_zret (dc D_Law_law_8 9 rfl) rfl (Or.inl rfl)
      refine Sd_tcase (i := 14) (tgt := 584) (dc D_Law_law_0 21 rfl) rfl (by decide) (by decide) (by decide) (fun _ => ?_) (fun hn14 => ?_)
      · refine Sd_aload_n (pc' := 585) (dc D_Law_law_8 10 rfl) rfl 1 rfl rfl ?_
        refine Sd_aload_n (pc' := 586) (dc D_Law_law_8 11 rfl) rfl 0 rfl rfl ?_
        refine Sd_iload_n (pc' := 587) (dc D_Law_law_8 12 rfl) rfl 3 rfl rfl ?_
        refine Sd_iconst (pc' := 588) (dc D_Law_law_8 13 rfl) rfl ⟨by decide, by decide⟩ ?_
        refine Sd_iadd (pc' := 589) (dc D_Law_law_8 14 rfl) rfl ?_
        refine Sd_saload (pc' := 590) (dc D_Law_law_8 15 rfl) rfl ?_
        refine Sd.callVI (ci := 11) (t := 12) (as := [_]) RX11 (pc' := 593) (dc D_Law_law_8 16 rfl) rfl rfl rfl rfl K_Bat_best L_Law_74 Ks_Bat_best Kv_Bat_best ⟨by decide, by decide⟩ rfl rfl (Nat.le_of_ble_eq_true rfl) (s_Bat_best _ _ _) (fun x131 h130 => ?_)
        refine Sd_aload_n (pc' := 594) (dc D_Law_law_8 17 rfl) rfl 2 rfl rfl ?_
        refine Sd_aload_n (pc' := 595) (dc D_Law_law_8 18 rfl) rfl 0 rfl rfl ?_
        refine Sd_iload_n (pc' := 596) (dc D_Law_law_8 19 rfl) rfl 3 rfl rfl ?_
        refine Sd_iconst (pc' := 597) (dc D_Law_law_8 20 rfl) rfl ⟨by decide, by decide⟩ ?_
        refine Sd_iadd (pc' := 598) (dc D_Law_law_8 21 rfl) rfl ?_
        refine Sd_saload (pc' := 599) (dc D_Law_law_8 22 rfl) rfl ?_
        refine Sd.callVI (ci := 12) (t := 13) (as := [_]) RX12 (pc' := 602) (dc D_Law_law_8 23 rfl) rfl rfl rfl rfl K_Mod_best L_Law_77 Ks_Mod_best Kv_Mod_best ⟨by decide, by decide⟩ rfl rfl (Nat.le_of_ble_eq_true rfl) (s_Mod_best _ _ _) (fun x135 h134 => ?_)
        refine Sd_icmp_eq (tgt := 1190) (pc' := 605) (dc D_Law_law_8 24 rfl) (by decide) rfl (fun _ => ?_) (fun _ => ?_)
        · refine Sd_iinc (pc' := 1193) (l' := [(3, _), (0, _), (1, _), (2, _)]) (dc D_Law_law_20 4 rfl) rfl 3 rfl (by decide) rfl ?_
          refine Sd_goto (tgt := 18) (dc D_Law_law_20 5 rfl) (by decide) ?_
          refine Sd.sub (l' := [(0, _), (1, _), (2, _), (3, _)]) [1, 2, 3, 0] rfl ?_
          exact s_Law_law_L18 n _ _ _ _ _
        · refine Sd_iconst (pc' := 606) (dc D_Law_law_8 25 rfl) rfl ⟨by decide, by decide⟩ ?_
          exact Sd_zret (dc D_Law_law_8 26 rfl) rfl (Or.inl rfl)
      refine Sd_tcase (i := 15) (tgt := 607) (dc D_Law_law_0 21 rfl) rfl (by decide) (by decide) (by decide) (fun _ => ?_) (fun hn15 => ?_)
      · refine Sd_aload_n (pc' := 608) (dc D_Law_law_8 27 rfl) rfl 1 rfl rfl ?_
        refine Sd_aload_n (pc' := 609) (dc D_Law_law_8 28 rfl) rfl 0 rfl rfl ?_
        refine Sd_iload_n (pc' := 610) (dc D_Law_law_8 29 rfl) rfl 3 rfl rfl ?_
        refine Sd_iconst (pc' := 611) (dc D_Law_law_8 30 rfl) rfl ⟨by decide, by decide⟩ ?_
        refine Sd_iadd (pc' := 612) (dc D_Law_law_8 31 rfl) rfl ?_
        refine Sd_saload (pc' := 613) (dc D_Law_law_8 32 rfl) rfl ?_
        refine Sd_aload_n (pc' := 614) (dc D_Law_law_8 33 rfl) rfl 0 rfl rfl ?_
        refine Sd_iload_n (pc' := 615) (dc D_Law_law_8 34 rfl) rfl 3 rfl rfl ?_
        refine Sd_iconst (pc' := 616) (dc D_Law_law_8 35 rfl) rfl ⟨by decide, by decide⟩ ?_
        refine Sd_iadd (pc' := 617) (dc D_Law_law_8 36 rfl) rfl ?_
        refine Sd_saload (pc' := 618) (dc D_Law_law_8 37 rfl) rfl ?_
        refine Sd_aload_n (pc' := 619) (dc D_Law_law_8 38 rfl) rfl 0 rfl rfl ?_
        refine Sd_iload_n (pc' := 620) (dc D_Law_law_8 39 rfl) rfl 3 rfl rfl ?_
        refine Sd_iconst (pc' := 621) (dc D_Law_law_9 0 rfl) rfl ⟨by decide, by decide⟩ ?_
        refine Sd_iadd (pc' := 622) (dc D_Law_law_9 1 rfl) rfl ?_
        refine Sd_saload (pc' := 623) (dc D_Law_law_9 2 rfl) rfl ?_
        refine Sd_aload_n (pc' := 624) (dc D_Law_law_9 3 rfl) rfl 0 rfl rfl ?_
        refine Sd_iload_n (pc' := 625) (dc D_Law_law_9 4 rfl) rfl 3 rfl rfl ?_
        refine Sd_iconst (pc' := 626) (dc D_Law_law_9 5 rfl) rfl ⟨by decide, by decide⟩ ?_
        refine Sd_iadd (pc' := 627) (dc D_Law_law_9 6 rfl) rfl ?_
        refine Sd_saload (pc' := 628) (dc D_Law_law_9 7 rfl) rfl ?_
        refine Sd.callVI (ci := 11) (t := 12) (as := [_, _, _, _]) RX11 (pc' := 631) (dc D_Law_law_9 8 rfl) rfl rfl rfl rfl K_Bat_put L_Law_78 Ks_Bat_put Kv_Bat_put ⟨by decide, by decide⟩ rfl rfl (Nat.le_of_ble_eq_true rfl) (s_Bat_put _ _ _ _ _ _) (fun x142 h141 => ?_)
        refine Sd_aload_n (pc' := 632) (dc D_Law_law_9 9 rfl) rfl 2 rfl rfl ?_
        refine Sd_aload_n (pc' := 633) (dc D_Law_law_9 10 rfl) rfl 0 rfl rfl ?_
        refine Sd_iload_n (pc' := 634) (dc D_Law_law_9 11 rfl) rfl 3 rfl rfl ?_
        refine Sd_iconst (pc' := 635) (dc D_Law_law_9 12 rfl) rfl ⟨by decide, by decide⟩ ?_
        refine Sd_iadd (pc' := 636) (dc D_Law_law_9 13 rfl) rfl ?_
        refine Sd_saload (pc' := 637) (dc D_Law_law_9 14 rfl) rfl ?_
        refine Sd_aload_n (pc' := 638) (dc D_Law_law_9 15 rfl) rfl 0 rfl rfl ?_
        refine Sd_iload_n (pc' := 639) (dc D_Law_law_9 16 rfl) rfl 3 rfl rfl ?_
        refine Sd_iconst (pc' := 640) (dc D_Law_law_9 17 rfl) rfl ⟨by decide, by decide⟩ ?_
        refine Sd_iadd (pc' := 641) (dc D_Law_law_9 18 rfl) rfl ?_
        refine Sd_saload (pc' := 642) (dc D_Law_law_9 19 rfl) rfl ?_
        refine Sd_aload_n (pc' := 643) (dc D_Law_law_9 20 rfl) rfl 0 rfl rfl ?_
        refine Sd_iload_n (pc' := 644) (dc D_Law_law_9 21 rfl) rfl 3 rfl rfl ?_
        refine Sd_iconst (pc' := 645) (dc D_Law_law_9 22 rfl) rfl ⟨by decide, by decide⟩ ?_
        refine Sd_iadd (pc' := 646) (dc D_Law_law_9 23 rfl) rfl ?_
        refine Sd_saload (pc' := 647) (dc D_Law_law_9 24 rfl) rfl ?_
        refine Sd_aload_n (pc' := 648) (dc D_Law_law_9 25 rfl) rfl 0 rfl rfl ?_
        refine Sd_iload_n (pc' := 649) (dc D_Law_law_9 26 rfl) rfl 3 rfl rfl ?_
        refine Sd_iconst (pc' := 650) (dc D_Law_law_9 27 rfl) rfl ⟨by decide, by decide⟩ ?_
        refine Sd_iadd (pc' := 651) (dc D_Law_law_9 28 rfl) rfl ?_
        refine Sd_saload (pc' := 652) (dc D_Law_law_9 29 rfl) rfl ?_
        refine Sd.callVI (ci := 12) (t := 13) (as := [_, _, _, _]) RX12 (pc' := 655) (dc D_Law_law_9 30 rfl) rfl rfl rfl rfl K_Mod_put L_Law_82 Ks_Mod_put Kv_Mod_put ⟨by decide, by decide⟩ rfl rfl (Nat.le_of_ble_eq_true rfl) (s_Mod_put _ _ _ _ _ _) (fun x149 h148 => ?_)
        refine Sd_icmp_eq (tgt := 1190) (pc' := 658) (dc D_Law_law_9 31 rfl) (by decide) rfl (fun _ => ?_) (fun _ => ?_)
        · refine Sd_iinc (pc' := 1193) (l' := [(3, _), (0, _), (1, _), (2, _)]) (dc D_Law_law_20 4 rfl) rfl 3 rfl (by decide) rfl ?_
          refine Sd_goto (tgt := 18) (dc D_Law_law_20 5 rfl) (by decide) ?_
          refine Sd.sub (l' := [(0, _), (1, _), (2, _), (3, _)]) [1, 2, 3, 0] rfl ?_
          exact s_Law_law_L18 n _ _ _ _ _
        · refine Sd_iconst (pc' := 659) (dc D_Law_law_9 32 rfl) rfl ⟨by decide, by decide⟩ ?_
          exact Sd_zret (dc D_Law_law_9 33 rfl) rfl (Or.inl rfl)
      refine Sd_tcase (i := 16) (tgt := 660) (dc D_Law_law_0 21 rfl) rfl (by decide) (by decide) (by decide) (fun _ => ?_) (fun hn16 => ?_)
      · refine Sd_aload_n (pc' := 661) (dc D_Law_law_9 34 rfl) rfl 1 rfl rfl ?_
        refine Sd_aload_n (pc' := 662) (dc D_Law_law_9 35 rfl) rfl 0 rfl rfl ?_
        refine Sd_iload_n (pc' := 663) (dc D_Law_law_9 36 rfl) rfl 3 rfl rfl ?_
        refine Sd_iconst (pc' := 664) (dc D_Law_law_9 37 rfl) rfl ⟨by decide, by decide⟩ ?_
        refine Sd_iadd (pc' := 665) (dc D_Law_law_9 38 rfl) rfl ?_
        refine Sd_saload (pc' := 666) (dc D_Law_law_9 39 rfl) rfl ?_
        refine Sd_aload_n (pc' := 667) (dc D_Law_law_10 0 rfl) rfl 0 rfl rfl ?_
        refine Sd_iload_n (pc' := 668) (dc D_Law_law_10 1 rfl) rfl 3 rfl rfl ?_
        refine Sd_iconst (pc' := 669) (dc D_Law_law_10 2 rfl) rfl ⟨by decide, by decide⟩ ?_
        refine Sd_iadd (pc' := 670) (dc D_Law_law_10 3 rfl) rfl ?_
        refine Sd_saload (pc' := 671) (dc D_Law_law_10 4 rfl) rfl ?_
        refine Sd.callVI (ci := 11) (t := 12) (as := [_, _]) RX11 (pc' := 674) (dc D_Law_law_10 5 rfl) rfl rfl rfl rfl K_Bat_remove L_Law_83 Ks_Bat_remove Kv_Bat_remove ⟨by decide, by decide⟩ rfl rfl (Nat.le_of_ble_eq_true rfl) (s_Bat_remove _ _ _ _) (fun x154 h153 => ?_)
        refine Sd_aload_n (pc' := 675) (dc D_Law_law_10 6 rfl) rfl 2 rfl rfl ?_
        refine Sd_aload_n (pc' := 676) (dc D_Law_law_10 7 rfl) rfl 0 rfl rfl ?_
        refine Sd_iload_n (pc' := 677) (dc D_Law_law_10 8 rfl) rfl 3 rfl rfl ?_
        refine Sd_iconst (pc' := 678) (dc D_Law_law_10 9 rfl) rfl ⟨by decide, by decide⟩ ?_
        refine Sd_iadd (pc' := 679) (dc D_Law_law_10 10 rfl) rfl ?_
        refine Sd_saload (pc' := 680) (dc D_Law_law_10 11 rfl) rfl ?_
        refine Sd_aload_n (pc' := 681) (dc D_Law_law_10 12 rfl) rfl 0 rfl rfl ?_
        refine Sd_iload_n (pc' := 682) (dc D_Law_law_10 13 rfl) rfl 3 rfl rfl ?_
        refine Sd_iconst (pc' := 683) (dc D_Law_law_10 14 rfl) rfl ⟨by decide, by decide⟩ ?_
        refine Sd_iadd (pc' := 684) (dc D_Law_law_10 15 rfl) rfl ?_
        refine Sd_saload (pc' := 685) (dc D_Law_law_10 16 rfl) rfl ?_
        refine Sd.callVI (ci := 12) (t := 13) (as := [_, _]) RX12 (pc' := 688) (dc D_Law_law_10 17 rfl) rfl rfl rfl rfl K_Mod_remove L_Law_86 Ks_Mod_remove Kv_Mod_remove ⟨by decide, by decide⟩ rfl rfl (Nat.le_of_ble_eq_true rfl) (s_Mod_remove _ _ _ _) (fun x159 h158 => ?_)
        refine Sd_icmp_eq (tgt := 1190) (pc' := 691) (dc D_Law_law_10 18 rfl) (by decide) rfl (fun _ => ?_) (fun _ => ?_)
        · refine Sd_iinc (pc' := 1193) (l' := [(3, _), (0, _), (1, _), (2, _)]) (dc D_Law_law_20 4 rfl) rfl 3 rfl (by decide) rfl ?_
          refine Sd_goto (tgt := 18) (dc D_Law_law_20 5 rfl) (by decide) ?_
          refine Sd.sub (l' := [(0, _), (1, _), (2, _), (3, _)]) [1, 2, 3, 0] rfl ?_
          exact s_Law_law_L18 n _ _ _ _ _
        · refine Sd_iconst (pc' := 692) (dc D_Law_law_10 19 rfl) rfl ⟨by decide, by decide⟩ ?_
          exact Sd_zret (dc D_Law_law_10 20 rfl) rfl (Or.inl rfl)
      refine Sd_tcase (i := 17) (tgt := 693) (dc D_Law_law_0 21 rfl) rfl (by decide) (by decide) (by decide) (fun _ => ?_) (fun hn17 => ?_)
      · refine Sd_aload_n (pc' := 694) (dc D_Law_law_10 21 rfl) rfl 1 rfl rfl ?_
        refine Sd_aload_n (pc' := 695) (dc D_Law_law_10 22 rfl) rfl 0 rfl rfl ?_
        refine Sd_iload_n (pc' := 696) (dc D_Law_law_10 23 rfl) rfl 3 rfl rfl ?_
        refine Sd_iconst (pc' := 697) (dc D_Law_law_10 24 rfl) rfl ⟨by decide, by decide⟩ ?_
        refine Sd_iadd (pc' := 698) (dc D_Law_law_10 25 rfl) rfl ?_
        refine Sd_saload (pc' := 699) (dc D_Law_law_10 26 rfl) rfl ?_
        refine Sd_aload_n (pc' := 700) (dc D_Law_law_10 27 rfl) rfl 0 rfl rfl ?_
        refine Sd_iload_n (pc' := 701) (dc D_Law_law_10 28 rfl) rfl 3 rfl rfl ?_
        refine Sd_iconst (pc' := 702) (dc D_Law_law_10 29 rfl) rfl ⟨by decide, by decide⟩ ?_
        refine Sd_iadd (pc' := 703) (dc D_Law_law_10 30 rfl) rfl ?_
        refine Sd_saload (pc' := 704) (dc D_Law_law_10 31 rfl) rfl ?_
        refine Sd_aload_n (pc' := 705) (dc D_Law_law_10 32 rfl) rfl 0 rfl rfl ?_
        refine Sd_iload_n (pc' := 706) (dc D_Law_law_10 33 rfl) rfl 3 rfl rfl ?_
        refine Sd_iconst (pc' := 707) (dc D_Law_law_10 34 rfl) rfl ⟨by decide, by decide⟩ ?_
        refine Sd_iadd (pc' := 708) (dc D_Law_law_10 35 rfl) rfl ?_
        refine Sd_saload (pc' := 709) (dc D_Law_law_10 36 rfl) rfl ?_
        refine Sd_aload_n (pc' := 710) (dc D_Law_law_10 37 rfl) rfl 0 rfl rfl ?_
        refine Sd_iload_n (pc' := 711) (dc D_Law_law_10 38 rfl) rfl 3 rfl rfl ?_
        refine Sd_iconst (pc' := 712) (dc D_Law_law_10 39 rfl) rfl ⟨by decide, by decide⟩ ?_
        refine Sd_iadd (pc' := 713) (dc D_Law_law_11 0 rfl) rfl ?_
        refine Sd_saload (pc' := 714) (dc D_Law_law_11 1 rfl) rfl ?_
        refine Sd.callVI (ci := 11) (t := 12) (as := [_, _, _, _]) RX11 (pc' := 717) (dc D_Law_law_11 2 rfl) rfl rfl rfl rfl K_Bat_change L_Law_87 Ks_Bat_change Kv_Bat_change ⟨by decide, by decide⟩ rfl rfl (Nat.le_of_ble_eq_true rfl) (s_Bat_change _ _ _ _ _ _) (fun x166 h165 => ?_)
        refine Sd_aload_n (pc' := 718) (dc D_Law_law_11 3 rfl) rfl 2 rfl rfl ?_
        refine Sd_aload_n (pc' := 719) (dc D_Law_law_11 4 rfl) rfl 0 rfl rfl ?_
        refine Sd_iload_n (pc' := 720) (dc D_Law_law_11 5 rfl) rfl 3 rfl rfl ?_
        refine Sd_iconst (pc' := 721) (dc D_Law_law_11 6 rfl) rfl ⟨by decide, by decide⟩ ?_
        refine Sd_iadd (pc' := 722) (dc D_Law_law_11 7 rfl) rfl ?_
        refine Sd_saload (pc' := 723) (dc D_Law_law_11 8 rfl) rfl ?_
        refine Sd_aload_n (pc' := 724) (dc D_Law_law_11 9 rfl) rfl 0 rfl rfl ?_
        refine Sd_iload_n (pc' := 725) (dc D_Law_law_11 10 rfl) rfl 3 rfl rfl ?_
        refine Sd_iconst (pc' := 726) (dc D_Law_law_11 11 rfl) rfl ⟨by decide, by decide⟩ ?_
        refine Sd_iadd (pc' := 727) (dc D_Law_law_11 12 rfl) rfl ?_
        refine Sd_saload (pc' := 728) (dc D_Law_law_11 13 rfl) rfl ?_
        refine Sd_aload_n (pc' := 729) (dc D_Law_law_11 14 rfl) rfl 0 rfl rfl ?_
        refine Sd_iload_n (pc' := 730) (dc D_Law_law_11 15 rfl) rfl 3 rfl rfl ?_
        refine Sd_iconst (pc' := 731) (dc D_Law_law_11 16 rfl) rfl ⟨by decide, by decide⟩ ?_
        refine Sd_iadd (pc' := 732) (dc D_Law_law_11 17 rfl) rfl ?_
        refine Sd_saload (pc' := 733) (dc D_Law_law_11 18 rfl) rfl ?_
        refine Sd_aload_n (pc' := 734) (dc D_Law_law_11 19 rfl) rfl 0 rfl rfl ?_
        refine Sd_iload_n (pc' := 735) (dc D_Law_law_11 20 rfl) rfl 3 rfl rfl ?_
        refine Sd_iconst (pc' := 736) (dc D_Law_law_11 21 rfl) rfl ⟨by decide, by decide⟩ ?_
        refine Sd_iadd (pc' := 737) (dc D_Law_law_11 22 rfl) rfl ?_
        refine Sd_saload (pc' := 738) (dc D_Law_law_11 23 rfl) rfl ?_
        refine Sd.callVI (ci := 12) (t := 13) (as := [_, _, _, _]) RX12 (pc' := 741) (dc D_Law_law_11 24 rfl) rfl rfl rfl rfl K_Mod_change L_Law_90 Ks_Mod_change Kv_Mod_change ⟨by decide, by decide⟩ rfl rfl (Nat.le_of_ble_eq_true rfl) (s_Mod_change _ _ _ _ _ _) (fun x173 h172 => ?_)
        refine Sd_icmp_eq (tgt := 1190) (pc' := 744) (dc D_Law_law_11 25 rfl) (by decide) rfl (fun _ => ?_) (fun _ => ?_)
        · refine Sd_iinc (pc' := 1193) (l' := [(3, _), (0, _), (1, _), (2, _)]) (dc D_Law_law_20 4 rfl) rfl 3 rfl (by decide) rfl ?_
          refine Sd_goto (tgt := 18) (dc D_Law_law_20 5 rfl) (by decide) ?_
          refine Sd.sub (l' := [(0, _), (1, _), (2, _), (3, _)]) [1, 2, 3, 0] rfl ?_
          exact s_Law_law_L18 n _ _ _ _ _
        · refine Sd_iconst (pc' := 745) (dc D_Law_law_11 26 rfl) rfl ⟨by decide, by decide⟩ ?_
          exact Sd_zret (dc D_Law_law_11 27 rfl) rfl (Or.inl rfl)
      refine Sd_tcase (i := 18) (tgt := 746) (dc D_Law_law_0 21 rfl) rfl (by decide) (by decide) (by decide) (fun _ => ?_) (fun hn18 => ?_)
      · refine Sd_aload_n (pc' := 747) (dc D_Law_law_11 28 rfl) rfl 1 rfl rfl ?_
        refine Sd_aload_n (pc' := 748) (dc D_Law_law_11 29 rfl) rfl 0 rfl rfl ?_
        refine Sd_iload_n (pc' := 749) (dc D_Law_law_11 30 rfl) rfl 3 rfl rfl ?_
        refine Sd_iconst (pc' := 750) (dc D_Law_law_11 31 rfl) rfl ⟨by decide, by decide⟩ ?_
        refine Sd_iadd (pc' := 751) (dc D_Law_law_11 32 rfl) rfl ?_
        refine Sd_saload (pc' := 752) (dc D_Law_law_11 33 rfl) rfl ?_
        refine Sd.callVI (ci := 11) (t := 12) (as := [_]) RX11 (pc' := 755) (dc D_Law_law_11 34 rfl) rfl rfl rfl rfl K_Bat_strike L_Law_91 Ks_Bat_strike Kv_Bat_strike ⟨by decide, by decide⟩ rfl rfl (Nat.le_of_ble_eq_true rfl) (s_Bat_strike _ _ _) (fun x177 h176 => ?_)
        refine Sd_aload_n (pc' := 756) (dc D_Law_law_11 35 rfl) rfl 2 rfl rfl ?_
        refine Sd_aload_n (pc' := 757) (dc D_Law_law_11 36 rfl) rfl 0 rfl rfl ?_
        refine Sd_iload_n (pc' := 758) (dc D_Law_law_11 37 rfl) rfl 3 rfl rfl ?_
        refine Sd_iconst (pc' := 759) (dc D_Law_law_11 38 rfl) rfl ⟨by decide, by decide⟩ ?_
        refine Sd_iadd (pc' := 760) (dc D_Law_law_11 39 rfl) rfl ?_
        refine Sd_saload (pc' := 761) (dc D_Law_law_12 0 rfl) rfl ?_
        refine Sd.callVI (ci := 12) (t := 13) (as := [_]) RX12 (pc' := 764) (dc D_Law_law_12 1 rfl) rfl rfl rfl rfl K_Mod_strike L_Law_94 Ks_Mod_strike Kv_Mod_strike ⟨by decide, by decide⟩ rfl rfl (Nat.le_of_ble_eq_true rfl) (s_Mod_strike _ _ _) (fun x181 h180 => ?_)
        refine Sd_icmp_eq (tgt := 1190) (pc' := 767) (dc D_Law_law_12 2 rfl) (by decide) rfl (fun _ => ?_) (fun _ => ?_)
        · refine Sd_iinc (pc' := 1193) (l' := [(3, _), (0, _), (1, _), (2, _)]) (dc D_Law_law_20 4 rfl) rfl 3 rfl (by decide) rfl ?_
          refine Sd_goto (tgt := 18) (dc D_Law_law_20 5 rfl) (by decide) ?_
          refine Sd.sub (l' := [(0, _), (1, _), (2, _), (3, _)]) [1, 2, 3, 0] rfl ?_
          exact s_Law_law_L18 n _ _ _ _ _
        · refine Sd_iconst (pc' := 768) (dc D_Law_law_12 3 rfl) rfl ⟨by decide, by decide⟩ ?_
          exact Sd_zret (dc D_Law_law_12 4 rfl) rfl (Or.inl rfl)
      refine Sd_tcase (i := 19) (tgt := 769) (dc D_Law_law_0 21 rfl) rfl (by decide) (by decide) (by decide) (fun _ => ?_) (fun hn19 => ?_)
      · refine Sd_aload_n (pc' := 770) (dc D_Law_law_12 5 rfl) rfl 1 rfl rfl ?_
        refine Sd_aload_n (pc' := 771) (dc D_Law_law_12 6 rfl) rfl 0 rfl rfl ?_
        refine Sd_iload_n (pc' := 772) (dc D_Law_law_12 7 rfl) rfl 3 rfl rfl ?_
        refine Sd_iconst (pc' := 773) (dc D_Law_law_12 8 rfl) rfl ⟨by decide, by decide⟩ ?_
        refine Sd_iadd (pc' := 774) (dc D_Law_law_12 9 rfl) rfl ?_
        refine Sd_saload (pc' := 775) (dc D_Law_law_12 10 rfl) rfl ?_
        refine Sd.callVI (ci := 11) (t := 12) (as := [_]) RX11 (pc' := 778) (dc D_Law_law_12 11 rfl) rfl rfl rfl rfl K_Bat_keep L_Law_95 Ks_Bat_keep Kv_Bat_keep ⟨by decide, by decide⟩ rfl rfl (Nat.le_of_ble_eq_true rfl) (s_Bat_keep _ _ _) (fun x185 h184 => ?_)
        refine Sd_aload_n (pc' := 779) (dc D_Law_law_12 12 rfl) rfl 2 rfl rfl ?_
        refine Sd_aload_n (pc' := 780) (dc D_Law_law_12 13 rfl) rfl 0 rfl rfl ?_
        refine Sd_iload_n (pc' := 781) (dc D_Law_law_12 14 rfl) rfl 3 rfl rfl ?_
        refine Sd_iconst (pc' := 782) (dc D_Law_law_12 15 rfl) rfl ⟨by decide, by decide⟩ ?_
        refine Sd_iadd (pc' := 783) (dc D_Law_law_12 16 rfl) rfl ?_
        refine Sd_saload (pc' := 784) (dc D_Law_law_12 17 rfl) rfl ?_
        refine Sd.callVI (ci := 12) (t := 13) (as := [_]) RX12 (pc' := 787) (dc D_Law_law_12 18 rfl) rfl rfl rfl rfl K_Mod_keep L_Law_98 Ks_Mod_keep Kv_Mod_keep ⟨by decide, by decide⟩ rfl rfl (Nat.le_of_ble_eq_true rfl) (s_Mod_keep _ _ _) (fun x189 h188 => ?_)
        refine Sd_icmp_eq (tgt := 1190) (pc' := 790) (dc D_Law_law_12 19 rfl) (by decide) rfl (fun _ => ?_) (fun _ => ?_)
        · refine Sd_iinc (pc' := 1193) (l' := [(3, _), (0, _), (1, _), (2, _)]) (dc D_Law_law_20 4 rfl) rfl 3 rfl (by decide) rfl ?_
          refine Sd_goto (tgt := 18) (dc D_Law_law_20 5 rfl) (by decide) ?_
          refine Sd.sub (l' := [(0, _), (1, _), (2, _), (3, _)]) [1, 2, 3, 0] rfl ?_
          exact s_Law_law_L18 n _ _ _ _ _
        · refine Sd_iconst (pc' := 791) (dc D_Law_law_12 20 rfl) rfl ⟨by decide, by decide⟩ ?_
          exact Sd_zret (dc D_Law_law_12 21 rfl) rfl (Or.inl rfl)
      refine Sd_tcase (i := 20) (tgt := 792) (dc D_Law_law_0 21 rfl) rfl (by decide) (by decide) (by decide) (fun _ => ?_) (fun hn20 => ?_)
      · refine Sd_aload_n (pc' := 793) (dc D_Law_law_12 22 rfl) rfl 1 rfl rfl ?_
        refine Sd_aload_n (pc' := 794) (dc D_Law_law_12 23 rfl) rfl 0 rfl rfl ?_
        refine Sd_iload_n (pc' := 795) (dc D_Law_law_12 24 rfl) rfl 3 rfl rfl ?_
        refine Sd_iconst (pc' := 796) (dc D_Law_law_12 25 rfl) rfl ⟨by decide, by decide⟩ ?_
        refine Sd_iadd (pc' := 797) (dc D_Law_law_12 26 rfl) rfl ?_
        refine Sd_saload (pc' := 798) (dc D_Law_law_12 27 rfl) rfl ?_
        refine Sd.callVI (ci := 11) (t := 12) (as := [_]) RX11 (pc' := 801) (dc D_Law_law_12 28 rfl) rfl rfl rfl rfl K_Bat_forget L_Law_99 Ks_Bat_forget Kv_Bat_forget ⟨by decide, by decide⟩ rfl rfl (Nat.le_of_ble_eq_true rfl) (s_Bat_forget _ _ _) (fun x193 h192 => ?_)
        refine Sd_aload_n (pc' := 802) (dc D_Law_law_12 29 rfl) rfl 2 rfl rfl ?_
        refine Sd_aload_n (pc' := 803) (dc D_Law_law_12 30 rfl) rfl 0 rfl rfl ?_
        refine Sd_iload_n (pc' := 804) (dc D_Law_law_12 31 rfl) rfl 3 rfl rfl ?_
        refine Sd_iconst (pc' := 805) (dc D_Law_law_12 32 rfl) rfl ⟨by decide, by decide⟩ ?_
        refine Sd_iadd (pc' := 806) (dc D_Law_law_12 33 rfl) rfl ?_
        refine Sd_saload (pc' := 807) (dc D_Law_law_12 34 rfl) rfl ?_
        refine Sd.callVI (ci := 12) (t := 13) (as := [_]) RX12 (pc' := 810) (dc D_Law_law_12 35 rfl) rfl rfl rfl rfl K_Mod_forget L_Law_102 Ks_Mod_forget Kv_Mod_forget ⟨by decide, by decide⟩ rfl rfl (Nat.le_of_ble_eq_true rfl) (s_Mod_forget _ _ _) (fun x197 h196 => ?_)
        refine Sd_icmp_eq (tgt := 1190) (pc' := 813) (dc D_Law_law_12 36 rfl) (by decide) rfl (fun _ => ?_) (fun _ => ?_)
        · refine Sd_iinc (pc' := 1193) (l' := [(3, _), (0, _), (1, _), (2, _)]) (dc D_Law_law_20 4 rfl) rfl 3 rfl (by decide) rfl ?_
          refine Sd_goto (tgt := 18) (dc D_Law_law_20 5 rfl) (by decide) ?_
          refine Sd.sub (l' := [(0, _), (1, _), (2, _), (3, _)]) [1, 2, 3, 0] rfl ?_
          exact s_Law_law_L18 n _ _ _ _ _
        · refine Sd_iconst (pc' := 814) (dc D_Law_law_12 37 rfl) rfl ⟨by decide, by decide⟩ ?_
          exact Sd_zret (dc D_Law_law_12 38 rfl) rfl (Or.inl rfl)
      refine Sd_tcase (i := 21) (tgt := 815) (dc D_Law_law_0 21 rfl) rfl (by decide) (by decide) (by decide) (fun _ => ?_) (fun hn21 => ?_)
      · refine Sd_aload_n (pc' := 816) (dc D_Law_law_12 39 rfl) rfl 1 rfl rfl ?_
        refine Sd_aload_n (pc' := 817) (dc D_Law_law_13 0 rfl) rfl 0 rfl rfl ?_
        refine Sd_iload_n (pc' := 818) (dc D_Law_law_13 1 rfl) rfl 3 rfl rfl ?_
        refine Sd_iconst (pc' := 819) (dc D_Law_law_13 2 rfl) rfl ⟨by decide, by decide⟩ ?_
        refine Sd_iadd (pc' := 820) (dc D_Law_law_13 3 rfl) rfl ?_
        refine Sd_saload (pc' := 821) (dc D_Law_law_13 4 rfl) rfl ?_
        refine Sd.callVI (ci := 11) (t := 12) (as := [_]) RX11 (pc' := 824) (dc D_Law_law_13 5 rfl) rfl rfl rfl rfl K_Bat_refresh L_Law_103 Ks_Bat_refresh Kv_Bat_refresh ⟨by decide, by decide⟩ rfl rfl (Nat.le_of_ble_eq_true rfl) (s_Bat_refresh _ _ _) (fun x201 h200 => ?_)
        refine Sd_aload_n (pc' := 825) (dc D_Law_law_13 6 rfl) rfl 2 rfl rfl ?_
        refine Sd_aload_n (pc' := 826) (dc D_Law_law_13 7 rfl) rfl 0 rfl rfl ?_
        refine Sd_iload_n (pc' := 827) (dc D_Law_law_13 8 rfl) rfl 3 rfl rfl ?_
        refine Sd_iconst (pc' := 828) (dc D_Law_law_13 9 rfl) rfl ⟨by decide, by decide⟩ ?_
        refine Sd_iadd (pc' := 829) (dc D_Law_law_13 10 rfl) rfl ?_
        refine Sd_saload (pc' := 830) (dc D_Law_law_13 11 rfl) rfl ?_
        refine Sd.callVI (ci := 12) (t := 13) (as := [_]) RX12 (pc' := 833) (dc D_Law_law_13 12 rfl) rfl rfl rfl rfl K_Mod_refresh L_Law_106 Ks_Mod_refresh Kv_Mod_refresh ⟨by decide, by decide⟩ rfl rfl (Nat.le_of_ble_eq_true rfl) (s_Mod_refresh _ _ _) (fun x205 h204 => ?_)
        refine Sd_icmp_eq (tgt := 1190) (pc' := 836) (dc D_Law_law_13 13 rfl) (by decide) rfl (fun _ => ?_) (fun _ => ?_)
        · refine Sd_iinc (pc' := 1193) (l' := [(3, _), (0, _), (1, _), (2, _)]) (dc D_Law_law_20 4 rfl) rfl 3 rfl (by decide) rfl ?_
          refine Sd_goto (tgt := 18) (dc D_Law_law_20 5 rfl) (by decide) ?_
          refine Sd.sub (l' := [(0, _), (1, _), (2, _), (3, _)]) [1, 2, 3, 0] rfl ?_
          exact s_Law_law_L18 n _ _ _ _ _
        · refine Sd_iconst (pc' := 837) (dc D_Law_law_13 14 rfl) rfl ⟨by decide, by decide⟩ ?_
          exact Sd_zret (dc D_Law_law_13 15 rfl) rfl (Or.inl rfl)
      refine Sd_tcase (i := 22) (tgt := 838) (dc D_Law_law_0 21 rfl) rfl (by decide) (by decide) (by decide) (fun _ => ?_) (fun hn22 => ?_)
      · refine Sd_aload_n (pc' := 839) (dc D_Law_law_13 16 rfl) rfl 1 rfl rfl ?_
        refine Sd.callVI (ci := 11) (t := 12) (as := []) RX11 (pc' := 842) (dc D_Law_law_13 17 rfl) rfl rfl rfl rfl K_Bat_run L_Law_107 Ks_Bat_run Kv_Bat_run ⟨by decide, by decide⟩ rfl rfl (Nat.le_of_ble_eq_true rfl) (s_Bat_run _ _) (fun x208 h207 => ?_)
        refine Sd_aload_n (pc' := 843) (dc D_Law_law_13 18 rfl) rfl 2 rfl rfl ?_
        refine Sd.callVI (ci := 12) (t := 13) (as := []) RX12 (pc' := 846) (dc D_Law_law_13 19 rfl) rfl rfl rfl rfl K_Mod_run L_Law_110 Ks_Mod_run Kv_Mod_run ⟨by decide, by decide⟩ rfl rfl (Nat.le_of_ble_eq_true rfl) (s_Mod_run _ _) (fun x211 h210 => ?_)
        refine Sd_icmp_eq (tgt := 1190) (pc' := 849) (dc D_Law_law_13 20 rfl) (by decide) rfl (fun _ => ?_) (fun _ => ?_)
        · refine Sd_iinc (pc' := 1193) (l' := [(3, _), (0, _), (1, _), (2, _)]) (dc D_Law_law_20 4 rfl) rfl 3 rfl (by decide) rfl ?_
          refine Sd_goto (tgt := 18) (dc D_Law_law_20 5 rfl) (by decide) ?_
          refine Sd.sub (l' := [(0, _), (1, _), (2, _), (3, _)]) [1, 2, 3, 0] rfl ?_
          exact s_Law_law_L18 n _ _ _ _ _
        · refine Sd_iconst (pc' := 850) (dc D_Law_law_13 21 rfl) rfl ⟨by decide, by decide⟩ ?_
          exact Sd_zret (dc D_Law_law_13 22 rfl) rfl (Or.inl rfl)
      refine Sd_tcase (i := 23) (tgt := 851) (dc D_Law_law_0 21 rfl) rfl (by decide) (by decide) (by decide) (fun _ => ?_) (fun hn23 => ?_)
      · refine Sd_aload_n (pc' := 852) (dc D_Law_law_13 23 rfl) rfl 1 rfl rfl ?_
        refine Sd.callVI (ci := 11) (t := 12) (as := []) RX11 (pc' := 855) (dc D_Law_law_13 24 rfl) rfl rfl rfl rfl K_Bat_undo L_Law_111 Ks_Bat_undo Kv_Bat_undo ⟨by decide, by decide⟩ rfl rfl (Nat.le_of_ble_eq_true rfl) (s_Bat_undo _ _) (fun x214 h213 => ?_)
        refine Sd_aload_n (pc' := 856) (dc D_Law_law_13 25 rfl) rfl 2 rfl rfl ?_
        refine Sd.callVI (ci := 12) (t := 13) (as := []) RX12 (pc' := 859) (dc D_Law_law_13 26 rfl) rfl rfl rfl rfl K_Mod_undo L_Law_114 Ks_Mod_undo Kv_Mod_undo ⟨by decide, by decide⟩ rfl rfl (Nat.le_of_ble_eq_true rfl) (s_Mod_undo _ _) (fun x217 h216 => ?_)
        refine Sd_icmp_eq (tgt := 1190) (pc' := 862) (dc D_Law_law_13 27 rfl) (by decide) rfl (fun _ => ?_) (fun _ => ?_)
        · refine Sd_iinc (pc' := 1193) (l' := [(3, _), (0, _), (1, _), (2, _)]) (dc D_Law_law_20 4 rfl) rfl 3 rfl (by decide) rfl ?_
          refine Sd_goto (tgt := 18) (dc D_Law_law_20 5 rfl) (by decide) ?_
          refine Sd.sub (l' := [(0, _), (1, _), (2, _), (3, _)]) [1, 2, 3, 0] rfl ?_
          exact s_Law_law_L18 n _ _ _ _ _
        · refine Sd_iconst (pc' := 863) (dc D_Law_law_13 28 rfl) rfl ⟨by decide, by decide⟩ ?_
          exact Sd_zret (dc D_Law_law_13 29 rfl) rfl (Or.inl rfl)
      refine Sd_tcase (i := 24) (tgt := 864) (dc D_Law_law_0 21 rfl) rfl (by decide) (by decide) (by decide) (fun _ => ?_) (fun hn24 => ?_)
      · refine Sd_aload_n (pc' := 865) (dc D_Law_law_13 30 rfl) rfl 1 rfl rfl ?_
        refine Sd_aload_n (pc' := 866) (dc D_Law_law_13 31 rfl) rfl 0 rfl rfl ?_
        refine Sd_iload_n (pc' := 867) (dc D_Law_law_13 32 rfl) rfl 3 rfl rfl ?_
        refine Sd_iconst (pc' := 868) (dc D_Law_law_13 33 rfl) rfl ⟨by decide, by decide⟩ ?_
        refine Sd_iadd (pc' := 869) (dc D_Law_law_13 34 rfl) rfl ?_
        refine Sd_saload (pc' := 870) (dc D_Law_law_13 35 rfl) rfl ?_
        refine Sd_aload_n (pc' := 871) (dc D_Law_law_13 36 rfl) rfl 0 rfl rfl ?_
        refine Sd_iload_n (pc' := 872) (dc D_Law_law_13 37 rfl) rfl 3 rfl rfl ?_
        refine Sd_iconst (pc' := 873) (dc D_Law_law_13 38 rfl) rfl ⟨by decide, by decide⟩ ?_
        refine Sd_iadd (pc' := 874) (dc D_Law_law_13 39 rfl) rfl ?_
        refine Sd_saload (pc' := 875) (dc D_Law_law_14 0 rfl) rfl ?_
        refine Sd.callVI (ci := 11) (t := 12) (as := [_, _]) RX11 (pc' := 878) (dc D_Law_law_14 1 rfl) rfl rfl rfl rfl K_Bat_kept L_Law_115 Ks_Bat_kept Kv_Bat_kept ⟨by decide, by decide⟩ rfl rfl (Nat.le_of_ble_eq_true rfl) (s_Bat_kept _ _ _ _) (fun x222 h221 => ?_)
        refine Sd_aload_n (pc' := 879) (dc D_Law_law_14 2 rfl) rfl 2 rfl rfl ?_
        refine Sd_aload_n (pc' := 880) (dc D_Law_law_14 3 rfl) rfl 0 rfl rfl ?_
        refine Sd_iload_n (pc' := 881) (dc D_Law_law_14 4 rfl) rfl 3 rfl rfl ?_
        refine Sd_iconst (pc' := 882) (dc D_Law_law_14 5 rfl) rfl ⟨by decide, by decide⟩ ?_
        refine Sd_iadd (pc' := 883) (dc D_Law_law_14 6 rfl) rfl ?_
        refine Sd_saload (pc' := 884) (dc D_Law_law_14 7 rfl) rfl ?_
        refine Sd_aload_n (pc' := 885) (dc D_Law_law_14 8 rfl) rfl 0 rfl rfl ?_
        refine Sd_iload_n (pc' := 886) (dc D_Law_law_14 9 rfl) rfl 3 rfl rfl ?_
        refine Sd_iconst (pc' := 887) (dc D_Law_law_14 10 rfl) rfl ⟨by decide, by decide⟩ ?_
        refine Sd_iadd (pc' := 888) (dc D_Law_law_14 11 rfl) rfl ?_
        refine Sd_saload (pc' := 889) (dc D_Law_law_14 12 rfl) rfl ?_
        refine Sd.callVI (ci := 12) (t := 13) (as := [_, _]) RX12 (pc' := 892) (dc D_Law_law_14 13 rfl) rfl rfl rfl rfl K_Mod_kept L_Law_118 Ks_Mod_kept Kv_Mod_kept ⟨by decide, by decide⟩ rfl rfl (Nat.le_of_ble_eq_true rfl) (s_Mod_kept _ _ _ _) (fun x227 h226 => ?_)
        refine Sd_icmp_eq (tgt := 1190) (pc' := 895) (dc D_Law_law_14 14 rfl) (by decide) rfl (fun _ => ?_) (fun _ => ?_)
        · refine Sd_iinc (pc' := 1193) (l' := [(3, _), (0, _), (1, _), (2, _)]) (dc D_Law_law_20 4 rfl) rfl 3 rfl (by decide) rfl ?_
          refine Sd_goto (tgt := 18) (dc D_Law_law_20 5 rfl) (by decide) ?_
          refine Sd.sub (l' := [(0, _), (1, _), (2, _), (3, _)]) [1, 2, 3, 0] rfl ?_
          exact s_Law_law_L18 n _ _ _ _ _
        · refine Sd_iconst (pc' := 896) (dc D_Law_law_14 15 rfl) rfl ⟨by decide, by decide⟩ ?_
          exact Sd_zret (dc D_Law_law_14 16 rfl) rfl (Or.inl rfl)
      refine Sd_tcase (i := 25) (tgt := 897) (dc D_Law_law_0 21 rfl) rfl (by decide) (by decide) (by decide) (fun _ => ?_) (fun hn25 => ?_)
      · refine Sd_aload_n (pc' := 898) (dc D_Law_law_14 17 rfl) rfl 1 rfl rfl ?_
        refine Sd.callVI (ci := 11) (t := 12) (as := []) RX11 (pc' := 901) (dc D_Law_law_14 18 rfl) rfl rfl rfl rfl K_Bat_batch L_Law_119 Ks_Bat_batch Kv_Bat_batch ⟨by decide, by decide⟩ rfl rfl (Nat.le_of_ble_eq_true rfl) (s_Bat_batch _ _) (fun x230 h229 => ?_)
        refine Sd_aload_n (pc' := 902) (dc D_Law_law_14 19 rfl) rfl 2 rfl rfl ?_
        refine Sd.callVI (ci := 12) (t := 13) (as := []) RX12 (pc' := 905) (dc D_Law_law_14 20 rfl) rfl rfl rfl rfl K_Mod_batch L_Law_122 Ks_Mod_batch Kv_Mod_batch ⟨by decide, by decide⟩ rfl rfl (Nat.le_of_ble_eq_true rfl) (s_Mod_batch _ _) (fun x233 h232 => ?_)
        refine Sd_icmp_eq (tgt := 1190) (pc' := 908) (dc D_Law_law_14 21 rfl) (by decide) rfl (fun _ => ?_) (fun _ => ?_)
        · refine Sd_iinc (pc' := 1193) (l' := [(3, _), (0, _), (1, _), (2, _)]) (dc D_Law_law_20 4 rfl) rfl 3 rfl (by decide) rfl ?_
          refine Sd_goto (tgt := 18) (dc D_Law_law_20 5 rfl) (by decide) ?_
          refine Sd.sub (l' := [(0, _), (1, _), (2, _), (3, _)]) [1, 2, 3, 0] rfl ?_
          exact s_Law_law_L18 n _ _ _ _ _
        · refine Sd_iconst (pc' := 909) (dc D_Law_law_14 22 rfl) rfl ⟨by decide, by decide⟩ ?_
          exact Sd_zret (dc D_Law_law_14 23 rfl) rfl (Or.inl rfl)
      refine Sd_tcase (i := 26) (tgt := 910) (dc D_Law_law_0 21 rfl) rfl (by decide) (by decide) (by decide) (fun _ => ?_) (fun hn26 => ?_)
      · refine Sd_aload_n (pc' := 911) (dc D_Law_law_14 24 rfl) rfl 1 rfl rfl ?_
        refine Sd_aload_n (pc' := 912) (dc D_Law_law_14 25 rfl) rfl 0 rfl rfl ?_
        refine Sd_iload_n (pc' := 913) (dc D_Law_law_14 26 rfl) rfl 3 rfl rfl ?_
        refine Sd_iconst (pc' := 914) (dc D_Law_law_14 27 rfl) rfl ⟨by decide, by decide⟩ ?_
        refine Sd_iadd (pc' := 915) (dc D_Law_law_14 28 rfl) rfl ?_
        refine Sd_saload (pc' := 916) (dc D_Law_law_14 29 rfl) rfl ?_
        refine Sd.callVI (ci := 11) (t := 12) (as := [_]) RX11 (pc' := 919) (dc D_Law_law_14 30 rfl) rfl rfl rfl rfl K_Bat_costs L_Law_123 Ks_Bat_costs Kv_Bat_costs ⟨by decide, by decide⟩ rfl rfl (Nat.le_of_ble_eq_true rfl) (s_Bat_costs _ _ _) (fun x237 h236 => ?_)
        refine Sd_aload_n (pc' := 920) (dc D_Law_law_14 31 rfl) rfl 2 rfl rfl ?_
        refine Sd_aload_n (pc' := 921) (dc D_Law_law_14 32 rfl) rfl 0 rfl rfl ?_
        refine Sd_iload_n (pc' := 922) (dc D_Law_law_14 33 rfl) rfl 3 rfl rfl ?_
        refine Sd_iconst (pc' := 923) (dc D_Law_law_14 34 rfl) rfl ⟨by decide, by decide⟩ ?_
        refine Sd_iadd (pc' := 924) (dc D_Law_law_14 35 rfl) rfl ?_
        refine Sd_saload (pc' := 925) (dc D_Law_law_14 36 rfl) rfl ?_
        refine Sd.callVI (ci := 12) (t := 13) (as := [_]) RX12 (pc' := 928) (dc D_Law_law_14 37 rfl) rfl rfl rfl rfl K_Mod_costs L_Law_126 Ks_Mod_costs Kv_Mod_costs ⟨by decide, by decide⟩ rfl rfl (Nat.le_of_ble_eq_true rfl) (s_Mod_costs _ _ _) (fun x241 h240 => ?_)
        refine Sd_icmp_eq (tgt := 1190) (pc' := 931) (dc D_Law_law_14 38 rfl) (by decide) rfl (fun _ => ?_) (fun _ => ?_)
        · refine Sd_iinc (pc' := 1193) (l' := [(3, _), (0, _), (1, _), (2, _)]) (dc D_Law_law_20 4 rfl) rfl 3 rfl (by decide) rfl ?_
          refine Sd_goto (tgt := 18) (dc D_Law_law_20 5 rfl) (by decide) ?_
          refine Sd.sub (l' := [(0, _), (1, _), (2, _), (3, _)]) [1, 2, 3, 0] rfl ?_
          exact s_Law_law_L18 n _ _ _ _ _
        · refine Sd_iconst (pc' := 932) (dc D_Law_law_14 39 rfl) rfl ⟨by decide, by decide⟩ ?_
          exact Sd_zret (dc D_Law_law_15 0 rfl) rfl (Or.inl rfl)
      refine Sd_tcase (i := 27) (tgt := 933) (dc D_Law_law_0 21 rfl) rfl (by decide) (by decide) (by decide) (fun _ => ?_) (fun hn27 => ?_)
      · refine Sd_aload_n (pc' := 934) (dc D_Law_law_15 1 rfl) rfl 1 rfl rfl ?_
        refine Sd_aload_n (pc' := 935) (dc D_Law_law_15 2 rfl) rfl 0 rfl rfl ?_
        refine Sd_iload_n (pc' := 936) (dc D_Law_law_15 3 rfl) rfl 3 rfl rfl ?_
        refine Sd_iconst (pc' := 937) (dc D_Law_law_15 4 rfl) rfl ⟨by decide, by decide⟩ ?_
        refine Sd_iadd (pc' := 938) (dc D_Law_law_15 5 rfl) rfl ?_
        refine Sd_saload (pc' := 939) (dc D_Law_law_15 6 rfl) rfl ?_
        refine Sd_aload_n (pc' := 940) (dc D_Law_law_15 7 rfl) rfl 0 rfl rfl ?_
        refine Sd_iload_n (pc' := 941) (dc D_Law_law_15 8 rfl) rfl 3 rfl rfl ?_
        refine Sd_iconst (pc' := 942) (dc D_Law_law_15 9 rfl) rfl ⟨by decide, by decide⟩ ?_
        refine Sd_iadd (pc' := 943) (dc D_Law_law_15 10 rfl) rfl ?_
        refine Sd_saload (pc' := 944) (dc D_Law_law_15 11 rfl) rfl ?_
        refine Sd.callVI (ci := 11) (t := 12) (as := [_, _]) RX11 (pc' := 947) (dc D_Law_law_15 12 rfl) rfl rfl rfl rfl K_Bat_serves L_Law_127 Ks_Bat_serves Kv_Bat_serves ⟨by decide, by decide⟩ rfl rfl (Nat.le_of_ble_eq_true rfl) (s_Bat_serves _ _ _ _) (fun x246 h245 => ?_)
        refine Sd_aload_n (pc' := 948) (dc D_Law_law_15 13 rfl) rfl 2 rfl rfl ?_
        refine Sd_aload_n (pc' := 949) (dc D_Law_law_15 14 rfl) rfl 0 rfl rfl ?_
        refine Sd_iload_n (pc' := 950) (dc D_Law_law_15 15 rfl) rfl 3 rfl rfl ?_
        refine Sd_iconst (pc' := 951) (dc D_Law_law_15 16 rfl) rfl ⟨by decide, by decide⟩ ?_
        refine Sd_iadd (pc' := 952) (dc D_Law_law_15 17 rfl) rfl ?_
        refine Sd_saload (pc' := 953) (dc D_Law_law_15 18 rfl) rfl ?_
        refine Sd_aload_n (pc' := 954) (dc D_Law_law_15 19 rfl) rfl 0 rfl rfl ?_
        refine Sd_iload_n (pc' := 955) (dc D_Law_law_15 20 rfl) rfl 3 rfl rfl ?_
        refine Sd_iconst (pc' := 956) (dc D_Law_law_15 21 rfl) rfl ⟨by decide, by decide⟩ ?_
        refine Sd_iadd (pc' := 957) (dc D_Law_law_15 22 rfl) rfl ?_
        refine Sd_saload (pc' := 958) (dc D_Law_law_15 23 rfl) rfl ?_
        refine Sd.callVI (ci := 12) (t := 13) (as := [_, _]) RX12 (pc' := 961) (dc D_Law_law_15 24 rfl) rfl rfl rfl rfl K_Mod_serves L_Law_130 Ks_Mod_serves Kv_Mod_serves ⟨by decide, by decide⟩ rfl rfl (Nat.le_of_ble_eq_true rfl) (s_Mod_serves _ _ _ _) (fun x251 h250 => ?_)
        refine Sd_icmp_eq (tgt := 1190) (pc' := 964) (dc D_Law_law_15 25 rfl) (by decide) rfl (fun _ => ?_) (fun _ => ?_)
        · refine Sd_iinc (pc' := 1193) (l' := [(3, _), (0, _), (1, _), (2, _)]) (dc D_Law_law_20 4 rfl) rfl 3 rfl (by decide) rfl ?_
          refine Sd_goto (tgt := 18) (dc D_Law_law_20 5 rfl) (by decide) ?_
          refine Sd.sub (l' := [(0, _), (1, _), (2, _), (3, _)]) [1, 2, 3, 0] rfl ?_
          exact s_Law_law_L18 n _ _ _ _ _
        · refine Sd_iconst (pc' := 965) (dc D_Law_law_15 26 rfl) rfl ⟨by decide, by decide⟩ ?_
          exact Sd_zret (dc D_Law_law_15 27 rfl) rfl (Or.inl rfl)
      refine Sd_tcase (i := 28) (tgt := 966) (dc D_Law_law_0 21 rfl) rfl (by decide) (by decide) (by decide) (fun _ => ?_) (fun hn28 => ?_)
      · refine Sd_aload_n (pc' := 967) (dc D_Law_law_15 28 rfl) rfl 1 rfl rfl ?_
        refine Sd_aload_n (pc' := 968) (dc D_Law_law_15 29 rfl) rfl 0 rfl rfl ?_
        refine Sd_iload_n (pc' := 969) (dc D_Law_law_15 30 rfl) rfl 3 rfl rfl ?_
        refine Sd_iconst (pc' := 970) (dc D_Law_law_15 31 rfl) rfl ⟨by decide, by decide⟩ ?_
        refine Sd_iadd (pc' := 971) (dc D_Law_law_15 32 rfl) rfl ?_
        refine Sd_saload (pc' := 972) (dc D_Law_law_15 33 rfl) rfl ?_
        refine Sd_aload_n (pc' := 973) (dc D_Law_law_15 34 rfl) rfl 0 rfl rfl ?_
        refine Sd_iload_n (pc' := 974) (dc D_Law_law_15 35 rfl) rfl 3 rfl rfl ?_
        refine Sd_iconst (pc' := 975) (dc D_Law_law_15 36 rfl) rfl ⟨by decide, by decide⟩ ?_
        refine Sd_iadd (pc' := 976) (dc D_Law_law_15 37 rfl) rfl ?_
        refine Sd_saload (pc' := 977) (dc D_Law_law_15 38 rfl) rfl ?_
        refine Sd.callVI (ci := 11) (t := 12) (as := [_, _]) RX11 (pc' := 980) (dc D_Law_law_15 39 rfl) rfl rfl rfl rfl K_Bat_marks L_Law_131 Ks_Bat_marks Kv_Bat_marks ⟨by decide, by decide⟩ rfl rfl (Nat.le_of_ble_eq_true rfl) (s_Bat_marks _ _ _ _) (fun x256 h255 => ?_)
        refine Sd_aload_n (pc' := 981) (dc D_Law_law_16 0 rfl) rfl 2 rfl rfl ?_
        refine Sd_aload_n (pc' := 982) (dc D_Law_law_16 1 rfl) rfl 0 rfl rfl ?_
        refine Sd_iload_n (pc' := 983) (dc D_Law_law_16 2 rfl) rfl 3 rfl rfl ?_
        refine Sd_iconst (pc' := 984) (dc D_Law_law_16 3 rfl) rfl ⟨by decide, by decide⟩ ?_
        refine Sd_iadd (pc' := 985) (dc D_Law_law_16 4 rfl) rfl ?_
        refine Sd_saload (pc' := 986) (dc D_Law_law_16 5 rfl) rfl ?_
        refine Sd_aload_n (pc' := 987) (dc D_Law_law_16 6 rfl) rfl 0 rfl rfl ?_
        refine Sd_iload_n (pc' := 988) (dc D_Law_law_16 7 rfl) rfl 3 rfl rfl ?_
        refine Sd_iconst (pc' := 989) (dc D_Law_law_16 8 rfl) rfl ⟨by decide, by decide⟩ ?_
        refine Sd_iadd (pc' := 990) (dc D_Law_law_16 9 rfl) rfl ?_
        refine Sd_saload (pc' := 991) (dc D_Law_law_16 10 rfl) rfl ?_
        refine Sd.callVI (ci := 12) (t := 13) (as := [_, _]) RX12 (pc' := 994) (dc D_Law_law_16 11 rfl) rfl rfl rfl rfl K_Mod_marks L_Law_134 Ks_Mod_marks Kv_Mod_marks ⟨by decide, by decide⟩ rfl rfl (Nat.le_of_ble_eq_true rfl) (s_Mod_marks _ _ _ _) (fun x261 h260 => ?_)
        refine Sd_icmp_eq (tgt := 1190) (pc' := 997) (dc D_Law_law_16 12 rfl) (by decide) rfl (fun _ => ?_) (fun _ => ?_)
        · refine Sd_iinc (pc' := 1193) (l' := [(3, _), (0, _), (1, _), (2, _)]) (dc D_Law_law_20 4 rfl) rfl 3 rfl (by decide) rfl ?_
          refine Sd_goto (tgt := 18) (dc D_Law_law_20 5 rfl) (by decide) ?_
          refine Sd.sub (l' := [(0, _), (1, _), (2, _), (3, _)]) [1, 2, 3, 0] rfl ?_
          exact s_Law_law_L18 n _ _ _ _ _
        · refine Sd_iconst (pc' := 998) (dc D_Law_law_16 13 rfl) rfl ⟨by decide, by decide⟩ ?_
          exact Sd_zret (dc D_Law_law_16 14 rfl) rfl (Or.inl rfl)
      refine Sd_tcase (i := 29) (tgt := 999) (dc D_Law_law_0 21 rfl) rfl (by decide) (by decide) (by decide) (fun _ => ?_) (fun hn29 => ?_)
      · refine Sd_aload_n (pc' := 1000) (dc D_Law_law_16 15 rfl) rfl 1 rfl rfl ?_
        refine Sd.callVI (ci := 11) (t := 12) (as := []) RX11 (pc' := 1003) (dc D_Law_law_16 16 rfl) rfl rfl rfl rfl K_Bat_shared L_Law_135 Ks_Bat_shared Kv_Bat_shared ⟨by decide, by decide⟩ rfl rfl (Nat.le_of_ble_eq_true rfl) (s_Bat_shared _ _) (fun x264 h263 => ?_)
        refine Sd_aload_n (pc' := 1004) (dc D_Law_law_16 17 rfl) rfl 2 rfl rfl ?_
        refine Sd.callVI (ci := 12) (t := 13) (as := []) RX12 (pc' := 1007) (dc D_Law_law_16 18 rfl) rfl rfl rfl rfl K_Mod_shared L_Law_138 Ks_Mod_shared Kv_Mod_shared ⟨by decide, by decide⟩ rfl rfl (Nat.le_of_ble_eq_true rfl) (s_Mod_shared _ _) (fun x267 h266 => ?_)
        refine Sd_icmp_eq (tgt := 1190) (pc' := 1010) (dc D_Law_law_16 19 rfl) (by decide) rfl (fun _ => ?_) (fun _ => ?_)
        · refine Sd_iinc (pc' := 1193) (l' := [(3, _), (0, _), (1, _), (2, _)]) (dc D_Law_law_20 4 rfl) rfl 3 rfl (by decide) rfl ?_
          refine Sd_goto (tgt := 18) (dc D_Law_law_20 5 rfl) (by decide) ?_
          refine Sd.sub (l' := [(0, _), (1, _), (2, _), (3, _)]) [1, 2, 3, 0] rfl ?_
          exact s_Law_law_L18 n _ _ _ _ _
        · refine Sd_iconst (pc' := 1011) (dc D_Law_law_16 20 rfl) rfl ⟨by decide, by decide⟩ ?_
          exact Sd_zret (dc D_Law_law_16 21 rfl) rfl (Or.inl rfl)
      refine Sd_tcase (i := 30) (tgt := 1012) (dc D_Law_law_0 21 rfl) rfl (by decide) (by decide) (by decide) (fun _ => ?_) (fun hn30 => ?_)
      · refine Sd_aload_n (pc' := 1013) (dc D_Law_law_16 22 rfl) rfl 1 rfl rfl ?_
        refine Sd_aload_n (pc' := 1014) (dc D_Law_law_16 23 rfl) rfl 0 rfl rfl ?_
        refine Sd_iload_n (pc' := 1015) (dc D_Law_law_16 24 rfl) rfl 3 rfl rfl ?_
        refine Sd_iconst (pc' := 1016) (dc D_Law_law_16 25 rfl) rfl ⟨by decide, by decide⟩ ?_
        refine Sd_iadd (pc' := 1017) (dc D_Law_law_16 26 rfl) rfl ?_
        refine Sd_saload (pc' := 1018) (dc D_Law_law_16 27 rfl) rfl ?_
        refine Sd_aload_n (pc' := 1019) (dc D_Law_law_16 28 rfl) rfl 0 rfl rfl ?_
        refine Sd_iload_n (pc' := 1020) (dc D_Law_law_16 29 rfl) rfl 3 rfl rfl ?_
        refine Sd_iconst (pc' := 1021) (dc D_Law_law_16 30 rfl) rfl ⟨by decide, by decide⟩ ?_
        refine Sd_iadd (pc' := 1022) (dc D_Law_law_16 31 rfl) rfl ?_
        refine Sd_saload (pc' := 1023) (dc D_Law_law_16 32 rfl) rfl ?_
        refine Sd.callVI (ci := 11) (t := 12) (as := [_, _]) RX11 (pc' := 1026) (dc D_Law_law_16 33 rfl) rfl rfl rfl rfl K_Bat_residue L_Law_139 Ks_Bat_residue Kv_Bat_residue ⟨by decide, by decide⟩ rfl rfl (Nat.le_of_ble_eq_true rfl) (s_Bat_residue _ _ _ _) (fun x272 h271 => ?_)
        refine Sd_aload_n (pc' := 1027) (dc D_Law_law_16 34 rfl) rfl 2 rfl rfl ?_
        refine Sd_aload_n (pc' := 1028) (dc D_Law_law_16 35 rfl) rfl 0 rfl rfl ?_
        refine Sd_iload_n (pc' := 1029) (dc D_Law_law_16 36 rfl) rfl 3 rfl rfl ?_
        refine Sd_iconst (pc' := 1030) (dc D_Law_law_16 37 rfl) rfl ⟨by decide, by decide⟩ ?_
        refine Sd_iadd (pc' := 1031) (dc D_Law_law_16 38 rfl) rfl ?_
        refine Sd_saload (pc' := 1032) (dc D_Law_law_16 39 rfl) rfl ?_
        refine Sd_aload_n (pc' := 1033) (dc D_Law_law_17 0 rfl) rfl 0 rfl rfl ?_
        refine Sd_iload_n (pc' := 1034) (dc D_Law_law_17 1 rfl) rfl 3 rfl rfl ?_
        refine Sd_iconst (pc' := 1035) (dc D_Law_law_17 2 rfl) rfl ⟨by decide, by decide⟩ ?_
        refine Sd_iadd (pc' := 1036) (dc D_Law_law_17 3 rfl) rfl ?_
        refine Sd_saload (pc' := 1037) (dc D_Law_law_17 4 rfl) rfl ?_
        refine Sd.callVI (ci := 12) (t := 13) (as := [_, _]) RX12 (pc' := 1040) (dc D_Law_law_17 5 rfl) rfl rfl rfl rfl K_Mod_residue L_Law_142 Ks_Mod_residue Kv_Mod_residue ⟨by decide, by decide⟩ rfl rfl (Nat.le_of_ble_eq_true rfl) (s_Mod_residue _ _ _ _) (fun x277 h276 => ?_)
        refine Sd_icmp_eq (tgt := 1190) (pc' := 1043) (dc D_Law_law_17 6 rfl) (by decide) rfl (fun _ => ?_) (fun _ => ?_)
        · refine Sd_iinc (pc' := 1193) (l' := [(3, _), (0, _), (1, _), (2, _)]) (dc D_Law_law_20 4 rfl) rfl 3 rfl (by decide) rfl ?_
          refine Sd_goto (tgt := 18) (dc D_Law_law_20 5 rfl) (by decide) ?_
          refine Sd.sub (l' := [(0, _), (1, _), (2, _), (3, _)]) [1, 2, 3, 0] rfl ?_
          exact s_Law_law_L18 n _ _ _ _ _
        · refine Sd_iconst (pc' := 1044) (dc D_Law_law_17 7 rfl) rfl ⟨by decide, by decide⟩ ?_
          exact Sd_zret (dc D_Law_law_17 8 rfl) rfl (Or.inl rfl)
      refine Sd_tcase (i := 31) (tgt := 1045) (dc D_Law_law_0 21 rfl) rfl (by decide) (by decide) (by decide) (fun _ => ?_) (fun hn31 => ?_)
      · refine Sd_aload_n (pc' := 1046) (dc D_Law_law_17 9 rfl) rfl 1 rfl rfl ?_
        refine Sd_aload_n (pc' := 1047) (dc D_Law_law_17 10 rfl) rfl 0 rfl rfl ?_
        refine Sd_iload_n (pc' := 1048) (dc D_Law_law_17 11 rfl) rfl 3 rfl rfl ?_
        refine Sd_iconst (pc' := 1049) (dc D_Law_law_17 12 rfl) rfl ⟨by decide, by decide⟩ ?_
        refine Sd_iadd (pc' := 1050) (dc D_Law_law_17 13 rfl) rfl ?_
        refine Sd_saload (pc' := 1051) (dc D_Law_law_17 14 rfl) rfl ?_
        refine Sd_aload_n (pc' := 1052) (dc D_Law_law_17 15 rfl) rfl 0 rfl rfl ?_
        refine Sd_iload_n (pc' := 1053) (dc D_Law_law_17 16 rfl) rfl 3 rfl rfl ?_
        refine Sd_iconst (pc' := 1054) (dc D_Law_law_17 17 rfl) rfl ⟨by decide, by decide⟩ ?_
        refine Sd_iadd (pc' := 1055) (dc D_Law_law_17 18 rfl) rfl ?_
        refine Sd_saload (pc' := 1056) (dc D_Law_law_17 19 rfl) rfl ?_
        refine Sd_aload_n (pc' := 1057) (dc D_Law_law_17 20 rfl) rfl 0 rfl rfl ?_
        refine Sd_iload_n (pc' := 1058) (dc D_Law_law_17 21 rfl) rfl 3 rfl rfl ?_
        refine Sd_iconst (pc' := 1059) (dc D_Law_law_17 22 rfl) rfl ⟨by decide, by decide⟩ ?_
        refine Sd_iadd (pc' := 1060) (dc D_Law_law_17 23 rfl) rfl ?_
        refine Sd_saload (pc' := 1061) (dc D_Law_law_17 24 rfl) rfl ?_
        refine Sd_aload_n (pc' := 1062) (dc D_Law_law_17 25 rfl) rfl 0 rfl rfl ?_
        refine Sd_iload_n (pc' := 1063) (dc D_Law_law_17 26 rfl) rfl 3 rfl rfl ?_
        refine Sd_iconst (pc' := 1064) (dc D_Law_law_17 27 rfl) rfl ⟨by decide, by decide⟩ ?_
        refine Sd_iadd (pc' := 1065) (dc D_Law_law_17 28 rfl) rfl ?_
        refine Sd_saload (pc' := 1066) (dc D_Law_law_17 29 rfl) rfl ?_
        refine Sd.callVI (ci := 11) (t := 12) (as := [_, _, _, _]) RX11 (pc' := 1069) (dc D_Law_law_17 30 rfl) rfl rfl rfl rfl K_Bat_drift L_Law_143 Ks_Bat_drift Kv_Bat_drift ⟨by decide, by decide⟩ rfl rfl (Nat.le_of_ble_eq_true rfl) (s_Bat_drift _ _ _ _ _ _) (fun x284 h283 => ?_)
        refine Sd_aload_n (pc' := 1070) (dc D_Law_law_17 31 rfl) rfl 2 rfl rfl ?_
        refine Sd_aload_n (pc' := 1071) (dc D_Law_law_17 32 rfl) rfl 0 rfl rfl ?_
        refine Sd_iload_n (pc' := 1072) (dc D_Law_law_17 33 rfl) rfl 3 rfl rfl ?_
        refine Sd_iconst (pc' := 1073) (dc D_Law_law_17 34 rfl) rfl ⟨by decide, by decide⟩ ?_
        refine Sd_iadd (pc' := 1074) (dc D_Law_law_17 35 rfl) rfl ?_
        refine Sd_saload (pc' := 1075) (dc D_Law_law_17 36 rfl) rfl ?_
        refine Sd_aload_n (pc' := 1076) (dc D_Law_law_17 37 rfl) rfl 0 rfl rfl ?_
        refine Sd_iload_n (pc' := 1077) (dc D_Law_law_17 38 rfl) rfl 3 rfl rfl ?_
        refine Sd_iconst (pc' := 1078) (dc D_Law_law_17 39 rfl) rfl ⟨by decide, by decide⟩ ?_
        refine Sd_iadd (pc' := 1079) (dc D_Law_law_18 0 rfl) rfl ?_
        refine Sd_saload (pc' := 1080) (dc D_Law_law_18 1 rfl) rfl ?_
        refine Sd_aload_n (pc' := 1081) (dc D_Law_law_18 2 rfl) rfl 0 rfl rfl ?_
        refine Sd_iload_n (pc' := 1082) (dc D_Law_law_18 3 rfl) rfl 3 rfl rfl ?_
        refine Sd_iconst (pc' := 1083) (dc D_Law_law_18 4 rfl) rfl ⟨by decide, by decide⟩ ?_
        refine Sd_iadd (pc' := 1084) (dc D_Law_law_18 5 rfl) rfl ?_
        refine Sd_saload (pc' := 1085) (dc D_Law_law_18 6 rfl) rfl ?_
        refine Sd_aload_n (pc' := 1086) (dc D_Law_law_18 7 rfl) rfl 0 rfl rfl ?_
        refine Sd_iload_n (pc' := 1087) (dc D_Law_law_18 8 rfl) rfl 3 rfl rfl ?_
        refine Sd_iconst (pc' := 1088) (dc D_Law_law_18 9 rfl) rfl ⟨by decide, by decide⟩ ?_
        refine Sd_iadd (pc' := 1089) (dc D_Law_law_18 10 rfl) rfl ?_
        refine Sd_saload (pc' := 1090) (dc D_Law_law_18 11 rfl) rfl ?_
        refine Sd.callVI (ci := 12) (t := 13) (as := [_, _, _, _]) RX12 (pc' := 1093) (dc D_Law_law_18 12 rfl) rfl rfl rfl rfl K_Mod_drift L_Law_146 Ks_Mod_drift Kv_Mod_drift ⟨by decide, by decide⟩ rfl rfl (Nat.le_of_ble_eq_true rfl) (s_Mod_drift _ _ _ _ _ _) (fun x291 h290 => ?_)
        refine Sd_icmp_eq (tgt := 1190) (pc' := 1096) (dc D_Law_law_18 13 rfl) (by decide) rfl (fun _ => ?_) (fun _ => ?_)
        · refine Sd_iinc (pc' := 1193) (l' := [(3, _), (0, _), (1, _), (2, _)]) (dc D_Law_law_20 4 rfl) rfl 3 rfl (by decide) rfl ?_
          refine Sd_goto (tgt := 18) (dc D_Law_law_20 5 rfl) (by decide) ?_
          refine Sd.sub (l' := [(0, _), (1, _), (2, _), (3, _)]) [1, 2, 3, 0] rfl ?_
          exact s_Law_law_L18 n _ _ _ _ _
        · refine Sd_iconst (pc' := 1097) (dc D_Law_law_18 14 rfl) rfl ⟨by decide, by decide⟩ ?_
          exact Sd_zret (dc D_Law_law_18 15 rfl) rfl (Or.inl rfl)
      refine Sd_tcase (i := 32) (tgt := 1098) (dc D_Law_law_0 21 rfl) rfl (by decide) (by decide) (by decide) (fun _ => ?_) (fun hn32 => ?_)
      · refine Sd_aload_n (pc' := 1099) (dc D_Law_law_18 16 rfl) rfl 1 rfl rfl ?_
        refine Sd_aload_n (pc' := 1100) (dc D_Law_law_18 17 rfl) rfl 0 rfl rfl ?_
        refine Sd_iload_n (pc' := 1101) (dc D_Law_law_18 18 rfl) rfl 3 rfl rfl ?_
        refine Sd_iconst (pc' := 1102) (dc D_Law_law_18 19 rfl) rfl ⟨by decide, by decide⟩ ?_
        refine Sd_iadd (pc' := 1103) (dc D_Law_law_18 20 rfl) rfl ?_
        refine Sd_saload (pc' := 1104) (dc D_Law_law_18 21 rfl) rfl ?_
        refine Sd.callVI (ci := 11) (t := 12) (as := [_]) RX11 (pc' := 1107) (dc D_Law_law_18 22 rfl) rfl rfl rfl rfl K_Bat_seed L_Law_147 Ks_Bat_seed Kv_Bat_seed ⟨by decide, by decide⟩ rfl rfl (Nat.le_of_ble_eq_true rfl) (s_Bat_seed _ _ _) (fun x295 h294 => ?_)
        refine Sd_aload_n (pc' := 1108) (dc D_Law_law_18 23 rfl) rfl 2 rfl rfl ?_
        refine Sd_aload_n (pc' := 1109) (dc D_Law_law_18 24 rfl) rfl 0 rfl rfl ?_
        refine Sd_iload_n (pc' := 1110) (dc D_Law_law_18 25 rfl) rfl 3 rfl rfl ?_
        refine Sd_iconst (pc' := 1111) (dc D_Law_law_18 26 rfl) rfl ⟨by decide, by decide⟩ ?_
        refine Sd_iadd (pc' := 1112) (dc D_Law_law_18 27 rfl) rfl ?_
        refine Sd_saload (pc' := 1113) (dc D_Law_law_18 28 rfl) rfl ?_
        refine Sd.callVI (ci := 12) (t := 13) (as := [_]) RX12 (pc' := 1116) (dc D_Law_law_18 29 rfl) rfl rfl rfl rfl K_Mod_seed L_Law_150 Ks_Mod_seed Kv_Mod_seed ⟨by decide, by decide⟩ rfl rfl (Nat.le_of_ble_eq_true rfl) (s_Mod_seed _ _ _) (fun x299 h298 => ?_)
        refine Sd_icmp_eq (tgt := 1190) (pc' := 1119) (dc D_Law_law_18 30 rfl) (by decide) rfl (fun _ => ?_) (fun _ => ?_)
        · refine Sd_iinc (pc' := 1193) (l' := [(3, _), (0, _), (1, _), (2, _)]) (dc D_Law_law_20 4 rfl) rfl 3 rfl (by decide) rfl ?_
          refine Sd_goto (tgt := 18) (dc D_Law_law_20 5 rfl) (by decide) ?_
          refine Sd.sub (l' := [(0, _), (1, _), (2, _), (3, _)]) [1, 2, 3, 0] rfl ?_
          exact s_Law_law_L18 n _ _ _ _ _
        · refine Sd_iconst (pc' := 1120) (dc D_Law_law_18 31 rfl) rfl ⟨by decide, by decide⟩ ?_
          exact Sd_zret (dc D_Law_law_18 32 rfl) rfl (Or.inl rfl)
      refine Sd_tcase (i := 33) (tgt := 1121) (dc D_Law_law_0 21 rfl) rfl (by decide) (by decide) (by decide) (fun _ => ?_) (fun hn33 => ?_)
      · refine Sd_aload_n (pc' := 1122) (dc D_Law_law_18 33 rfl) rfl 1 rfl rfl ?_
        refine Sd_aload_n (pc' := 1123) (dc D_Law_law_18 34 rfl) rfl 0 rfl rfl ?_
        refine Sd_iload_n (pc' := 1124) (dc D_Law_law_18 35 rfl) rfl 3 rfl rfl ?_
        refine Sd_iconst (pc' := 1125) (dc D_Law_law_18 36 rfl) rfl ⟨by decide, by decide⟩ ?_
        refine Sd_iadd (pc' := 1126) (dc D_Law_law_18 37 rfl) rfl ?_
        refine Sd_saload (pc' := 1127) (dc D_Law_law_18 38 rfl) rfl ?_
        refine Sd.callVI (ci := 11) (t := 12) (as := [_]) RX11 (pc' := 1130) (dc D_Law_law_18 39 rfl) rfl rfl rfl rfl K_Bat_count L_Law_151 Ks_Bat_count Kv_Bat_count ⟨by decide, by decide⟩ rfl rfl (Nat.le_of_ble_eq_true rfl) (s_Bat_count _ _ _) (fun x303 h302 => ?_)
        refine Sd_aload_n (pc' := 1131) (dc D_Law_law_19 0 rfl) rfl 2 rfl rfl ?_
        refine Sd_aload_n (pc' := 1132) (dc D_Law_law_19 1 rfl) rfl 0 rfl rfl ?_
        refine Sd_iload_n (pc' := 1133) (dc D_Law_law_19 2 rfl) rfl 3 rfl rfl ?_
        refine Sd_iconst (pc' := 1134) (dc D_Law_law_19 3 rfl) rfl ⟨by decide, by decide⟩ ?_
        refine Sd_iadd (pc' := 1135) (dc D_Law_law_19 4 rfl) rfl ?_
        refine Sd_saload (pc' := 1136) (dc D_Law_law_19 5 rfl) rfl ?_
        refine Sd.callVI (ci := 12) (t := 13) (as := [_]) RX12 (pc' := 1139) (dc D_Law_law_19 6 rfl) rfl rfl rfl rfl K_Mod_count L_Law_154 Ks_Mod_count Kv_Mod_count ⟨by decide, by decide⟩ rfl rfl (Nat.le_of_ble_eq_true rfl) (s_Mod_count _ _ _) (fun x307 h306 => ?_)
        refine Sd_icmp_eq (tgt := 1190) (pc' := 1142) (dc D_Law_law_19 7 rfl) (by decide) rfl (fun _ => ?_) (fun _ => ?_)
        · refine Sd_iinc (pc' := 1193) (l' := [(3, _), (0, _), (1, _), (2, _)]) (dc D_Law_law_20 4 rfl) rfl 3 rfl (by decide) rfl ?_
          refine Sd_goto (tgt := 18) (dc D_Law_law_20 5 rfl) (by decide) ?_
          refine Sd.sub (l' := [(0, _), (1, _), (2, _), (3, _)]) [1, 2, 3, 0] rfl ?_
          exact s_Law_law_L18 n _ _ _ _ _
        · refine Sd_iconst (pc' := 1143) (dc D_Law_law_19 8 rfl) rfl ⟨by decide, by decide⟩ ?_
          exact Sd_zret (dc D_Law_law_19 9 rfl) rfl (Or.inl rfl)
      refine Sd_tcase (i := 34) (tgt := 1144) (dc D_Law_law_0 21 rfl) rfl (by decide) (by decide) (by decide) (fun _ => ?_) (fun hn34 => ?_)
      · refine Sd_aload_n (pc' := 1145) (dc D_Law_law_19 10 rfl) rfl 1 rfl rfl ?_
        refine Sd_aload_n (pc' := 1146) (dc D_Law_law_19 11 rfl) rfl 0 rfl rfl ?_
        refine Sd_iload_n (pc' := 1147) (dc D_Law_law_19 12 rfl) rfl 3 rfl rfl ?_
        refine Sd_iconst (pc' := 1148) (dc D_Law_law_19 13 rfl) rfl ⟨by decide, by decide⟩ ?_
        refine Sd_iadd (pc' := 1149) (dc D_Law_law_19 14 rfl) rfl ?_
        refine Sd_saload (pc' := 1150) (dc D_Law_law_19 15 rfl) rfl ?_
        refine Sd.callVI (ci := 11) (t := 12) (as := [_]) RX11 (pc' := 1153) (dc D_Law_law_19 16 rfl) rfl rfl rfl rfl K_Bat_image L_Law_155 Ks_Bat_image Kv_Bat_image ⟨by decide, by decide⟩ rfl rfl (Nat.le_of_ble_eq_true rfl) (s_Bat_image _ _ _) (fun x311 h310 => ?_)
        refine Sd_aload_n (pc' := 1154) (dc D_Law_law_19 17 rfl) rfl 2 rfl rfl ?_
        refine Sd_aload_n (pc' := 1155) (dc D_Law_law_19 18 rfl) rfl 0 rfl rfl ?_
        refine Sd_iload_n (pc' := 1156) (dc D_Law_law_19 19 rfl) rfl 3 rfl rfl ?_
        refine Sd_iconst (pc' := 1157) (dc D_Law_law_19 20 rfl) rfl ⟨by decide, by decide⟩ ?_
        refine Sd_iadd (pc' := 1158) (dc D_Law_law_19 21 rfl) rfl ?_
        refine Sd_saload (pc' := 1159) (dc D_Law_law_19 22 rfl) rfl ?_
        refine Sd.callVI (ci := 12) (t := 13) (as := [_]) RX12 (pc' := 1162) (dc D_Law_law_19 23 rfl) rfl rfl rfl rfl K_Mod_image L_Law_158 Ks_Mod_image Kv_Mod_image ⟨by decide, by decide⟩ rfl rfl (Nat.le_of_ble_eq_true rfl) (s_Mod_image _ _ _) (fun x315 h314 => ?_)
        refine Sd_icmp_eq (tgt := 1190) (pc' := 1165) (dc D_Law_law_19 24 rfl) (by decide) rfl (fun _ => ?_) (fun _ => ?_)
        · refine Sd_iinc (pc' := 1193) (l' := [(3, _), (0, _), (1, _), (2, _)]) (dc D_Law_law_20 4 rfl) rfl 3 rfl (by decide) rfl ?_
          refine Sd_goto (tgt := 18) (dc D_Law_law_20 5 rfl) (by decide) ?_
          refine Sd.sub (l' := [(0, _), (1, _), (2, _), (3, _)]) [1, 2, 3, 0] rfl ?_
          exact s_Law_law_L18 n _ _ _ _ _
        · refine Sd_iconst (pc' := 1166) (dc D_Law_law_19 25 rfl) rfl ⟨by decide, by decide⟩ ?_
          exact Sd_zret (dc D_Law_law_19 26 rfl) rfl (Or.inl rfl)
      refine Sd_tcase (i := 35) (tgt := 1167) (dc D_Law_law_0 21 rfl) rfl (by decide) (by decide) (by decide) (fun _ => ?_) (fun hn35 => ?_)
      · refine Sd_aload_n (pc' := 1168) (dc D_Law_law_19 27 rfl) rfl 1 rfl rfl ?_
        refine Sd_aload_n (pc' := 1169) (dc D_Law_law_19 28 rfl) rfl 0 rfl rfl ?_
        refine Sd_iload_n (pc' := 1170) (dc D_Law_law_19 29 rfl) rfl 3 rfl rfl ?_
        refine Sd_iconst (pc' := 1171) (dc D_Law_law_19 30 rfl) rfl ⟨by decide, by decide⟩ ?_
        refine Sd_iadd (pc' := 1172) (dc D_Law_law_19 31 rfl) rfl ?_
        refine Sd_saload (pc' := 1173) (dc D_Law_law_19 32 rfl) rfl ?_
        refine Sd.callVI (ci := 11) (t := 12) (as := [_]) RX11 (pc' := 1176) (dc D_Law_law_19 33 rfl) rfl rfl rfl rfl K_Bat_back L_Law_159 Ks_Bat_back Kv_Bat_back ⟨by decide, by decide⟩ rfl rfl (Nat.le_of_ble_eq_true rfl) (s_Bat_back _ _ _) (fun x319 h318 => ?_)
        refine Sd_aload_n (pc' := 1177) (dc D_Law_law_19 34 rfl) rfl 2 rfl rfl ?_
        refine Sd_aload_n (pc' := 1178) (dc D_Law_law_19 35 rfl) rfl 0 rfl rfl ?_
        refine Sd_iload_n (pc' := 1179) (dc D_Law_law_19 36 rfl) rfl 3 rfl rfl ?_
        refine Sd_iconst (pc' := 1180) (dc D_Law_law_19 37 rfl) rfl ⟨by decide, by decide⟩ ?_
        refine Sd_iadd (pc' := 1181) (dc D_Law_law_19 38 rfl) rfl ?_
        refine Sd_saload (pc' := 1182) (dc D_Law_law_19 39 rfl) rfl ?_
        refine Sd.callVI (ci := 12) (t := 13) (as := [_]) RX12 (pc' := 1185) (dc D_Law_law_20 0 rfl) rfl rfl rfl rfl K_Mod_back L_Law_162 Ks_Mod_back Kv_Mod_back ⟨by decide, by decide⟩ rfl rfl (Nat.le_of_ble_eq_true rfl) (s_Mod_back _ _ _) (fun x323 h322 => ?_)
        refine Sd_icmp_eq (tgt := 1190) (pc' := 1188) (dc D_Law_law_20 1 rfl) (by decide) rfl (fun _ => ?_) (fun _ => ?_)
        · refine Sd_iinc (pc' := 1193) (l' := [(3, _), (0, _), (1, _), (2, _)]) (dc D_Law_law_20 4 rfl) rfl 3 rfl (by decide) rfl ?_
          refine Sd_goto (tgt := 18) (dc D_Law_law_20 5 rfl) (by decide) ?_
          refine Sd.sub (l' := [(0, _), (1, _), (2, _), (3, _)]) [1, 2, 3, 0] rfl ?_
          exact s_Law_law_L18 n _ _ _ _ _
        · refine Sd_iconst (pc' := 1189) (dc D_Law_law_20 2 rfl) rfl ⟨by decide, by decide⟩ ?_
          exact Sd_zret (dc D_Law_law_20 3 rfl) rfl (Or.inl rfl)
      refine Sd_tdef (tgt := 1190) (dc D_Law_law_0 21 rfl) (by omega) (by decide) ?_
      refine Sd_iinc (pc' := 1193) (l' := [(3, _), (0, _), (1, _), (2, _)]) (dc D_Law_law_20 4 rfl) rfl 3 rfl (by decide) rfl ?_
      refine Sd_goto (tgt := 18) (dc D_Law_law_20 5 rfl) (by decide) ?_
      refine Sd.sub (l' := [(0, _), (1, _), (2, _), (3, _)]) [1, 2, 3, 0] rfl ?_
      exact s_Law_law_L18 n _ _ _ _ _
def Law_law (v0 : Nat) (h : AH) : Option (Int × AH) := nO h 12 12 fun r1 h2 => bnd (Bat_init r1 h2) fun _ h3 => if r1 = 0 then none else nO h3 13 50 fun r6 h7 => bnd (Mod_init r6 h7) fun _ h8 => if r6 = 0 then none else Law_law_L18 FU v0 r1 r6 0 h8
set_option maxHeartbeats 4000000 in
set_option maxRecDepth 20000 in
theorem s_Law_law (v0 : Nat) (h : AH) : CS M_Law_law 14 554 emI [vr v0] h (Law_law v0 h) := by
  refine CS.of (by decide) (Nat.le_of_ble_eq_true rfl) ?_
  show Sd M_Law_law 14 554 emI 0 [(0, vr v0)] [] h _
  unfold Law_law
  refine Sd_new (ci := 11) (t := 12) (sl := 12) RX11 (pc' := 3) (dc D_Law_law_0 0 rfl) rfl rfl rfl C_Law_7 Ni_Bat Nz_Bat ?_
  refine Sd_dup (pc' := 4) (dc D_Law_law_0 1 rfl) rfl (cat_r _) ?_
  refine Sd.callIV (as := []) (pc' := 7) (dc D_Law_law_0 2 rfl) rfl (Nat.le_add_right 16 _) K_Bat_init L_Law_9 Ks_Bat_init rfl rfl ⟨by decide, by decide⟩ rfl rfl (Nat.le_of_ble_eq_true rfl) (s_Bat_init _ _) (fun _ h3 => ?_)
  refine Sd_astore_n (pc' := 8) (l' := [(1, _), (0, _)]) (dc D_Law_law_0 3 rfl) rfl rfl (by decide) rfl (fun _ => ?_)
  refine Sd_new (ci := 12) (t := 13) (sl := 50) RX12 (pc' := 11) (dc D_Law_law_0 4 rfl) rfl rfl rfl C_Law_10 Ni_Mod Nz_Mod ?_
  refine Sd_dup (pc' := 12) (dc D_Law_law_0 5 rfl) rfl (cat_r _) ?_
  refine Sd.callIV (as := []) (pc' := 15) (dc D_Law_law_0 6 rfl) rfl (Nat.le_add_right 16 _) K_Mod_init L_Law_12 Ks_Mod_init rfl rfl ⟨by decide, by decide⟩ rfl rfl (Nat.le_of_ble_eq_true rfl) (s_Mod_init _ _) (fun _ h8 => ?_)
  refine Sd_astore_n (pc' := 16) (l' := [(2, _), (1, _), (0, _)]) (dc D_Law_law_0 7 rfl) rfl rfl (by decide) rfl (fun _ => ?_)
  refine Sd_iconst (pc' := 17) (dc D_Law_law_0 8 rfl) rfl ⟨by decide, by decide⟩ ?_
  refine Sd_istore_n (pc' := 18) (l' := [(3, _), (2, _), (1, _), (0, _)]) (dc D_Law_law_0 9 rfl) rfl rfl (by decide) rfl ?_
  refine Sd.sub (l' := [(0, _), (1, _), (2, _), (3, _)]) [3, 2, 1, 0] rfl ?_
  exact s_Law_law_L18 FU _ _ _ _ _
