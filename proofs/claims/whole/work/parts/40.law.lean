noncomputable section
def f_Law_law_j1358 (n : Nat) (xs : Nat → Int32) (rec : Int32 → AM → Option ((Unit × AM) ⊕ (Int32 × AM))) (v3 : Int32) (s0 : Int32) (s2 : Int32) (s3 : Int32) (M : AM) : Option ((Unit × AM) ⊕ (Int32 × AM)) :=
  bnd (f_Mo_seen s2 s3 M) (fun r1 M2 => if s0 = r1 then rec (v3 + 6) M2 else some (.inr (0, M2)))
set_option maxRecDepth 20000 in
theorem t_Law_law_j1358 {G : GT} {d : Nat} {n nc ns : Nat} {xs : Nat → Int32} {v3 : Int32} {s0 : Int32} {s2 : Int32} {s3 : Int32} {M : AM} {Q : AM → Option Value → Prop} {o : (Unit × AM) ⊕ (Int32 × AM)} {rec : Int32 → AM → Option ((Unit × AM) ⊕ (Int32 × AM))} (hN : nc ≤ mcT 329 ∧ ns ≤ msT 329) (hn : gLn G = n) (hx : gxs G = xs) (hrec : ∀ (v3 : Int32) (M : AM), WT M → rec v3 M = some o → PW G (d + 108) 329 18 [.ref 1000, .ref 0, .ref 105, .int v3] [] M nc ns Q) (k1 : ∀ (yo : Unit) (Mo : AM), o = .inl (yo, Mo) → WT Mo → PW G (d + 108) 329 1599 [ux, ux, ux, ux] [] Mo nc ns Q) (k2 : ∀ (r : Int32) (M' : AM), o = .inr (r, M') → WT M' → (r = 0 ∨ r = 1) → Q M' (some (.int r))) (hW : WT M)  (hf : f_Law_law_j1358 n xs rec v3 s0 s2 s3 M = some o) : PW G (d + 108) 329 1358 [.ref 1000, .ref 0, .ref 105, .int v3] [.int s3, .int s2, .ref 105, .int s0] M nc ns Q := by
  refine B_V2 hN d_329_1358 vk_329_210 ml_315 rfl k_105 hW rfl hf (fun r1 M2 hc hf => t_Mo_seen hW  hc (fun hW => ?_))
  refine B_icmp_eq (tgt := 1593) d_329_1361 rfl hf (fun hf => ?_) (fun hf => ?_)
  · refine B_iinc d_329_1593 ic_6 rfl ml_329 rfl rfl ?_
    refine P_goto (tgt := 18) d_329_1596 rfl ?_
    exact hrec _ _ hW  hf
  · refine B_iconst d_329_1364 ic_0 ?_
    cases hf
    exact B_zret hN d_329_1365 mr_329 hW (Or.inl rfl) rfl (fun hW hb => k2 _ _ rfl hW hb)
def f_Law_law_j1336 (n : Nat) (xs : Nat → Int32) (rec : Int32 → AM → Option ((Unit × AM) ⊕ (Int32 × AM))) (v3 : Int32) (s1 : Int32) (s2 : Int32) (M : AM) : Option ((Unit × AM) ⊕ (Int32 × AM)) :=
  bnd (f_C_seen s1 s2 M) (fun r1 M2 => sald n xs (v3 + 1) (fun x3 => sald n xs (v3 + 2) (fun x4 => if x4 = 0 then f_Law_law_j1358 n xs rec v3 r1 x3 0 M2 else f_Law_law_j1358 n xs rec v3 r1 x3 1 M2)))
set_option maxRecDepth 20000 in
theorem t_Law_law_j1336 {G : GT} {d : Nat} {n nc ns : Nat} {xs : Nat → Int32} {v3 : Int32} {s1 : Int32} {s2 : Int32} {M : AM} {Q : AM → Option Value → Prop} {o : (Unit × AM) ⊕ (Int32 × AM)} {rec : Int32 → AM → Option ((Unit × AM) ⊕ (Int32 × AM))} (hN : nc ≤ mcT 329 ∧ ns ≤ msT 329) (hn : gLn G = n) (hx : gxs G = xs) (hrec : ∀ (v3 : Int32) (M : AM), WT M → rec v3 M = some o → PW G (d + 108) 329 18 [.ref 1000, .ref 0, .ref 105, .int v3] [] M nc ns Q) (k1 : ∀ (yo : Unit) (Mo : AM), o = .inl (yo, Mo) → WT Mo → PW G (d + 108) 329 1599 [ux, ux, ux, ux] [] Mo nc ns Q) (k2 : ∀ (r : Int32) (M' : AM), o = .inr (r, M') → WT M' → (r = 0 ∨ r = 1) → Q M' (some (.int r))) (hW : WT M)  (hf : f_Law_law_j1336 n xs rec v3 s1 s2 M = some o) : PW G (d + 108) 329 1336 [.ref 1000, .ref 0, .ref 105, .int v3] [.int s2, .int s1, .ref 0] M nc ns Q := by
  refine B_V2 hN d_329_1336 vk_329_206 ml_180 rfl k_0 hW rfl hf (fun r1 M2 hc hf => t_C_seen hW  hc (fun hW => ?_))
  refine P_aload_n d_329_1339 rfl ?_
  refine P_aload_n d_329_1340 rfl ?_
  refine P_iload_n d_329_1341 rfl ?_
  refine B_iconst d_329_1342 ic_1 ?_
  refine P_iadd d_329_1343 ?_
  refine B_sld d_329_1344 hn hx hf (fun hf => ?_)
  refine P_aload_n d_329_1345 rfl ?_
  refine P_iload_n d_329_1346 rfl ?_
  refine B_iconst d_329_1347 ic_2 ?_
  refine P_iadd d_329_1348 ?_
  refine B_sld d_329_1349 hn hx hf (fun hf => ?_)
  refine B_if_eq (tgt := 1357) d_329_1350 rfl hf (fun hf => ?_) (fun hf => ?_)
  · refine B_iconst d_329_1357 ic_0 ?_
    exact t_Law_law_j1358 hN hn hx hrec k1 k2 hW  hf
  · refine B_iconst d_329_1353 ic_1 ?_
    refine P_goto (tgt := 1358) d_329_1354 rfl ?_
    exact t_Law_law_j1358 hN hn hx hrec k1 k2 hW  hf
def f_Law_law_b18 (n : Nat) (xs : Nat → Int32) (rec : Int32 → AM → Option ((Unit × AM) ⊕ (Int32 × AM)))  (v3 : Int32) (M : AM) : Option ((Unit × AM) ⊕ (Int32 × AM)) :=
  if ((nI n) - 6) < v3 then some (.inl ((), M)) else sald n xs v3 (fun x1 => swi (x1 &&& 63) [(0, sald n xs (v3 + 1) (fun x2 => sald n xs (v3 + 2) (fun x3 => sald n xs (v3 + 3) (fun x4 => sald n xs (v3 + 4) (fun x5 => sald n xs (v3 + 5) (fun x6 => bnd (f_C_feed x2 x3 x4 x5 x6 M) (fun r7 M8 => sald n xs (v3 + 1) (fun x9 => sald n xs (v3 + 2) (fun x10 => sald n xs (v3 + 3) (fun x11 => sald n xs (v3 + 4) (fun x12 => sald n xs (v3 + 5) (fun x13 => bnd (f_Mo_feed x9 x10 x11 x12 x13 M8) (fun r14 M15 => if r7 = r14 then rec (v3 + 6) M15 else some (.inr (0, M15))))))))))))))), (1, sald n xs (v3 + 1) (fun x16 => bnd (f_C_end x16 M) (fun r17 M18 => sald n xs (v3 + 1) (fun x19 => bnd (f_Mo_end x19 M18) (fun r20 M21 => if r17 = r20 then rec (v3 + 6) M21 else some (.inr (0, M21))))))), (2, bnd (f_C_loft  M) (fun r22 M23 => bnd (f_Mo_loft  M23) (fun r24 M25 => if r22 = r24 then rec (v3 + 6) M25 else some (.inr (0, M25))))), (3, sald n xs (v3 + 1) (fun x26 => bnd (f_C_fault x26 M) (fun r27 M28 => sald n xs (v3 + 1) (fun x29 => bnd (f_Mo_fault x29 M28) (fun r30 M31 => if r27 = r30 then rec (v3 + 6) M31 else some (.inr (0, M31))))))), (4, sald n xs (v3 + 1) (fun x32 => sald n xs (v3 + 2) (fun x33 => bnd (f_C_lamp x32 x33 M) (fun r34 M35 => sald n xs (v3 + 1) (fun x36 => sald n xs (v3 + 2) (fun x37 => bnd (f_Mo_lamp x36 x37 M35) (fun r38 M39 => if r34 = r38 then rec (v3 + 6) M39 else some (.inr (0, M39))))))))), (5, sald n xs (v3 + 1) (fun x40 => sald n xs (v3 + 2) (fun x41 => bnd (f_C_cord x40 x41 M) (fun r42 M43 => sald n xs (v3 + 1) (fun x44 => sald n xs (v3 + 2) (fun x45 => bnd (f_Mo_cord x44 x45 M43) (fun r46 M47 => if r42 = r46 then rec (v3 + 6) M47 else some (.inr (0, M47))))))))), (6, bnd (f_C_picture  M) (fun r48 M49 => bnd (f_Mo_picture  M49) (fun r50 M51 => if r48 = r50 then rec (v3 + 6) M51 else some (.inr (0, M51))))), (7, sald n xs (v3 + 1) (fun x52 => bnd (f_C_pull x52 M) (fun r53 M54 => sald n xs (v3 + 1) (fun x55 => bnd (f_Mo_pull x55 M54) (fun r56 M57 => if r53 = r56 then rec (v3 + 6) M57 else some (.inr (0, M57))))))), (8, sald n xs (v3 + 1) (fun x58 => bnd (f_C_tie x58 M) (fun r59 M60 => sald n xs (v3 + 1) (fun x61 => bnd (f_Mo_tie x61 M60) (fun r62 M63 => if r59 = r62 then rec (v3 + 6) M63 else some (.inr (0, M63))))))), (9, sald n xs (v3 + 1) (fun x64 => bnd (f_C_loose x64 M) (fun r65 M66 => sald n xs (v3 + 1) (fun x67 => bnd (f_Mo_loose x67 M66) (fun r68 M69 => if r65 = r68 then rec (v3 + 6) M69 else some (.inr (0, M69))))))), (10, bnd (f_C_dusk  M) (fun r70 M71 => bnd (f_Mo_dusk  M71) (fun r72 M73 => if r70 = r72 then rec (v3 + 6) M73 else some (.inr (0, M73))))), (11, bnd (f_C_undo  M) (fun r74 M75 => bnd (f_Mo_undo  M75) (fun r76 M77 => if r74 = r76 then rec (v3 + 6) M77 else some (.inr (0, M77))))), (12, bnd (f_C_redo  M) (fun r78 M79 => bnd (f_Mo_redo  M79) (fun r80 M81 => if r78 = r80 then rec (v3 + 6) M81 else some (.inr (0, M81))))), (13, sald n xs (v3 + 1) (fun x82 => sald n xs (v3 + 2) (fun x83 => bnd (f_C_will x82 x83 M) (fun r84 M85 => sald n xs (v3 + 1) (fun x86 => sald n xs (v3 + 2) (fun x87 => bnd (f_Mo_will x86 x87 M85) (fun r88 M89 => if r84 = r88 then rec (v3 + 6) M89 else some (.inr (0, M89))))))))), (14, sald n xs (v3 + 1) (fun x90 => bnd (f_C_can x90 M) (fun r91 M92 => sald n xs (v3 + 1) (fun x93 => bnd (f_Mo_can x93 M92) (fun r94 M95 => if r91 = r94 then rec (v3 + 6) M95 else some (.inr (0, M95))))))), (15, sald n xs (v3 + 1) (fun x96 => sald n xs (v3 + 2) (fun x97 => bnd (f_C_fewest x96 x97 M) (fun r98 M99 => sald n xs (v3 + 1) (fun x100 => sald n xs (v3 + 2) (fun x101 => bnd (f_Mo_fewest x100 x101 M99) (fun r102 M103 => if r98 = r102 then rec (v3 + 6) M103 else some (.inr (0, M103))))))))), (16, sald n xs (v3 + 1) (fun x104 => sald n xs (v3 + 2) (fun x105 => bnd (f_C_cheapest x104 x105 M) (fun r106 M107 => sald n xs (v3 + 1) (fun x108 => sald n xs (v3 + 2) (fun x109 => bnd (f_Mo_cheapest x108 x109 M107) (fun r110 M111 => if r106 = r110 then rec (v3 + 6) M111 else some (.inr (0, M111))))))))), (17, sald n xs (v3 + 1) (fun x112 => bnd (f_C_ways x112 M) (fun r113 M114 => sald n xs (v3 + 1) (fun x115 => bnd (f_Mo_ways x115 M114) (fun r116 M117 => if r113 = r116 then rec (v3 + 6) M117 else some (.inr (0, M117))))))), (18, sald n xs (v3 + 1) (fun x118 => bnd (f_C_silent x118 M) (fun r119 M120 => sald n xs (v3 + 1) (fun x121 => bnd (f_Mo_silent x121 M120) (fun r122 M123 => if r119 = r122 then rec (v3 + 6) M123 else some (.inr (0, M123))))))), (19, bnd (f_C_pictures  M) (fun r124 M125 => bnd (f_Mo_pictures  M125) (fun r126 M127 => if r124 = r126 then rec (v3 + 6) M127 else some (.inr (0, M127))))), (20, bnd (f_C_spare  M) (fun r128 M129 => bnd (f_Mo_spare  M129) (fun r130 M131 => if r128 = r130 then rec (v3 + 6) M131 else some (.inr (0, M131))))), (21, sald n xs (v3 + 1) (fun x132 => bnd (f_C_brightest x132 M) (fun r133 M134 => sald n xs (v3 + 1) (fun x135 => bnd (f_Mo_brightest x135 M134) (fun r136 M137 => if r133 = r136 then rec (v3 + 6) M137 else some (.inr (0, M137))))))), (22, sald n xs (v3 + 1) (fun x138 => bnd (f_C_dimmest x138 M) (fun r139 M140 => sald n xs (v3 + 1) (fun x141 => bnd (f_Mo_dimmest x141 M140) (fun r142 M143 => if r139 = r142 then rec (v3 + 6) M143 else some (.inr (0, M143))))))), (23, sald n xs (v3 + 1) (fun x144 => sald n xs (v3 + 2) (fun x145 => bnd (f_C_nearest x144 x145 M) (fun r146 M147 => sald n xs (v3 + 1) (fun x148 => sald n xs (v3 + 2) (fun x149 => bnd (f_Mo_nearest x148 x149 M147) (fun r150 M151 => if r146 = r150 then rec (v3 + 6) M151 else some (.inr (0, M151))))))))), (24, sald n xs (v3 + 1) (fun x152 => bnd (f_C_apart x152 M) (fun r153 M154 => sald n xs (v3 + 1) (fun x155 => bnd (f_Mo_apart x155 M154) (fun r156 M157 => if r153 = r156 then rec (v3 + 6) M157 else some (.inr (0, M157))))))), (25, sald n xs (v3 + 1) (fun x158 => bnd (f_C_mark x158 M) (fun r159 M160 => sald n xs (v3 + 1) (fun x161 => bnd (f_Mo_mark x161 M160) (fun r162 M163 => if r159 = r162 then rec (v3 + 6) M163 else some (.inr (0, M163))))))), (26, sald n xs (v3 + 1) (fun x164 => bnd (f_C_steady x164 M) (fun r165 M166 => sald n xs (v3 + 1) (fun x167 => bnd (f_Mo_steady x167 M166) (fun r168 M169 => if r165 = r168 then rec (v3 + 6) M169 else some (.inr (0, M169))))))), (27, sald n xs (v3 + 1) (fun x170 => bnd (f_C_rows x170 M) (fun r171 M172 => sald n xs (v3 + 1) (fun x173 => bnd (f_Mo_rows x173 M172) (fun r174 M175 => if r171 = r174 then rec (v3 + 6) M175 else some (.inr (0, M175))))))), (28, sald n xs (v3 + 1) (fun x176 => bnd (f_C_game x176 M) (fun r177 M178 => sald n xs (v3 + 1) (fun x179 => bnd (f_Mo_game x179 M178) (fun r180 M181 => if r177 = r180 then rec (v3 + 6) M181 else some (.inr (0, M181))))))), (29, sald n xs (v3 + 1) (fun x182 => bnd (f_C_again x182 M) (fun r183 M184 => sald n xs (v3 + 1) (fun x185 => bnd (f_Mo_again x185 M184) (fun r186 M187 => if r183 = r186 then rec (v3 + 6) M187 else some (.inr (0, M187))))))), (30, sald n xs (v3 + 1) (fun x188 => bnd (f_C_pasts x188 M) (fun r189 M190 => sald n xs (v3 + 1) (fun x191 => bnd (f_Mo_pasts x191 M190) (fun r192 M193 => if r189 = r192 then rec (v3 + 6) M193 else some (.inr (0, M193))))))), (31, bnd (f_C_still  M) (fun r194 M195 => bnd (f_Mo_still  M195) (fun r196 M197 => if r194 = r196 then rec (v3 + 6) M197 else some (.inr (0, M197))))), (32, sald n xs (v3 + 1) (fun x198 => bnd (f_C_knot x198 M) (fun r199 M200 => sald n xs (v3 + 1) (fun x201 => bnd (f_Mo_knot x201 M200) (fun r202 M203 => if r199 = r202 then rec (v3 + 6) M203 else some (.inr (0, M203))))))), (33, sald n xs (v3 + 1) (fun x204 => bnd (f_C_more x204 M) (fun r205 M206 => sald n xs (v3 + 1) (fun x207 => bnd (f_Mo_more x207 M206) (fun r208 M209 => if r205 = r208 then rec (v3 + 6) M209 else some (.inr (0, M209))))))), (34, sald n xs (v3 + 1) (fun x210 => bnd (f_C_exchange x210 M) (fun r211 M212 => sald n xs (v3 + 1) (fun x213 => bnd (f_Mo_exchange x213 M212) (fun r214 M215 => if r211 = r214 then rec (v3 + 6) M215 else some (.inr (0, M215))))))), (35, bnd (f_C_loosen  M) (fun r216 M217 => bnd (f_Mo_loosen  M217) (fun r218 M219 => if r216 = r218 then rec (v3 + 6) M219 else some (.inr (0, M219))))), (36, sald n xs (v3 + 1) (fun x220 => bnd (f_C_boldest x220 M) (fun r221 M222 => sald n xs (v3 + 1) (fun x223 => bnd (f_Mo_boldest x223 M222) (fun r224 M225 => if r221 = r224 then rec (v3 + 6) M225 else some (.inr (0, M225))))))), (37, bnd (f_C_dearest  M) (fun r226 M227 => bnd (f_Mo_dearest  M227) (fun r228 M229 => if r226 = r228 then rec (v3 + 6) M229 else some (.inr (0, M229))))), (38, bnd (f_C_odd  M) (fun r230 M231 => bnd (f_Mo_odd  M231) (fun r232 M233 => if r230 = r232 then rec (v3 + 6) M233 else some (.inr (0, M233))))), (39, sald n xs (v3 + 1) (fun x234 => bnd (f_C_alike x234 M) (fun r235 M236 => sald n xs (v3 + 1) (fun x237 => bnd (f_Mo_alike x237 M236) (fun r238 M239 => if r235 = r238 then rec (v3 + 6) M239 else some (.inr (0, M239))))))), (40, bnd (f_C_alone  M) (fun r240 M241 => bnd (f_Mo_alone  M241) (fun r242 M243 => if r240 = r242 then rec (v3 + 6) M243 else some (.inr (0, M243))))), (41, bnd (f_C_burning  M) (fun r244 M245 => bnd (f_Mo_burning  M245) (fun r246 M247 => if r244 = r246 then rec (v3 + 6) M247 else some (.inr (0, M247))))), (42, bnd (f_C_load  M) (fun r248 M249 => bnd (f_Mo_load  M249) (fun r250 M251 => if r248 = r250 then rec (v3 + 6) M251 else some (.inr (0, M251))))), (43, bnd (f_C_longest  M) (fun r252 M253 => bnd (f_Mo_longest  M253) (fun r254 M255 => if r252 = r254 then rec (v3 + 6) M255 else some (.inr (0, M255))))), (44, sald n xs (v3 + 1) (fun x256 => bnd (f_C_law x256 M) (fun r257 M258 => sald n xs (v3 + 1) (fun x259 => bnd (f_Mo_law x259 M258) (fun r260 M261 => if r257 = r260 then rec (v3 + 6) M261 else some (.inr (0, M261))))))), (45, sald n xs (v3 + 1) (fun x262 => sald n xs (v3 + 2) (fun x263 => bnd (f_C_odds x262 x263 M) (fun r264 M265 => sald n xs (v3 + 1) (fun x266 => sald n xs (v3 + 2) (fun x267 => bnd (f_Mo_odds x266 x267 M265) (fun r268 M269 => if r264 = r268 then rec (v3 + 6) M269 else some (.inr (0, M269))))))))), (46, sald n xs (v3 + 1) (fun x270 => bnd (f_C_lies x270 M) (fun r271 M272 => sald n xs (v3 + 1) (fun x273 => bnd (f_Mo_lies x273 M272) (fun r274 M275 => if r271 = r274 then rec (v3 + 6) M275 else some (.inr (0, M275))))))), (47, sald n xs (v3 + 1) (fun x276 => sald n xs (v3 + 2) (fun x277 => if x277 = 0 then f_Law_law_j1336 n xs rec v3 x276 0 M else f_Law_law_j1336 n xs rec v3 x276 1 M))), (48, sald n xs (v3 + 1) (fun x278 => bnd (f_C_untell x278 M) (fun r279 M280 => sald n xs (v3 + 1) (fun x281 => bnd (f_Mo_untell x281 M280) (fun r282 M283 => if r279 = r282 then rec (v3 + 6) M283 else some (.inr (0, M283))))))), (49, sald n xs (v3 + 1) (fun x284 => bnd (f_C_later x284 M) (fun r285 M286 => sald n xs (v3 + 1) (fun x287 => bnd (f_Mo_later x287 M286) (fun r288 M289 => if r285 = r288 then rec (v3 + 6) M289 else some (.inr (0, M289))))))), (50, sald n xs (v3 + 1) (fun x290 => bnd (f_C_fits x290 M) (fun r291 M292 => sald n xs (v3 + 1) (fun x293 => bnd (f_Mo_fits x293 M292) (fun r294 M295 => if r291 = r294 then rec (v3 + 6) M295 else some (.inr (0, M295))))))), (51, sald n xs (v3 + 1) (fun x296 => bnd (f_C_fit x296 M) (fun r297 M298 => sald n xs (v3 + 1) (fun x299 => bnd (f_Mo_fit x299 M298) (fun r300 M301 => if r297 = r300 then rec (v3 + 6) M301 else some (.inr (0, M301))))))), (52, sald n xs (v3 + 1) (fun x302 => sald n xs (v3 + 2) (fun x303 => bnd (f_C_sure x302 x303 M) (fun r304 M305 => sald n xs (v3 + 1) (fun x306 => sald n xs (v3 + 2) (fun x307 => bnd (f_Mo_sure x306 x307 M305) (fun r308 M309 => if r304 = r308 then rec (v3 + 6) M309 else some (.inr (0, M309))))))))), (53, sald n xs (v3 + 1) (fun x310 => sald n xs (v3 + 2) (fun x311 => bnd (f_C_ask x310 x311 M) (fun r312 M313 => sald n xs (v3 + 1) (fun x314 => sald n xs (v3 + 2) (fun x315 => bnd (f_Mo_ask x314 x315 M313) (fun r316 M317 => if r312 = r316 then rec (v3 + 6) M317 else some (.inr (0, M317))))))))), (54, sald n xs (v3 + 1) (fun x318 => bnd (f_C_image x318 M) (fun r319 M320 => sald n xs (v3 + 1) (fun x321 => bnd (f_Mo_image x321 M320) (fun r322 M323 => if r319 = r322 then rec (v3 + 6) M323 else some (.inr (0, M323))))))), (55, sald n xs (v3 + 1) (fun x324 => bnd (f_C_back x324 M) (fun r325 M326 => sald n xs (v3 + 1) (fun x327 => bnd (f_Mo_back x327 M326) (fun r328 M329 => if r325 = r328 then rec (v3 + 6) M329 else some (.inr (0, M329))))))), (56, sald n xs (v3 + 1) (fun x330 => bnd (f_C_about x330 M) (fun r331 M332 => sald n xs (v3 + 1) (fun x333 => bnd (f_Mo_about x333 M332) (fun r334 M335 => if r331 = r334 then rec (v3 + 6) M335 else some (.inr (0, M335)))))))] (rec (v3 + 6) M))
def f_Law_law_l18 (nn : Nat) (xs : Nat → Int32)  : Nat → Int32 → AM → Option ((Unit × AM) ⊕ (Int32 × AM))
  | 0, _, _ => none
  | n + 1, v3, M => f_Law_law_b18 nn xs (f_Law_law_l18 nn xs  n)  v3 M
set_option maxRecDepth 20000 in
theorem t_Law_law_b18 {G : GT} {d : Nat} {n nc ns : Nat} {xs : Nat → Int32}  {v3 : Int32} {M : AM} {Q : AM → Option Value → Prop} {o : (Unit × AM) ⊕ (Int32 × AM)} {rec : Int32 → AM → Option ((Unit × AM) ⊕ (Int32 × AM))} (hN : nc ≤ mcT 329 ∧ ns ≤ msT 329) (hn : gLn G = n) (hx : gxs G = xs) (hrec : ∀ (v3 : Int32) (M : AM), WT M → rec v3 M = some o → PW G (d + 108) 329 18 [.ref 1000, .ref 0, .ref 105, .int v3] [] M nc ns Q) (k1 : ∀ (yo : Unit) (Mo : AM), o = .inl (yo, Mo) → WT Mo → PW G (d + 108) 329 1599 [ux, ux, ux, ux] [] Mo nc ns Q) (k2 : ∀ (r : Int32) (M' : AM), o = .inr (r, M') → WT M' → (r = 0 ∨ r = 1) → Q M' (some (.int r))) (hW : WT M)   (hf : f_Law_law_b18 n xs rec  v3 M = some o) : PW G (d + 108) 329 18 [.ref 1000, .ref 0, .ref 105, .int v3] [] M nc ns Q := by
  refine P_iload_n d_329_18 rfl ?_
  refine P_aload_n d_329_19 rfl ?_
  refine P_slen d_329_20 (by rw [hn]) ?_
  refine P_bipush d_329_21 bi_6 ?_
  refine P_isub d_329_23 ?_
  refine B_icmp_gt (tgt := 1599) d_329_24 rfl hf (fun hf => ?_) (fun hf => ?_)
  · refine B_fgt [false, false, false, false] ?_
    cases hf
    exact k1 _ _ rfl hW 
  · refine P_aload_n d_329_27 rfl ?_
    refine P_iload_n d_329_28 rfl ?_
    refine B_sld d_329_29 hn hx hf (fun hf => ?_)
    refine P_bipush d_329_30 bi_63 ?_
    refine P_iand d_329_32 ?_
    refine B_tsw [0, 1, 2, 3, 4, 5, 6, 7, 8, 9, 10, 11, 12, 13, 14, 15, 16, 17, 18, 19, 20, 21, 22, 23, 24, 25, 26, 27, 28, 29, 30, 31, 32, 33, 34, 35, 36, 37, 38, 39, 40, 41, 42, 43, 44, 45, 46, 47, 48, 49, 50, 51, 52, 53, 54, 55, 56] [276, 339, 362, 375, 398, 431, 464, 477, 500, 523, 546, 559, 572, 585, 618, 641, 674, 707, 730, 753, 766, 779, 802, 825, 858, 881, 904, 927, 950, 973, 996, 1019, 1032, 1055, 1078, 1101, 1114, 1137, 1150, 1163, 1186, 1199, 1212, 1225, 1238, 1261, 1294, 1317, 1366, 1389, 1412, 1435, 1458, 1491, 1524, 1547, 1570] 1593 d_329_33 rfl (by decide +kernel) hf (fun i A t h1 h2 hf => ?_) (fun hf => ?_)
    · match i, h1, h2 with
      | 0, h1, h2 =>
        have h3 := (Prod.mk.inj (Option.some.inj h1)).2
        have h4 := Option.some.inj h2
        subst h3; subst h4; clear h1 h2
        refine P_aload_n d_329_276 rfl ?_
        refine P_aload_n d_329_277 rfl ?_
        refine P_iload_n d_329_278 rfl ?_
        refine B_iconst d_329_279 ic_1 ?_
        refine P_iadd d_329_280 ?_
        refine B_sld d_329_281 hn hx hf (fun hf => ?_)
        refine P_aload_n d_329_282 rfl ?_
        refine P_iload_n d_329_283 rfl ?_
        refine B_iconst d_329_284 ic_2 ?_
        refine P_iadd d_329_285 ?_
        refine B_sld d_329_286 hn hx hf (fun hf => ?_)
        refine P_aload_n d_329_287 rfl ?_
        refine P_iload_n d_329_288 rfl ?_
        refine B_iconst d_329_289 ic_3 ?_
        refine P_iadd d_329_290 ?_
        refine B_sld d_329_291 hn hx hf (fun hf => ?_)
        refine P_aload_n d_329_292 rfl ?_
        refine P_iload_n d_329_293 rfl ?_
        refine B_iconst d_329_294 ic_4 ?_
        refine P_iadd d_329_295 ?_
        refine B_sld d_329_296 hn hx hf (fun hf => ?_)
        refine P_aload_n d_329_297 rfl ?_
        refine P_iload_n d_329_298 rfl ?_
        refine B_iconst d_329_299 ic_5 ?_
        refine P_iadd d_329_300 ?_
        refine B_sld d_329_301 hn hx hf (fun hf => ?_)
        refine B_V5 hN d_329_302 vk_329_13 ml_13 rfl k_0 hW rfl hf (fun r7 M8 hc hf => t_C_feed hW  hc (fun hW => ?_))
        refine P_aload_n d_329_305 rfl ?_
        refine P_aload_n d_329_306 rfl ?_
        refine P_iload_n d_329_307 rfl ?_
        refine B_iconst d_329_308 ic_1 ?_
        refine P_iadd d_329_309 ?_
        refine B_sld d_329_310 hn hx hf (fun hf => ?_)
        refine P_aload_n d_329_311 rfl ?_
        refine P_iload_n d_329_312 rfl ?_
        refine B_iconst d_329_313 ic_2 ?_
        refine P_iadd d_329_314 ?_
        refine B_sld d_329_315 hn hx hf (fun hf => ?_)
        refine P_aload_n d_329_316 rfl ?_
        refine P_iload_n d_329_317 rfl ?_
        refine B_iconst d_329_318 ic_3 ?_
        refine P_iadd d_329_319 ?_
        refine B_sld d_329_320 hn hx hf (fun hf => ?_)
        refine P_aload_n d_329_321 rfl ?_
        refine P_iload_n d_329_322 rfl ?_
        refine B_iconst d_329_323 ic_4 ?_
        refine P_iadd d_329_324 ?_
        refine B_sld d_329_325 hn hx hf (fun hf => ?_)
        refine P_aload_n d_329_326 rfl ?_
        refine P_iload_n d_329_327 rfl ?_
        refine B_iconst d_329_328 ic_5 ?_
        refine P_iadd d_329_329 ?_
        refine B_sld d_329_330 hn hx hf (fun hf => ?_)
        refine B_V5 hN d_329_331 vk_329_17 ml_200 rfl k_105 hW rfl hf (fun r14 M15 hc hf => t_Mo_feed hW  hc (fun hW => ?_))
        refine B_icmp_eq (tgt := 1593) d_329_334 rfl hf (fun hf => ?_) (fun hf => ?_)
        · refine B_iinc d_329_1593 ic_6 rfl ml_329 rfl rfl ?_
          refine P_goto (tgt := 18) d_329_1596 rfl ?_
          exact hrec _ _ hW  hf
        · refine B_iconst d_329_337 ic_0 ?_
          cases hf
          exact B_zret hN d_329_338 mr_329 hW (Or.inl rfl) rfl (fun hW hb => k2 _ _ rfl hW hb)
      | 1, h1, h2 =>
        have h3 := (Prod.mk.inj (Option.some.inj h1)).2
        have h4 := Option.some.inj h2
        subst h3; subst h4; clear h1 h2
        refine P_aload_n d_329_339 rfl ?_
        refine P_aload_n d_329_340 rfl ?_
        refine P_iload_n d_329_341 rfl ?_
        refine B_iconst d_329_342 ic_1 ?_
        refine P_iadd d_329_343 ?_
        refine B_sld d_329_344 hn hx hf (fun hf => ?_)
        refine B_V1 hN d_329_345 vk_329_18 ml_15 rfl k_0 hW rfl hf (fun r17 M18 hc hf => t_C_end hW  hc (fun hW => ?_))
        refine P_aload_n d_329_348 rfl ?_
        refine P_aload_n d_329_349 rfl ?_
        refine P_iload_n d_329_350 rfl ?_
        refine B_iconst d_329_351 ic_1 ?_
        refine P_iadd d_329_352 ?_
        refine B_sld d_329_353 hn hx hf (fun hf => ?_)
        refine B_V1 hN d_329_354 vk_329_22 ml_202 rfl k_105 hW rfl hf (fun r20 M21 hc hf => t_Mo_end hW  hc (fun hW => ?_))
        refine B_icmp_eq (tgt := 1593) d_329_357 rfl hf (fun hf => ?_) (fun hf => ?_)
        · refine B_iinc d_329_1593 ic_6 rfl ml_329 rfl rfl ?_
          refine P_goto (tgt := 18) d_329_1596 rfl ?_
          exact hrec _ _ hW  hf
        · refine B_iconst d_329_360 ic_0 ?_
          cases hf
          exact B_zret hN d_329_361 mr_329 hW (Or.inl rfl) rfl (fun hW hb => k2 _ _ rfl hW hb)
      | 2, h1, h2 =>
        have h3 := (Prod.mk.inj (Option.some.inj h1)).2
        have h4 := Option.some.inj h2
        subst h3; subst h4; clear h1 h2
        refine P_aload_n d_329_362 rfl ?_
        refine B_V0 hN d_329_363 vk_329_23 ml_16 rfl k_0 hW rfl hf (fun r22 M23 hc hf => t_C_loft hW  hc (fun hW => ?_))
        refine P_aload_n d_329_366 rfl ?_
        refine B_V0 hN d_329_367 vk_329_27 ml_203 rfl k_105 hW rfl hf (fun r24 M25 hc hf => t_Mo_loft hW  hc (fun hW => ?_))
        refine B_icmp_eq (tgt := 1593) d_329_370 rfl hf (fun hf => ?_) (fun hf => ?_)
        · refine B_iinc d_329_1593 ic_6 rfl ml_329 rfl rfl ?_
          refine P_goto (tgt := 18) d_329_1596 rfl ?_
          exact hrec _ _ hW  hf
        · refine B_iconst d_329_373 ic_0 ?_
          cases hf
          exact B_zret hN d_329_374 mr_329 hW (Or.inl rfl) rfl (fun hW hb => k2 _ _ rfl hW hb)
      | 3, h1, h2 =>
        have h3 := (Prod.mk.inj (Option.some.inj h1)).2
        have h4 := Option.some.inj h2
        subst h3; subst h4; clear h1 h2
        refine P_aload_n d_329_375 rfl ?_
        refine P_aload_n d_329_376 rfl ?_
        refine P_iload_n d_329_377 rfl ?_
        refine B_iconst d_329_378 ic_1 ?_
        refine P_iadd d_329_379 ?_
        refine B_sld d_329_380 hn hx hf (fun hf => ?_)
        refine B_V1 hN d_329_381 vk_329_28 ml_83 rfl k_0 hW rfl hf (fun r27 M28 hc hf => t_C_fault hW  hc (fun hW => ?_))
        refine P_aload_n d_329_384 rfl ?_
        refine P_aload_n d_329_385 rfl ?_
        refine P_iload_n d_329_386 rfl ?_
        refine B_iconst d_329_387 ic_1 ?_
        refine P_iadd d_329_388 ?_
        refine B_sld d_329_389 hn hx hf (fun hf => ?_)
        refine B_V1 hN d_329_390 vk_329_31 ml_240 rfl k_105 hW rfl hf (fun r30 M31 hc hf => t_Mo_fault hW  hc (fun hW => ?_))
        refine B_icmp_eq (tgt := 1593) d_329_393 rfl hf (fun hf => ?_) (fun hf => ?_)
        · refine B_iinc d_329_1593 ic_6 rfl ml_329 rfl rfl ?_
          refine P_goto (tgt := 18) d_329_1596 rfl ?_
          exact hrec _ _ hW  hf
        · refine B_iconst d_329_396 ic_0 ?_
          cases hf
          exact B_zret hN d_329_397 mr_329 hW (Or.inl rfl) rfl (fun hW hb => k2 _ _ rfl hW hb)
      | 4, h1, h2 =>
        have h3 := (Prod.mk.inj (Option.some.inj h1)).2
        have h4 := Option.some.inj h2
        subst h3; subst h4; clear h1 h2
        refine P_aload_n d_329_398 rfl ?_
        refine P_aload_n d_329_399 rfl ?_
        refine P_iload_n d_329_400 rfl ?_
        refine B_iconst d_329_401 ic_1 ?_
        refine P_iadd d_329_402 ?_
        refine B_sld d_329_403 hn hx hf (fun hf => ?_)
        refine P_aload_n d_329_404 rfl ?_
        refine P_iload_n d_329_405 rfl ?_
        refine B_iconst d_329_406 ic_2 ?_
        refine P_iadd d_329_407 ?_
        refine B_sld d_329_408 hn hx hf (fun hf => ?_)
        refine B_V2 hN d_329_409 vk_329_32 ml_85 rfl k_0 hW rfl hf (fun r34 M35 hc hf => t_C_lamp hW  hc (fun hW => ?_))
        refine P_aload_n d_329_412 rfl ?_
        refine P_aload_n d_329_413 rfl ?_
        refine P_iload_n d_329_414 rfl ?_
        refine B_iconst d_329_415 ic_1 ?_
        refine P_iadd d_329_416 ?_
        refine B_sld d_329_417 hn hx hf (fun hf => ?_)
        refine P_aload_n d_329_418 rfl ?_
        refine P_iload_n d_329_419 rfl ?_
        refine B_iconst d_329_420 ic_2 ?_
        refine P_iadd d_329_421 ?_
        refine B_sld d_329_422 hn hx hf (fun hf => ?_)
        refine B_V2 hN d_329_423 vk_329_36 ml_241 rfl k_105 hW rfl hf (fun r38 M39 hc hf => t_Mo_lamp hW  hc (fun hW => ?_))
        refine B_icmp_eq (tgt := 1593) d_329_426 rfl hf (fun hf => ?_) (fun hf => ?_)
        · refine B_iinc d_329_1593 ic_6 rfl ml_329 rfl rfl ?_
          refine P_goto (tgt := 18) d_329_1596 rfl ?_
          exact hrec _ _ hW  hf
        · refine B_iconst d_329_429 ic_0 ?_
          cases hf
          exact B_zret hN d_329_430 mr_329 hW (Or.inl rfl) rfl (fun hW hb => k2 _ _ rfl hW hb)
      | 5, h1, h2 =>
        have h3 := (Prod.mk.inj (Option.some.inj h1)).2
        have h4 := Option.some.inj h2
        subst h3; subst h4; clear h1 h2
        refine P_aload_n d_329_431 rfl ?_
        refine P_aload_n d_329_432 rfl ?_
        refine P_iload_n d_329_433 rfl ?_
        refine B_iconst d_329_434 ic_1 ?_
        refine P_iadd d_329_435 ?_
        refine B_sld d_329_436 hn hx hf (fun hf => ?_)
        refine P_aload_n d_329_437 rfl ?_
        refine P_iload_n d_329_438 rfl ?_
        refine B_iconst d_329_439 ic_2 ?_
        refine P_iadd d_329_440 ?_
        refine B_sld d_329_441 hn hx hf (fun hf => ?_)
        refine B_V2 hN d_329_442 vk_329_37 ml_87 rfl k_0 hW rfl hf (fun r42 M43 hc hf => t_C_cord hW  hc (fun hW => ?_))
        refine P_aload_n d_329_445 rfl ?_
        refine P_aload_n d_329_446 rfl ?_
        refine P_iload_n d_329_447 rfl ?_
        refine B_iconst d_329_448 ic_1 ?_
        refine P_iadd d_329_449 ?_
        refine B_sld d_329_450 hn hx hf (fun hf => ?_)
        refine P_aload_n d_329_451 rfl ?_
        refine P_iload_n d_329_452 rfl ?_
        refine B_iconst d_329_453 ic_2 ?_
        refine P_iadd d_329_454 ?_
        refine B_sld d_329_455 hn hx hf (fun hf => ?_)
        refine B_V2 hN d_329_456 vk_329_40 ml_245 rfl k_105 hW rfl hf (fun r46 M47 hc hf => t_Mo_cord hW  hc (fun hW => ?_))
        refine B_icmp_eq (tgt := 1593) d_329_459 rfl hf (fun hf => ?_) (fun hf => ?_)
        · refine B_iinc d_329_1593 ic_6 rfl ml_329 rfl rfl ?_
          refine P_goto (tgt := 18) d_329_1596 rfl ?_
          exact hrec _ _ hW  hf
        · refine B_iconst d_329_462 ic_0 ?_
          cases hf
          exact B_zret hN d_329_463 mr_329 hW (Or.inl rfl) rfl (fun hW hb => k2 _ _ rfl hW hb)
      | 6, h1, h2 =>
        have h3 := (Prod.mk.inj (Option.some.inj h1)).2
        have h4 := Option.some.inj h2
        subst h3; subst h4; clear h1 h2
        refine P_aload_n d_329_464 rfl ?_
        refine B_V0 hN d_329_465 vk_329_41 ml_89 rfl k_0 hW rfl hf (fun r48 M49 hc hf => t_C_picture hW  hc (fun hW => ?_))
        refine P_aload_n d_329_468 rfl ?_
        refine B_V0 hN d_329_469 vk_329_44 ml_247 rfl k_105 hW rfl hf (fun r50 M51 hc hf => t_Mo_picture hW  hc (fun hW => ?_))
        refine B_icmp_eq (tgt := 1593) d_329_472 rfl hf (fun hf => ?_) (fun hf => ?_)
        · refine B_iinc d_329_1593 ic_6 rfl ml_329 rfl rfl ?_
          refine P_goto (tgt := 18) d_329_1596 rfl ?_
          exact hrec _ _ hW  hf
        · refine B_iconst d_329_475 ic_0 ?_
          cases hf
          exact B_zret hN d_329_476 mr_329 hW (Or.inl rfl) rfl (fun hW hb => k2 _ _ rfl hW hb)
      | 7, h1, h2 =>
        have h3 := (Prod.mk.inj (Option.some.inj h1)).2
        have h4 := Option.some.inj h2
        subst h3; subst h4; clear h1 h2
        refine P_aload_n d_329_477 rfl ?_
        refine P_aload_n d_329_478 rfl ?_
        refine P_iload_n d_329_479 rfl ?_
        refine B_iconst d_329_480 ic_1 ?_
        refine P_iadd d_329_481 ?_
        refine B_sld d_329_482 hn hx hf (fun hf => ?_)
        refine B_V1 hN d_329_483 vk_329_45 ml_90 rfl k_0 hW rfl hf (fun r53 M54 hc hf => t_C_pull hW  hc (fun hW => ?_))
        refine P_aload_n d_329_486 rfl ?_
        refine P_aload_n d_329_487 rfl ?_
        refine P_iload_n d_329_488 rfl ?_
        refine B_iconst d_329_489 ic_1 ?_
        refine P_iadd d_329_490 ?_
        refine B_sld d_329_491 hn hx hf (fun hf => ?_)
        refine B_V1 hN d_329_492 vk_329_48 ml_248 rfl k_105 hW rfl hf (fun r56 M57 hc hf => t_Mo_pull hW  hc (fun hW => ?_))
        refine B_icmp_eq (tgt := 1593) d_329_495 rfl hf (fun hf => ?_) (fun hf => ?_)
        · refine B_iinc d_329_1593 ic_6 rfl ml_329 rfl rfl ?_
          refine P_goto (tgt := 18) d_329_1596 rfl ?_
          exact hrec _ _ hW  hf
        · refine B_iconst d_329_498 ic_0 ?_
          cases hf
          exact B_zret hN d_329_499 mr_329 hW (Or.inl rfl) rfl (fun hW hb => k2 _ _ rfl hW hb)
      | 8, h1, h2 =>
        have h3 := (Prod.mk.inj (Option.some.inj h1)).2
        have h4 := Option.some.inj h2
        subst h3; subst h4; clear h1 h2
        refine P_aload_n d_329_500 rfl ?_
        refine P_aload_n d_329_501 rfl ?_
        refine P_iload_n d_329_502 rfl ?_
        refine B_iconst d_329_503 ic_1 ?_
        refine P_iadd d_329_504 ?_
        refine B_sld d_329_505 hn hx hf (fun hf => ?_)
        refine B_V1 hN d_329_506 vk_329_49 ml_96 rfl k_0 hW rfl hf (fun r59 M60 hc hf => t_C_tie hW  hc (fun hW => ?_))
        refine P_aload_n d_329_509 rfl ?_
        refine P_aload_n d_329_510 rfl ?_
        refine P_iload_n d_329_511 rfl ?_
        refine B_iconst d_329_512 ic_1 ?_
        refine P_iadd d_329_513 ?_
        refine B_sld d_329_514 hn hx hf (fun hf => ?_)
        refine B_V1 hN d_329_515 vk_329_52 ml_252 rfl k_105 hW rfl hf (fun r62 M63 hc hf => t_Mo_tie hW  hc (fun hW => ?_))
        refine B_icmp_eq (tgt := 1593) d_329_518 rfl hf (fun hf => ?_) (fun hf => ?_)
        · refine B_iinc d_329_1593 ic_6 rfl ml_329 rfl rfl ?_
          refine P_goto (tgt := 18) d_329_1596 rfl ?_
          exact hrec _ _ hW  hf
        · refine B_iconst d_329_521 ic_0 ?_
          cases hf
          exact B_zret hN d_329_522 mr_329 hW (Or.inl rfl) rfl (fun hW hb => k2 _ _ rfl hW hb)
      | 9, h1, h2 =>
        have h3 := (Prod.mk.inj (Option.some.inj h1)).2
        have h4 := Option.some.inj h2
        subst h3; subst h4; clear h1 h2
        refine P_aload_n d_329_523 rfl ?_
        refine P_aload_n d_329_524 rfl ?_
        refine P_iload_n d_329_525 rfl ?_
        refine B_iconst d_329_526 ic_1 ?_
        refine P_iadd d_329_527 ?_
        refine B_sld d_329_528 hn hx hf (fun hf => ?_)
        refine B_V1 hN d_329_529 vk_329_53 ml_97 rfl k_0 hW rfl hf (fun r65 M66 hc hf => t_C_loose hW  hc (fun hW => ?_))
        refine P_aload_n d_329_532 rfl ?_
        refine P_aload_n d_329_533 rfl ?_
        refine P_iload_n d_329_534 rfl ?_
        refine B_iconst d_329_535 ic_1 ?_
        refine P_iadd d_329_536 ?_
        refine B_sld d_329_537 hn hx hf (fun hf => ?_)
        refine B_V1 hN d_329_538 vk_329_56 ml_254 rfl k_105 hW rfl hf (fun r68 M69 hc hf => t_Mo_loose hW  hc (fun hW => ?_))
        refine B_icmp_eq (tgt := 1593) d_329_541 rfl hf (fun hf => ?_) (fun hf => ?_)
        · refine B_iinc d_329_1593 ic_6 rfl ml_329 rfl rfl ?_
          refine P_goto (tgt := 18) d_329_1596 rfl ?_
          exact hrec _ _ hW  hf
        · refine B_iconst d_329_544 ic_0 ?_
          cases hf
          exact B_zret hN d_329_545 mr_329 hW (Or.inl rfl) rfl (fun hW hb => k2 _ _ rfl hW hb)
      | 10, h1, h2 =>
        have h3 := (Prod.mk.inj (Option.some.inj h1)).2
        have h4 := Option.some.inj h2
        subst h3; subst h4; clear h1 h2
        refine P_aload_n d_329_546 rfl ?_
        refine B_V0 hN d_329_547 vk_329_57 ml_99 rfl k_0 hW rfl hf (fun r70 M71 hc hf => t_C_dusk hW  hc (fun hW => ?_))
        refine P_aload_n d_329_550 rfl ?_
        refine B_V0 hN d_329_551 vk_329_60 ml_255 rfl k_105 hW rfl hf (fun r72 M73 hc hf => t_Mo_dusk hW  hc (fun hW => ?_))
        refine B_icmp_eq (tgt := 1593) d_329_554 rfl hf (fun hf => ?_) (fun hf => ?_)
        · refine B_iinc d_329_1593 ic_6 rfl ml_329 rfl rfl ?_
          refine P_goto (tgt := 18) d_329_1596 rfl ?_
          exact hrec _ _ hW  hf
        · refine B_iconst d_329_557 ic_0 ?_
          cases hf
          exact B_zret hN d_329_558 mr_329 hW (Or.inl rfl) rfl (fun hW hb => k2 _ _ rfl hW hb)
      | 11, h1, h2 =>
        have h3 := (Prod.mk.inj (Option.some.inj h1)).2
        have h4 := Option.some.inj h2
        subst h3; subst h4; clear h1 h2
        refine P_aload_n d_329_559 rfl ?_
        refine B_V0 hN d_329_560 vk_329_61 ml_108 rfl k_0 hW rfl hf (fun r74 M75 hc hf => t_C_undo hW  hc (fun hW hb75 => ?_))
        refine P_aload_n d_329_563 rfl ?_
        refine B_V0 hN d_329_564 vk_329_65 ml_261 rfl k_105 hW rfl hf (fun r76 M77 hc hf => t_Mo_undo hW  hc (fun hW hb77 => ?_))
        refine B_icmp_eq (tgt := 1593) d_329_567 rfl hf (fun hf => ?_) (fun hf => ?_)
        · refine B_iinc d_329_1593 ic_6 rfl ml_329 rfl rfl ?_
          refine P_goto (tgt := 18) d_329_1596 rfl ?_
          exact hrec _ _ hW  hf
        · refine B_iconst d_329_570 ic_0 ?_
          cases hf
          exact B_zret hN d_329_571 mr_329 hW (Or.inl rfl) rfl (fun hW hb => k2 _ _ rfl hW hb)
      | 12, h1, h2 =>
        have h3 := (Prod.mk.inj (Option.some.inj h1)).2
        have h4 := Option.some.inj h2
        subst h3; subst h4; clear h1 h2
        refine P_aload_n d_329_572 rfl ?_
        refine B_V0 hN d_329_573 vk_329_66 ml_110 rfl k_0 hW rfl hf (fun r78 M79 hc hf => t_C_redo hW  hc (fun hW hb79 => ?_))
        refine P_aload_n d_329_576 rfl ?_
        refine B_V0 hN d_329_577 vk_329_69 ml_263 rfl k_105 hW rfl hf (fun r80 M81 hc hf => t_Mo_redo hW  hc (fun hW hb81 => ?_))
        refine B_icmp_eq (tgt := 1593) d_329_580 rfl hf (fun hf => ?_) (fun hf => ?_)
        · refine B_iinc d_329_1593 ic_6 rfl ml_329 rfl rfl ?_
          refine P_goto (tgt := 18) d_329_1596 rfl ?_
          exact hrec _ _ hW  hf
        · refine B_iconst d_329_583 ic_0 ?_
          cases hf
          exact B_zret hN d_329_584 mr_329 hW (Or.inl rfl) rfl (fun hW hb => k2 _ _ rfl hW hb)
      | 13, h1, h2 =>
        have h3 := (Prod.mk.inj (Option.some.inj h1)).2
        have h4 := Option.some.inj h2
        subst h3; subst h4; clear h1 h2
        refine P_aload_n d_329_585 rfl ?_
        refine P_aload_n d_329_586 rfl ?_
        refine P_iload_n d_329_587 rfl ?_
        refine B_iconst d_329_588 ic_1 ?_
        refine P_iadd d_329_589 ?_
        refine B_sld d_329_590 hn hx hf (fun hf => ?_)
        refine P_aload_n d_329_591 rfl ?_
        refine P_iload_n d_329_592 rfl ?_
        refine B_iconst d_329_593 ic_2 ?_
        refine P_iadd d_329_594 ?_
        refine B_sld d_329_595 hn hx hf (fun hf => ?_)
        refine B_V2 hN d_329_596 vk_329_70 ml_112 rfl k_0 hW rfl hf (fun r84 M85 hc hf => t_C_will hW  hc (fun hW => ?_))
        refine P_aload_n d_329_599 rfl ?_
        refine P_aload_n d_329_600 rfl ?_
        refine P_iload_n d_329_601 rfl ?_
        refine B_iconst d_329_602 ic_1 ?_
        refine P_iadd d_329_603 ?_
        refine B_sld d_329_604 hn hx hf (fun hf => ?_)
        refine P_aload_n d_329_605 rfl ?_
        refine P_iload_n d_329_606 rfl ?_
        refine B_iconst d_329_607 ic_2 ?_
        refine P_iadd d_329_608 ?_
        refine B_sld d_329_609 hn hx hf (fun hf => ?_)
        refine B_V2 hN d_329_610 vk_329_73 ml_264 rfl k_105 hW rfl hf (fun r88 M89 hc hf => t_Mo_will hW  hc (fun hW => ?_))
        refine B_icmp_eq (tgt := 1593) d_329_613 rfl hf (fun hf => ?_) (fun hf => ?_)
        · refine B_iinc d_329_1593 ic_6 rfl ml_329 rfl rfl ?_
          refine P_goto (tgt := 18) d_329_1596 rfl ?_
          exact hrec _ _ hW  hf
        · refine B_iconst d_329_616 ic_0 ?_
          cases hf
          exact B_zret hN d_329_617 mr_329 hW (Or.inl rfl) rfl (fun hW hb => k2 _ _ rfl hW hb)
      | 14, h1, h2 =>
        have h3 := (Prod.mk.inj (Option.some.inj h1)).2
        have h4 := Option.some.inj h2
        subst h3; subst h4; clear h1 h2
        refine P_aload_n d_329_618 rfl ?_
        refine P_aload_n d_329_619 rfl ?_
        refine P_iload_n d_329_620 rfl ?_
        refine B_iconst d_329_621 ic_1 ?_
        refine P_iadd d_329_622 ?_
        refine B_sld d_329_623 hn hx hf (fun hf => ?_)
        refine B_V1 hN d_329_624 vk_329_74 ml_113 rfl k_0 hW rfl hf (fun r91 M92 hc hf => t_C_can hW  hc (fun hW => ?_))
        refine P_aload_n d_329_627 rfl ?_
        refine P_aload_n d_329_628 rfl ?_
        refine P_iload_n d_329_629 rfl ?_
        refine B_iconst d_329_630 ic_1 ?_
        refine P_iadd d_329_631 ?_
        refine B_sld d_329_632 hn hx hf (fun hf => ?_)
        refine B_V1 hN d_329_633 vk_329_77 ml_265 rfl k_105 hW rfl hf (fun r94 M95 hc hf => t_Mo_can hW  hc (fun hW => ?_))
        refine B_icmp_eq (tgt := 1593) d_329_636 rfl hf (fun hf => ?_) (fun hf => ?_)
        · refine B_iinc d_329_1593 ic_6 rfl ml_329 rfl rfl ?_
          refine P_goto (tgt := 18) d_329_1596 rfl ?_
          exact hrec _ _ hW  hf
        · refine B_iconst d_329_639 ic_0 ?_
          cases hf
          exact B_zret hN d_329_640 mr_329 hW (Or.inl rfl) rfl (fun hW hb => k2 _ _ rfl hW hb)
      | 15, h1, h2 =>
        have h3 := (Prod.mk.inj (Option.some.inj h1)).2
        have h4 := Option.some.inj h2
        subst h3; subst h4; clear h1 h2
        refine P_aload_n d_329_641 rfl ?_
        refine P_aload_n d_329_642 rfl ?_
        refine P_iload_n d_329_643 rfl ?_
        refine B_iconst d_329_644 ic_1 ?_
        refine P_iadd d_329_645 ?_
        refine B_sld d_329_646 hn hx hf (fun hf => ?_)
        refine P_aload_n d_329_647 rfl ?_
        refine P_iload_n d_329_648 rfl ?_
        refine B_iconst d_329_649 ic_2 ?_
        refine P_iadd d_329_650 ?_
        refine B_sld d_329_651 hn hx hf (fun hf => ?_)
        refine B_V2 hN d_329_652 vk_329_78 ml_118 rfl k_0 hW rfl hf (fun r98 M99 hc hf => t_C_fewest hW  hc (fun hW => ?_))
        refine P_aload_n d_329_655 rfl ?_
        refine P_aload_n d_329_656 rfl ?_
        refine P_iload_n d_329_657 rfl ?_
        refine B_iconst d_329_658 ic_1 ?_
        refine P_iadd d_329_659 ?_
        refine B_sld d_329_660 hn hx hf (fun hf => ?_)
        refine P_aload_n d_329_661 rfl ?_
        refine P_iload_n d_329_662 rfl ?_
        refine B_iconst d_329_663 ic_2 ?_
        refine P_iadd d_329_664 ?_
        refine B_sld d_329_665 hn hx hf (fun hf => ?_)
        refine B_V2 hN d_329_666 vk_329_81 ml_272 rfl k_105 hW rfl hf (fun r102 M103 hc hf => t_Mo_fewest hW  hc (fun hW => ?_))
        refine B_icmp_eq (tgt := 1593) d_329_669 rfl hf (fun hf => ?_) (fun hf => ?_)
        · refine B_iinc d_329_1593 ic_6 rfl ml_329 rfl rfl ?_
          refine P_goto (tgt := 18) d_329_1596 rfl ?_
          exact hrec _ _ hW  hf
        · refine B_iconst d_329_672 ic_0 ?_
          cases hf
          exact B_zret hN d_329_673 mr_329 hW (Or.inl rfl) rfl (fun hW hb => k2 _ _ rfl hW hb)
      | 16, h1, h2 =>
        have h3 := (Prod.mk.inj (Option.some.inj h1)).2
        have h4 := Option.some.inj h2
        subst h3; subst h4; clear h1 h2
        refine P_aload_n d_329_674 rfl ?_
        refine P_aload_n d_329_675 rfl ?_
        refine P_iload_n d_329_676 rfl ?_
        refine B_iconst d_329_677 ic_1 ?_
        refine P_iadd d_329_678 ?_
        refine B_sld d_329_679 hn hx hf (fun hf => ?_)
        refine P_aload_n d_329_680 rfl ?_
        refine P_iload_n d_329_681 rfl ?_
        refine B_iconst d_329_682 ic_2 ?_
        refine P_iadd d_329_683 ?_
        refine B_sld d_329_684 hn hx hf (fun hf => ?_)
        refine B_V2 hN d_329_685 vk_329_82 ml_122 rfl k_0 hW rfl hf (fun r106 M107 hc hf => t_C_cheapest hW  hc (fun hW => ?_))
        refine P_aload_n d_329_688 rfl ?_
        refine P_aload_n d_329_689 rfl ?_
        refine P_iload_n d_329_690 rfl ?_
        refine B_iconst d_329_691 ic_1 ?_
        refine P_iadd d_329_692 ?_
        refine B_sld d_329_693 hn hx hf (fun hf => ?_)
        refine P_aload_n d_329_694 rfl ?_
        refine P_iload_n d_329_695 rfl ?_
        refine B_iconst d_329_696 ic_2 ?_
        refine P_iadd d_329_697 ?_
        refine B_sld d_329_698 hn hx hf (fun hf => ?_)
        refine B_V2 hN d_329_699 vk_329_85 ml_274 rfl k_105 hW rfl hf (fun r110 M111 hc hf => t_Mo_cheapest hW  hc (fun hW => ?_))
        refine B_icmp_eq (tgt := 1593) d_329_702 rfl hf (fun hf => ?_) (fun hf => ?_)
        · refine B_iinc d_329_1593 ic_6 rfl ml_329 rfl rfl ?_
          refine P_goto (tgt := 18) d_329_1596 rfl ?_
          exact hrec _ _ hW  hf
        · refine B_iconst d_329_705 ic_0 ?_
          cases hf
          exact B_zret hN d_329_706 mr_329 hW (Or.inl rfl) rfl (fun hW hb => k2 _ _ rfl hW hb)
      | 17, h1, h2 =>
        have h3 := (Prod.mk.inj (Option.some.inj h1)).2
        have h4 := Option.some.inj h2
        subst h3; subst h4; clear h1 h2
        refine P_aload_n d_329_707 rfl ?_
        refine P_aload_n d_329_708 rfl ?_
        refine P_iload_n d_329_709 rfl ?_
        refine B_iconst d_329_710 ic_1 ?_
        refine P_iadd d_329_711 ?_
        refine B_sld d_329_712 hn hx hf (fun hf => ?_)
        refine B_V1 hN d_329_713 vk_329_86 ml_125 rfl k_0 hW rfl hf (fun r113 M114 hc hf => t_C_ways hW  hc (fun hW => ?_))
        refine P_aload_n d_329_716 rfl ?_
        refine P_aload_n d_329_717 rfl ?_
        refine P_iload_n d_329_718 rfl ?_
        refine B_iconst d_329_719 ic_1 ?_
        refine P_iadd d_329_720 ?_
        refine B_sld d_329_721 hn hx hf (fun hf => ?_)
        refine B_V1 hN d_329_722 vk_329_89 ml_271 rfl k_105 hW rfl hf (fun r116 M117 hc hf => t_Mo_ways hW  hc (fun hW => ?_))
        refine B_icmp_eq (tgt := 1593) d_329_725 rfl hf (fun hf => ?_) (fun hf => ?_)
        · refine B_iinc d_329_1593 ic_6 rfl ml_329 rfl rfl ?_
          refine P_goto (tgt := 18) d_329_1596 rfl ?_
          exact hrec _ _ hW  hf
        · refine B_iconst d_329_728 ic_0 ?_
          cases hf
          exact B_zret hN d_329_729 mr_329 hW (Or.inl rfl) rfl (fun hW hb => k2 _ _ rfl hW hb)
      | 18, h1, h2 =>
        have h3 := (Prod.mk.inj (Option.some.inj h1)).2
        have h4 := Option.some.inj h2
        subst h3; subst h4; clear h1 h2
        refine P_aload_n d_329_730 rfl ?_
        refine P_aload_n d_329_731 rfl ?_
        refine P_iload_n d_329_732 rfl ?_
        refine B_iconst d_329_733 ic_1 ?_
        refine P_iadd d_329_734 ?_
        refine B_sld d_329_735 hn hx hf (fun hf => ?_)
        refine B_V1 hN d_329_736 vk_329_90 ml_126 rfl k_0 hW rfl hf (fun r119 M120 hc hf => t_C_silent hW  hc (fun hW => ?_))
        refine P_aload_n d_329_739 rfl ?_
        refine P_aload_n d_329_740 rfl ?_
        refine P_iload_n d_329_741 rfl ?_
        refine B_iconst d_329_742 ic_1 ?_
        refine P_iadd d_329_743 ?_
        refine B_sld d_329_744 hn hx hf (fun hf => ?_)
        refine B_V1 hN d_329_745 vk_329_93 ml_277 rfl k_105 hW rfl hf (fun r122 M123 hc hf => t_Mo_silent hW  hc (fun hW => ?_))
        refine B_icmp_eq (tgt := 1593) d_329_748 rfl hf (fun hf => ?_) (fun hf => ?_)
        · refine B_iinc d_329_1593 ic_6 rfl ml_329 rfl rfl ?_
          refine P_goto (tgt := 18) d_329_1596 rfl ?_
          exact hrec _ _ hW  hf
        · refine B_iconst d_329_751 ic_0 ?_
          cases hf
          exact B_zret hN d_329_752 mr_329 hW (Or.inl rfl) rfl (fun hW hb => k2 _ _ rfl hW hb)
      | 19, h1, h2 =>
        have h3 := (Prod.mk.inj (Option.some.inj h1)).2
        have h4 := Option.some.inj h2
        subst h3; subst h4; clear h1 h2
        refine P_aload_n d_329_753 rfl ?_
        refine B_V0 hN d_329_754 vk_329_94 ml_128 rfl k_0 hW rfl hf (fun r124 M125 hc hf => t_C_pictures hW  hc (fun hW => ?_))
        refine P_aload_n d_329_757 rfl ?_
        refine B_V0 hN d_329_758 vk_329_97 ml_278 rfl k_105 hW rfl hf (fun r126 M127 hc hf => t_Mo_pictures hW  hc (fun hW => ?_))
        refine B_icmp_eq (tgt := 1593) d_329_761 rfl hf (fun hf => ?_) (fun hf => ?_)
        · refine B_iinc d_329_1593 ic_6 rfl ml_329 rfl rfl ?_
          refine P_goto (tgt := 18) d_329_1596 rfl ?_
          exact hrec _ _ hW  hf
        · refine B_iconst d_329_764 ic_0 ?_
          cases hf
          exact B_zret hN d_329_765 mr_329 hW (Or.inl rfl) rfl (fun hW hb => k2 _ _ rfl hW hb)
      | 20, h1, h2 =>
        have h3 := (Prod.mk.inj (Option.some.inj h1)).2
        have h4 := Option.some.inj h2
        subst h3; subst h4; clear h1 h2
        refine P_aload_n d_329_766 rfl ?_
        refine B_V0 hN d_329_767 vk_329_98 ml_133 rfl k_0 hW rfl hf (fun r128 M129 hc hf => t_C_spare hW  hc (fun hW => ?_))
        refine P_aload_n d_329_770 rfl ?_
        refine B_V0 hN d_329_771 vk_329_101 ml_280 rfl k_105 hW rfl hf (fun r130 M131 hc hf => t_Mo_spare hW  hc (fun hW => ?_))
        refine B_icmp_eq (tgt := 1593) d_329_774 rfl hf (fun hf => ?_) (fun hf => ?_)
        · refine B_iinc d_329_1593 ic_6 rfl ml_329 rfl rfl ?_
          refine P_goto (tgt := 18) d_329_1596 rfl ?_
          exact hrec _ _ hW  hf
        · refine B_iconst d_329_777 ic_0 ?_
          cases hf
          exact B_zret hN d_329_778 mr_329 hW (Or.inl rfl) rfl (fun hW hb => k2 _ _ rfl hW hb)
      | 21, h1, h2 =>
        have h3 := (Prod.mk.inj (Option.some.inj h1)).2
        have h4 := Option.some.inj h2
        subst h3; subst h4; clear h1 h2
        refine P_aload_n d_329_779 rfl ?_
        refine P_aload_n d_329_780 rfl ?_
        refine P_iload_n d_329_781 rfl ?_
        refine B_iconst d_329_782 ic_1 ?_
        refine P_iadd d_329_783 ?_
        refine B_sld d_329_784 hn hx hf (fun hf => ?_)
        refine B_V1 hN d_329_785 vk_329_102 ml_134 rfl k_0 hW rfl hf (fun r133 M134 hc hf => t_C_brightest hW  hc (fun hW => ?_))
        refine P_aload_n d_329_788 rfl ?_
        refine P_aload_n d_329_789 rfl ?_
        refine P_iload_n d_329_790 rfl ?_
        refine B_iconst d_329_791 ic_1 ?_
        refine P_iadd d_329_792 ?_
        refine B_sld d_329_793 hn hx hf (fun hf => ?_)
        refine B_V1 hN d_329_794 vk_329_105 ml_283 rfl k_105 hW rfl hf (fun r136 M137 hc hf => t_Mo_brightest hW  hc (fun hW => ?_))
        refine B_icmp_eq (tgt := 1593) d_329_797 rfl hf (fun hf => ?_) (fun hf => ?_)
        · refine B_iinc d_329_1593 ic_6 rfl ml_329 rfl rfl ?_
          refine P_goto (tgt := 18) d_329_1596 rfl ?_
          exact hrec _ _ hW  hf
        · refine B_iconst d_329_800 ic_0 ?_
          cases hf
          exact B_zret hN d_329_801 mr_329 hW (Or.inl rfl) rfl (fun hW hb => k2 _ _ rfl hW hb)
      | 22, h1, h2 =>
        have h3 := (Prod.mk.inj (Option.some.inj h1)).2
        have h4 := Option.some.inj h2
        subst h3; subst h4; clear h1 h2
        refine P_aload_n d_329_802 rfl ?_
        refine P_aload_n d_329_803 rfl ?_
        refine P_iload_n d_329_804 rfl ?_
        refine B_iconst d_329_805 ic_1 ?_
        refine P_iadd d_329_806 ?_
        refine B_sld d_329_807 hn hx hf (fun hf => ?_)
        refine B_V1 hN d_329_808 vk_329_106 ml_136 rfl k_0 hW rfl hf (fun r139 M140 hc hf => t_C_dimmest hW  hc (fun hW => ?_))
        refine P_aload_n d_329_811 rfl ?_
        refine P_aload_n d_329_812 rfl ?_
        refine P_iload_n d_329_813 rfl ?_
        refine B_iconst d_329_814 ic_1 ?_
        refine P_iadd d_329_815 ?_
        refine B_sld d_329_816 hn hx hf (fun hf => ?_)
        refine B_V1 hN d_329_817 vk_329_109 ml_284 rfl k_105 hW rfl hf (fun r142 M143 hc hf => t_Mo_dimmest hW  hc (fun hW => ?_))
        refine B_icmp_eq (tgt := 1593) d_329_820 rfl hf (fun hf => ?_) (fun hf => ?_)
        · refine B_iinc d_329_1593 ic_6 rfl ml_329 rfl rfl ?_
          refine P_goto (tgt := 18) d_329_1596 rfl ?_
          exact hrec _ _ hW  hf
        · refine B_iconst d_329_823 ic_0 ?_
          cases hf
          exact B_zret hN d_329_824 mr_329 hW (Or.inl rfl) rfl (fun hW hb => k2 _ _ rfl hW hb)
      | 23, h1, h2 =>
        have h3 := (Prod.mk.inj (Option.some.inj h1)).2
        have h4 := Option.some.inj h2
        subst h3; subst h4; clear h1 h2
        refine P_aload_n d_329_825 rfl ?_
        refine P_aload_n d_329_826 rfl ?_
        refine P_iload_n d_329_827 rfl ?_
        refine B_iconst d_329_828 ic_1 ?_
        refine P_iadd d_329_829 ?_
        refine B_sld d_329_830 hn hx hf (fun hf => ?_)
        refine P_aload_n d_329_831 rfl ?_
        refine P_iload_n d_329_832 rfl ?_
        refine B_iconst d_329_833 ic_2 ?_
        refine P_iadd d_329_834 ?_
        refine B_sld d_329_835 hn hx hf (fun hf => ?_)
        refine B_V2 hN d_329_836 vk_329_110 ml_139 rfl k_0 hW rfl hf (fun r146 M147 hc hf => t_C_nearest hW  hc (fun hW => ?_))
        refine P_aload_n d_329_839 rfl ?_
        refine P_aload_n d_329_840 rfl ?_
        refine P_iload_n d_329_841 rfl ?_
        refine B_iconst d_329_842 ic_1 ?_
        refine P_iadd d_329_843 ?_
        refine B_sld d_329_844 hn hx hf (fun hf => ?_)
        refine P_aload_n d_329_845 rfl ?_
        refine P_iload_n d_329_846 rfl ?_
        refine B_iconst d_329_847 ic_2 ?_
        refine P_iadd d_329_848 ?_
        refine B_sld d_329_849 hn hx hf (fun hf => ?_)
        refine B_V2 hN d_329_850 vk_329_113 ml_286 rfl k_105 hW rfl hf (fun r150 M151 hc hf => t_Mo_nearest hW  hc (fun hW => ?_))
        refine B_icmp_eq (tgt := 1593) d_329_853 rfl hf (fun hf => ?_) (fun hf => ?_)
        · refine B_iinc d_329_1593 ic_6 rfl ml_329 rfl rfl ?_
          refine P_goto (tgt := 18) d_329_1596 rfl ?_
          exact hrec _ _ hW  hf
        · refine B_iconst d_329_856 ic_0 ?_
          cases hf
          exact B_zret hN d_329_857 mr_329 hW (Or.inl rfl) rfl (fun hW hb => k2 _ _ rfl hW hb)
      | 24, h1, h2 =>
        have h3 := (Prod.mk.inj (Option.some.inj h1)).2
        have h4 := Option.some.inj h2
        subst h3; subst h4; clear h1 h2
        refine P_aload_n d_329_858 rfl ?_
        refine P_aload_n d_329_859 rfl ?_
        refine P_iload_n d_329_860 rfl ?_
        refine B_iconst d_329_861 ic_1 ?_
        refine P_iadd d_329_862 ?_
        refine B_sld d_329_863 hn hx hf (fun hf => ?_)
        refine B_V1 hN d_329_864 vk_329_114 ml_141 rfl k_0 hW rfl hf (fun r153 M154 hc hf => t_C_apart hW  hc (fun hW => ?_))
        refine P_aload_n d_329_867 rfl ?_
        refine P_aload_n d_329_868 rfl ?_
        refine P_iload_n d_329_869 rfl ?_
        refine B_iconst d_329_870 ic_1 ?_
        refine P_iadd d_329_871 ?_
        refine B_sld d_329_872 hn hx hf (fun hf => ?_)
        refine B_V1 hN d_329_873 vk_329_117 ml_287 rfl k_105 hW rfl hf (fun r156 M157 hc hf => t_Mo_apart hW  hc (fun hW => ?_))
        refine B_icmp_eq (tgt := 1593) d_329_876 rfl hf (fun hf => ?_) (fun hf => ?_)
        · refine B_iinc d_329_1593 ic_6 rfl ml_329 rfl rfl ?_
          refine P_goto (tgt := 18) d_329_1596 rfl ?_
          exact hrec _ _ hW  hf
        · refine B_iconst d_329_879 ic_0 ?_
          cases hf
          exact B_zret hN d_329_880 mr_329 hW (Or.inl rfl) rfl (fun hW hb => k2 _ _ rfl hW hb)
      | 25, h1, h2 =>
        have h3 := (Prod.mk.inj (Option.some.inj h1)).2
        have h4 := Option.some.inj h2
        subst h3; subst h4; clear h1 h2
        refine P_aload_n d_329_881 rfl ?_
        refine P_aload_n d_329_882 rfl ?_
        refine P_iload_n d_329_883 rfl ?_
        refine B_iconst d_329_884 ic_1 ?_
        refine P_iadd d_329_885 ?_
        refine B_sld d_329_886 hn hx hf (fun hf => ?_)
        refine B_V1 hN d_329_887 vk_329_118 ml_143 rfl k_0 hW rfl hf (fun r159 M160 hc hf => t_C_mark hW  hc (fun hW => ?_))
        refine P_aload_n d_329_890 rfl ?_
        refine P_aload_n d_329_891 rfl ?_
        refine P_iload_n d_329_892 rfl ?_
        refine B_iconst d_329_893 ic_1 ?_
        refine P_iadd d_329_894 ?_
        refine B_sld d_329_895 hn hx hf (fun hf => ?_)
        refine B_V1 hN d_329_896 vk_329_121 ml_288 rfl k_105 hW rfl hf (fun r162 M163 hc hf => t_Mo_mark hW  hc (fun hW => ?_))
        refine B_icmp_eq (tgt := 1593) d_329_899 rfl hf (fun hf => ?_) (fun hf => ?_)
        · refine B_iinc d_329_1593 ic_6 rfl ml_329 rfl rfl ?_
          refine P_goto (tgt := 18) d_329_1596 rfl ?_
          exact hrec _ _ hW  hf
        · refine B_iconst d_329_902 ic_0 ?_
          cases hf
          exact B_zret hN d_329_903 mr_329 hW (Or.inl rfl) rfl (fun hW hb => k2 _ _ rfl hW hb)
      | 26, h1, h2 =>
        have h3 := (Prod.mk.inj (Option.some.inj h1)).2
        have h4 := Option.some.inj h2
        subst h3; subst h4; clear h1 h2
        refine P_aload_n d_329_904 rfl ?_
        refine P_aload_n d_329_905 rfl ?_
        refine P_iload_n d_329_906 rfl ?_
        refine B_iconst d_329_907 ic_1 ?_
        refine P_iadd d_329_908 ?_
        refine B_sld d_329_909 hn hx hf (fun hf => ?_)
        refine B_V1 hN d_329_910 vk_329_122 ml_145 rfl k_0 hW rfl hf (fun r165 M166 hc hf => t_C_steady hW  hc (fun hW => ?_))
        refine P_aload_n d_329_913 rfl ?_
        refine P_aload_n d_329_914 rfl ?_
        refine P_iload_n d_329_915 rfl ?_
        refine B_iconst d_329_916 ic_1 ?_
        refine P_iadd d_329_917 ?_
        refine B_sld d_329_918 hn hx hf (fun hf => ?_)
        refine B_V1 hN d_329_919 vk_329_125 ml_289 rfl k_105 hW rfl hf (fun r168 M169 hc hf => t_Mo_steady hW  hc (fun hW => ?_))
        refine B_icmp_eq (tgt := 1593) d_329_922 rfl hf (fun hf => ?_) (fun hf => ?_)
        · refine B_iinc d_329_1593 ic_6 rfl ml_329 rfl rfl ?_
          refine P_goto (tgt := 18) d_329_1596 rfl ?_
          exact hrec _ _ hW  hf
        · refine B_iconst d_329_925 ic_0 ?_
          cases hf
          exact B_zret hN d_329_926 mr_329 hW (Or.inl rfl) rfl (fun hW hb => k2 _ _ rfl hW hb)
      | 27, h1, h2 =>
        have h3 := (Prod.mk.inj (Option.some.inj h1)).2
        have h4 := Option.some.inj h2
        subst h3; subst h4; clear h1 h2
        refine P_aload_n d_329_927 rfl ?_
        refine P_aload_n d_329_928 rfl ?_
        refine P_iload_n d_329_929 rfl ?_
        refine B_iconst d_329_930 ic_1 ?_
        refine P_iadd d_329_931 ?_
        refine B_sld d_329_932 hn hx hf (fun hf => ?_)
        refine B_V1 hN d_329_933 vk_329_126 ml_149 rfl k_0 hW rfl hf (fun r171 M172 hc hf => t_C_rows hW  hc (fun hW => ?_))
        refine P_aload_n d_329_936 rfl ?_
        refine P_aload_n d_329_937 rfl ?_
        refine P_iload_n d_329_938 rfl ?_
        refine B_iconst d_329_939 ic_1 ?_
        refine P_iadd d_329_940 ?_
        refine B_sld d_329_941 hn hx hf (fun hf => ?_)
        refine B_V1 hN d_329_942 vk_329_129 ml_291 rfl k_105 hW rfl hf (fun r174 M175 hc hf => t_Mo_rows hW  hc (fun hW => ?_))
        refine B_icmp_eq (tgt := 1593) d_329_945 rfl hf (fun hf => ?_) (fun hf => ?_)
        · refine B_iinc d_329_1593 ic_6 rfl ml_329 rfl rfl ?_
          refine P_goto (tgt := 18) d_329_1596 rfl ?_
          exact hrec _ _ hW  hf
        · refine B_iconst d_329_948 ic_0 ?_
          cases hf
          exact B_zret hN d_329_949 mr_329 hW (Or.inl rfl) rfl (fun hW hb => k2 _ _ rfl hW hb)
      | 28, h1, h2 =>
        have h3 := (Prod.mk.inj (Option.some.inj h1)).2
        have h4 := Option.some.inj h2
        subst h3; subst h4; clear h1 h2
        refine P_aload_n d_329_950 rfl ?_
        refine P_aload_n d_329_951 rfl ?_
        refine P_iload_n d_329_952 rfl ?_
        refine B_iconst d_329_953 ic_1 ?_
        refine P_iadd d_329_954 ?_
        refine B_sld d_329_955 hn hx hf (fun hf => ?_)
        refine B_V1 hN d_329_956 vk_329_130 ml_150 rfl k_0 hW rfl hf (fun r177 M178 hc hf => t_C_game hW  hc (fun hW => ?_))
        refine P_aload_n d_329_959 rfl ?_
        refine P_aload_n d_329_960 rfl ?_
        refine P_iload_n d_329_961 rfl ?_
        refine B_iconst d_329_962 ic_1 ?_
        refine P_iadd d_329_963 ?_
        refine B_sld d_329_964 hn hx hf (fun hf => ?_)
        refine B_V1 hN d_329_965 vk_329_133 ml_292 rfl k_105 hW rfl hf (fun r180 M181 hc hf => t_Mo_game hW  hc (fun hW => ?_))
        refine B_icmp_eq (tgt := 1593) d_329_968 rfl hf (fun hf => ?_) (fun hf => ?_)
        · refine B_iinc d_329_1593 ic_6 rfl ml_329 rfl rfl ?_
          refine P_goto (tgt := 18) d_329_1596 rfl ?_
          exact hrec _ _ hW  hf
        · refine B_iconst d_329_971 ic_0 ?_
          cases hf
          exact B_zret hN d_329_972 mr_329 hW (Or.inl rfl) rfl (fun hW hb => k2 _ _ rfl hW hb)
      | 29, h1, h2 =>
        have h3 := (Prod.mk.inj (Option.some.inj h1)).2
        have h4 := Option.some.inj h2
        subst h3; subst h4; clear h1 h2
        refine P_aload_n d_329_973 rfl ?_
        refine P_aload_n d_329_974 rfl ?_
        refine P_iload_n d_329_975 rfl ?_
        refine B_iconst d_329_976 ic_1 ?_
        refine P_iadd d_329_977 ?_
        refine B_sld d_329_978 hn hx hf (fun hf => ?_)
        refine B_V1 hN d_329_979 vk_329_134 ml_153 rfl k_0 hW rfl hf (fun r183 M184 hc hf => t_C_again hW  hc (fun hW => ?_))
        refine P_aload_n d_329_982 rfl ?_
        refine P_aload_n d_329_983 rfl ?_
        refine P_iload_n d_329_984 rfl ?_
        refine B_iconst d_329_985 ic_1 ?_
        refine P_iadd d_329_986 ?_
        refine B_sld d_329_987 hn hx hf (fun hf => ?_)
        refine B_V1 hN d_329_988 vk_329_137 ml_294 rfl k_105 hW rfl hf (fun r186 M187 hc hf => t_Mo_again hW  hc (fun hW => ?_))
        refine B_icmp_eq (tgt := 1593) d_329_991 rfl hf (fun hf => ?_) (fun hf => ?_)
        · refine B_iinc d_329_1593 ic_6 rfl ml_329 rfl rfl ?_
          refine P_goto (tgt := 18) d_329_1596 rfl ?_
          exact hrec _ _ hW  hf
        · refine B_iconst d_329_994 ic_0 ?_
          cases hf
          exact B_zret hN d_329_995 mr_329 hW (Or.inl rfl) rfl (fun hW hb => k2 _ _ rfl hW hb)
      | 30, h1, h2 =>
        have h3 := (Prod.mk.inj (Option.some.inj h1)).2
        have h4 := Option.some.inj h2
        subst h3; subst h4; clear h1 h2
        refine P_aload_n d_329_996 rfl ?_
        refine P_aload_n d_329_997 rfl ?_
        refine P_iload_n d_329_998 rfl ?_
        refine B_iconst d_329_999 ic_1 ?_
        refine P_iadd d_329_1000 ?_
        refine B_sld d_329_1001 hn hx hf (fun hf => ?_)
        refine B_V1 hN d_329_1002 vk_329_138 ml_154 rfl k_0 hW rfl hf (fun r189 M190 hc hf => t_C_pasts hW  hc (fun hW => ?_))
        refine P_aload_n d_329_1005 rfl ?_
        refine P_aload_n d_329_1006 rfl ?_
        refine P_iload_n d_329_1007 rfl ?_
        refine B_iconst d_329_1008 ic_1 ?_
        refine P_iadd d_329_1009 ?_
        refine B_sld d_329_1010 hn hx hf (fun hf => ?_)
        refine B_V1 hN d_329_1011 vk_329_141 ml_295 rfl k_105 hW rfl hf (fun r192 M193 hc hf => t_Mo_pasts hW  hc (fun hW => ?_))
        refine B_icmp_eq (tgt := 1593) d_329_1014 rfl hf (fun hf => ?_) (fun hf => ?_)
        · refine B_iinc d_329_1593 ic_6 rfl ml_329 rfl rfl ?_
          refine P_goto (tgt := 18) d_329_1596 rfl ?_
          exact hrec _ _ hW  hf
        · refine B_iconst d_329_1017 ic_0 ?_
          cases hf
          exact B_zret hN d_329_1018 mr_329 hW (Or.inl rfl) rfl (fun hW hb => k2 _ _ rfl hW hb)
      | 31, h1, h2 =>
        have h3 := (Prod.mk.inj (Option.some.inj h1)).2
        have h4 := Option.some.inj h2
        subst h3; subst h4; clear h1 h2
        refine P_aload_n d_329_1019 rfl ?_
        refine B_V0 hN d_329_1020 vk_329_142 ml_155 rfl k_0 hW rfl hf (fun r194 M195 hc hf => t_C_still hW  hc (fun hW => ?_))
        refine P_aload_n d_329_1023 rfl ?_
        refine B_V0 hN d_329_1024 vk_329_145 ml_296 rfl k_105 hW rfl hf (fun r196 M197 hc hf => t_Mo_still hW  hc (fun hW => ?_))
        refine B_icmp_eq (tgt := 1593) d_329_1027 rfl hf (fun hf => ?_) (fun hf => ?_)
        · refine B_iinc d_329_1593 ic_6 rfl ml_329 rfl rfl ?_
          refine P_goto (tgt := 18) d_329_1596 rfl ?_
          exact hrec _ _ hW  hf
        · refine B_iconst d_329_1030 ic_0 ?_
          cases hf
          exact B_zret hN d_329_1031 mr_329 hW (Or.inl rfl) rfl (fun hW hb => k2 _ _ rfl hW hb)
      | 32, h1, h2 =>
        have h3 := (Prod.mk.inj (Option.some.inj h1)).2
        have h4 := Option.some.inj h2
        subst h3; subst h4; clear h1 h2
        refine P_aload_n d_329_1032 rfl ?_
        refine P_aload_n d_329_1033 rfl ?_
        refine P_iload_n d_329_1034 rfl ?_
        refine B_iconst d_329_1035 ic_1 ?_
        refine P_iadd d_329_1036 ?_
        refine B_sld d_329_1037 hn hx hf (fun hf => ?_)
        refine B_V1 hN d_329_1038 vk_329_146 ml_156 rfl k_0 hW rfl hf (fun r199 M200 hc hf => t_C_knot hW  hc (fun hW => ?_))
        refine P_aload_n d_329_1041 rfl ?_
        refine P_aload_n d_329_1042 rfl ?_
        refine P_iload_n d_329_1043 rfl ?_
        refine B_iconst d_329_1044 ic_1 ?_
        refine P_iadd d_329_1045 ?_
        refine B_sld d_329_1046 hn hx hf (fun hf => ?_)
        refine B_V1 hN d_329_1047 vk_329_149 ml_282 rfl k_105 hW rfl hf (fun r202 M203 hc hf => t_Mo_knot hW  hc (fun hW => ?_))
        refine B_icmp_eq (tgt := 1593) d_329_1050 rfl hf (fun hf => ?_) (fun hf => ?_)
        · refine B_iinc d_329_1593 ic_6 rfl ml_329 rfl rfl ?_
          refine P_goto (tgt := 18) d_329_1596 rfl ?_
          exact hrec _ _ hW  hf
        · refine B_iconst d_329_1053 ic_0 ?_
          cases hf
          exact B_zret hN d_329_1054 mr_329 hW (Or.inl rfl) rfl (fun hW hb => k2 _ _ rfl hW hb)
      | 33, h1, h2 =>
        have h3 := (Prod.mk.inj (Option.some.inj h1)).2
        have h4 := Option.some.inj h2
        subst h3; subst h4; clear h1 h2
        refine P_aload_n d_329_1055 rfl ?_
        refine P_aload_n d_329_1056 rfl ?_
        refine P_iload_n d_329_1057 rfl ?_
        refine B_iconst d_329_1058 ic_1 ?_
        refine P_iadd d_329_1059 ?_
        refine B_sld d_329_1060 hn hx hf (fun hf => ?_)
        refine B_V1 hN d_329_1061 vk_329_150 ml_157 rfl k_0 hW rfl hf (fun r205 M206 hc hf => t_C_more hW  hc (fun hW => ?_))
        refine P_aload_n d_329_1064 rfl ?_
        refine P_aload_n d_329_1065 rfl ?_
        refine P_iload_n d_329_1066 rfl ?_
        refine B_iconst d_329_1067 ic_1 ?_
        refine P_iadd d_329_1068 ?_
        refine B_sld d_329_1069 hn hx hf (fun hf => ?_)
        refine B_V1 hN d_329_1070 vk_329_153 ml_297 rfl k_105 hW rfl hf (fun r208 M209 hc hf => t_Mo_more hW  hc (fun hW => ?_))
        refine B_icmp_eq (tgt := 1593) d_329_1073 rfl hf (fun hf => ?_) (fun hf => ?_)
        · refine B_iinc d_329_1593 ic_6 rfl ml_329 rfl rfl ?_
          refine P_goto (tgt := 18) d_329_1596 rfl ?_
          exact hrec _ _ hW  hf
        · refine B_iconst d_329_1076 ic_0 ?_
          cases hf
          exact B_zret hN d_329_1077 mr_329 hW (Or.inl rfl) rfl (fun hW hb => k2 _ _ rfl hW hb)
      | 34, h1, h2 =>
        have h3 := (Prod.mk.inj (Option.some.inj h1)).2
        have h4 := Option.some.inj h2
        subst h3; subst h4; clear h1 h2
        refine P_aload_n d_329_1078 rfl ?_
        refine P_aload_n d_329_1079 rfl ?_
        refine P_iload_n d_329_1080 rfl ?_
        refine B_iconst d_329_1081 ic_1 ?_
        refine P_iadd d_329_1082 ?_
        refine B_sld d_329_1083 hn hx hf (fun hf => ?_)
        refine B_V1 hN d_329_1084 vk_329_154 ml_159 rfl k_0 hW rfl hf (fun r211 M212 hc hf => t_C_exchange hW  hc (fun hW => ?_))
        refine P_aload_n d_329_1087 rfl ?_
        refine P_aload_n d_329_1088 rfl ?_
        refine P_iload_n d_329_1089 rfl ?_
        refine B_iconst d_329_1090 ic_1 ?_
        refine P_iadd d_329_1091 ?_
        refine B_sld d_329_1092 hn hx hf (fun hf => ?_)
        refine B_V1 hN d_329_1093 vk_329_157 ml_298 rfl k_105 hW rfl hf (fun r214 M215 hc hf => t_Mo_exchange hW  hc (fun hW => ?_))
        refine B_icmp_eq (tgt := 1593) d_329_1096 rfl hf (fun hf => ?_) (fun hf => ?_)
        · refine B_iinc d_329_1593 ic_6 rfl ml_329 rfl rfl ?_
          refine P_goto (tgt := 18) d_329_1596 rfl ?_
          exact hrec _ _ hW  hf
        · refine B_iconst d_329_1099 ic_0 ?_
          cases hf
          exact B_zret hN d_329_1100 mr_329 hW (Or.inl rfl) rfl (fun hW hb => k2 _ _ rfl hW hb)
      | 35, h1, h2 =>
        have h3 := (Prod.mk.inj (Option.some.inj h1)).2
        have h4 := Option.some.inj h2
        subst h3; subst h4; clear h1 h2
        refine P_aload_n d_329_1101 rfl ?_
        refine B_V0 hN d_329_1102 vk_329_158 ml_162 rfl k_0 hW rfl hf (fun r216 M217 hc hf => t_C_loosen hW  hc (fun hW => ?_))
        refine P_aload_n d_329_1105 rfl ?_
        refine B_V0 hN d_329_1106 vk_329_161 ml_301 rfl k_105 hW rfl hf (fun r218 M219 hc hf => t_Mo_loosen hW  hc (fun hW => ?_))
        refine B_icmp_eq (tgt := 1593) d_329_1109 rfl hf (fun hf => ?_) (fun hf => ?_)
        · refine B_iinc d_329_1593 ic_6 rfl ml_329 rfl rfl ?_
          refine P_goto (tgt := 18) d_329_1596 rfl ?_
          exact hrec _ _ hW  hf
        · refine B_iconst d_329_1112 ic_0 ?_
          cases hf
          exact B_zret hN d_329_1113 mr_329 hW (Or.inl rfl) rfl (fun hW hb => k2 _ _ rfl hW hb)
      | 36, h1, h2 =>
        have h3 := (Prod.mk.inj (Option.some.inj h1)).2
        have h4 := Option.some.inj h2
        subst h3; subst h4; clear h1 h2
        refine P_aload_n d_329_1114 rfl ?_
        refine P_aload_n d_329_1115 rfl ?_
        refine P_iload_n d_329_1116 rfl ?_
        refine B_iconst d_329_1117 ic_1 ?_
        refine P_iadd d_329_1118 ?_
        refine B_sld d_329_1119 hn hx hf (fun hf => ?_)
        refine B_V1 hN d_329_1120 vk_329_162 ml_164 rfl k_0 hW rfl hf (fun r221 M222 hc hf => t_C_boldest hW  hc (fun hW => ?_))
        refine P_aload_n d_329_1123 rfl ?_
        refine P_aload_n d_329_1124 rfl ?_
        refine P_iload_n d_329_1125 rfl ?_
        refine B_iconst d_329_1126 ic_1 ?_
        refine P_iadd d_329_1127 ?_
        refine B_sld d_329_1128 hn hx hf (fun hf => ?_)
        refine B_V1 hN d_329_1129 vk_329_165 ml_302 rfl k_105 hW rfl hf (fun r224 M225 hc hf => t_Mo_boldest hW  hc (fun hW => ?_))
        refine B_icmp_eq (tgt := 1593) d_329_1132 rfl hf (fun hf => ?_) (fun hf => ?_)
        · refine B_iinc d_329_1593 ic_6 rfl ml_329 rfl rfl ?_
          refine P_goto (tgt := 18) d_329_1596 rfl ?_
          exact hrec _ _ hW  hf
        · refine B_iconst d_329_1135 ic_0 ?_
          cases hf
          exact B_zret hN d_329_1136 mr_329 hW (Or.inl rfl) rfl (fun hW hb => k2 _ _ rfl hW hb)
      | 37, h1, h2 =>
        have h3 := (Prod.mk.inj (Option.some.inj h1)).2
        have h4 := Option.some.inj h2
        subst h3; subst h4; clear h1 h2
        refine P_aload_n d_329_1137 rfl ?_
        refine B_V0 hN d_329_1138 vk_329_166 ml_166 rfl k_0 hW rfl hf (fun r226 M227 hc hf => t_C_dearest hW  hc (fun hW => ?_))
        refine P_aload_n d_329_1141 rfl ?_
        refine B_V0 hN d_329_1142 vk_329_169 ml_308 rfl k_105 hW rfl hf (fun r228 M229 hc hf => t_Mo_dearest hW  hc (fun hW => ?_))
        refine B_icmp_eq (tgt := 1593) d_329_1145 rfl hf (fun hf => ?_) (fun hf => ?_)
        · refine B_iinc d_329_1593 ic_6 rfl ml_329 rfl rfl ?_
          refine P_goto (tgt := 18) d_329_1596 rfl ?_
          exact hrec _ _ hW  hf
        · refine B_iconst d_329_1148 ic_0 ?_
          cases hf
          exact B_zret hN d_329_1149 mr_329 hW (Or.inl rfl) rfl (fun hW hb => k2 _ _ rfl hW hb)
      | 38, h1, h2 =>
        have h3 := (Prod.mk.inj (Option.some.inj h1)).2
        have h4 := Option.some.inj h2
        subst h3; subst h4; clear h1 h2
        refine P_aload_n d_329_1150 rfl ?_
        refine B_V0 hN d_329_1151 vk_329_170 ml_168 rfl k_0 hW rfl hf (fun r230 M231 hc hf => t_C_odd hW  hc (fun hW => ?_))
        refine P_aload_n d_329_1154 rfl ?_
        refine B_V0 hN d_329_1155 vk_329_173 ml_309 rfl k_105 hW rfl hf (fun r232 M233 hc hf => t_Mo_odd hW  hc (fun hW => ?_))
        refine B_icmp_eq (tgt := 1593) d_329_1158 rfl hf (fun hf => ?_) (fun hf => ?_)
        · refine B_iinc d_329_1593 ic_6 rfl ml_329 rfl rfl ?_
          refine P_goto (tgt := 18) d_329_1596 rfl ?_
          exact hrec _ _ hW  hf
        · refine B_iconst d_329_1161 ic_0 ?_
          cases hf
          exact B_zret hN d_329_1162 mr_329 hW (Or.inl rfl) rfl (fun hW hb => k2 _ _ rfl hW hb)
      | 39, h1, h2 =>
        have h3 := (Prod.mk.inj (Option.some.inj h1)).2
        have h4 := Option.some.inj h2
        subst h3; subst h4; clear h1 h2
        refine P_aload_n d_329_1163 rfl ?_
        refine P_aload_n d_329_1164 rfl ?_
        refine P_iload_n d_329_1165 rfl ?_
        refine B_iconst d_329_1166 ic_1 ?_
        refine P_iadd d_329_1167 ?_
        refine B_sld d_329_1168 hn hx hf (fun hf => ?_)
        refine B_V1 hN d_329_1169 vk_329_174 ml_169 rfl k_0 hW rfl hf (fun r235 M236 hc hf => t_C_alike hW  hc (fun hW => ?_))
        refine P_aload_n d_329_1172 rfl ?_
        refine P_aload_n d_329_1173 rfl ?_
        refine P_iload_n d_329_1174 rfl ?_
        refine B_iconst d_329_1175 ic_1 ?_
        refine P_iadd d_329_1176 ?_
        refine B_sld d_329_1177 hn hx hf (fun hf => ?_)
        refine B_V1 hN d_329_1178 vk_329_177 ml_303 rfl k_105 hW rfl hf (fun r238 M239 hc hf => t_Mo_alike hW  hc (fun hW => ?_))
        refine B_icmp_eq (tgt := 1593) d_329_1181 rfl hf (fun hf => ?_) (fun hf => ?_)
        · refine B_iinc d_329_1593 ic_6 rfl ml_329 rfl rfl ?_
          refine P_goto (tgt := 18) d_329_1596 rfl ?_
          exact hrec _ _ hW  hf
        · refine B_iconst d_329_1184 ic_0 ?_
          cases hf
          exact B_zret hN d_329_1185 mr_329 hW (Or.inl rfl) rfl (fun hW hb => k2 _ _ rfl hW hb)
      | 40, h1, h2 =>
        have h3 := (Prod.mk.inj (Option.some.inj h1)).2
        have h4 := Option.some.inj h2
        subst h3; subst h4; clear h1 h2
        refine P_aload_n d_329_1186 rfl ?_
        refine B_V0 hN d_329_1187 vk_329_178 ml_171 rfl k_0 hW rfl hf (fun r240 M241 hc hf => t_C_alone hW  hc (fun hW => ?_))
        refine P_aload_n d_329_1190 rfl ?_
        refine B_V0 hN d_329_1191 vk_329_181 ml_304 rfl k_105 hW rfl hf (fun r242 M243 hc hf => t_Mo_alone hW  hc (fun hW => ?_))
        refine B_icmp_eq (tgt := 1593) d_329_1194 rfl hf (fun hf => ?_) (fun hf => ?_)
        · refine B_iinc d_329_1593 ic_6 rfl ml_329 rfl rfl ?_
          refine P_goto (tgt := 18) d_329_1596 rfl ?_
          exact hrec _ _ hW  hf
        · refine B_iconst d_329_1197 ic_0 ?_
          cases hf
          exact B_zret hN d_329_1198 mr_329 hW (Or.inl rfl) rfl (fun hW hb => k2 _ _ rfl hW hb)
      | 41, h1, h2 =>
        have h3 := (Prod.mk.inj (Option.some.inj h1)).2
        have h4 := Option.some.inj h2
        subst h3; subst h4; clear h1 h2
        refine P_aload_n d_329_1199 rfl ?_
        refine B_V0 hN d_329_1200 vk_329_182 ml_172 rfl k_0 hW rfl hf (fun r244 M245 hc hf => t_C_burning hW  hc (fun hW => ?_))
        refine P_aload_n d_329_1203 rfl ?_
        refine B_V0 hN d_329_1204 vk_329_185 ml_305 rfl k_105 hW rfl hf (fun r246 M247 hc hf => t_Mo_burning hW  hc (fun hW => ?_))
        refine B_icmp_eq (tgt := 1593) d_329_1207 rfl hf (fun hf => ?_) (fun hf => ?_)
        · refine B_iinc d_329_1593 ic_6 rfl ml_329 rfl rfl ?_
          refine P_goto (tgt := 18) d_329_1596 rfl ?_
          exact hrec _ _ hW  hf
        · refine B_iconst d_329_1210 ic_0 ?_
          cases hf
          exact B_zret hN d_329_1211 mr_329 hW (Or.inl rfl) rfl (fun hW hb => k2 _ _ rfl hW hb)
      | 42, h1, h2 =>
        have h3 := (Prod.mk.inj (Option.some.inj h1)).2
        have h4 := Option.some.inj h2
        subst h3; subst h4; clear h1 h2
        refine P_aload_n d_329_1212 rfl ?_
        refine B_V0 hN d_329_1213 vk_329_186 ml_173 rfl k_0 hW rfl hf (fun r248 M249 hc hf => t_C_load hW  hc (fun hW => ?_))
        refine P_aload_n d_329_1216 rfl ?_
        refine B_V0 hN d_329_1217 vk_329_189 ml_306 rfl k_105 hW rfl hf (fun r250 M251 hc hf => t_Mo_load hW  hc (fun hW => ?_))
        refine B_icmp_eq (tgt := 1593) d_329_1220 rfl hf (fun hf => ?_) (fun hf => ?_)
        · refine B_iinc d_329_1593 ic_6 rfl ml_329 rfl rfl ?_
          refine P_goto (tgt := 18) d_329_1596 rfl ?_
          exact hrec _ _ hW  hf
        · refine B_iconst d_329_1223 ic_0 ?_
          cases hf
          exact B_zret hN d_329_1224 mr_329 hW (Or.inl rfl) rfl (fun hW hb => k2 _ _ rfl hW hb)
      | 43, h1, h2 =>
        have h3 := (Prod.mk.inj (Option.some.inj h1)).2
        have h4 := Option.some.inj h2
        subst h3; subst h4; clear h1 h2
        refine P_aload_n d_329_1225 rfl ?_
        refine B_V0 hN d_329_1226 vk_329_190 ml_174 rfl k_0 hW rfl hf (fun r252 M253 hc hf => t_C_longest hW  hc (fun hW => ?_))
        refine P_aload_n d_329_1229 rfl ?_
        refine B_V0 hN d_329_1230 vk_329_193 ml_307 rfl k_105 hW rfl hf (fun r254 M255 hc hf => t_Mo_longest hW  hc (fun hW => ?_))
        refine B_icmp_eq (tgt := 1593) d_329_1233 rfl hf (fun hf => ?_) (fun hf => ?_)
        · refine B_iinc d_329_1593 ic_6 rfl ml_329 rfl rfl ?_
          refine P_goto (tgt := 18) d_329_1596 rfl ?_
          exact hrec _ _ hW  hf
        · refine B_iconst d_329_1236 ic_0 ?_
          cases hf
          exact B_zret hN d_329_1237 mr_329 hW (Or.inl rfl) rfl (fun hW hb => k2 _ _ rfl hW hb)
      | 44, h1, h2 =>
        have h3 := (Prod.mk.inj (Option.some.inj h1)).2
        have h4 := Option.some.inj h2
        subst h3; subst h4; clear h1 h2
        refine P_aload_n d_329_1238 rfl ?_
        refine P_aload_n d_329_1239 rfl ?_
        refine P_iload_n d_329_1240 rfl ?_
        refine B_iconst d_329_1241 ic_1 ?_
        refine P_iadd d_329_1242 ?_
        refine B_sld d_329_1243 hn hx hf (fun hf => ?_)
        refine B_V1 hN d_329_1244 vk_329_194 ml_176 rfl k_0 hW rfl hf (fun r257 M258 hc hf => t_C_law hW  hc (fun hW => ?_))
        refine P_aload_n d_329_1247 rfl ?_
        refine P_aload_n d_329_1248 rfl ?_
        refine P_iload_n d_329_1249 rfl ?_
        refine B_iconst d_329_1250 ic_1 ?_
        refine P_iadd d_329_1251 ?_
        refine B_sld d_329_1252 hn hx hf (fun hf => ?_)
        refine B_V1 hN d_329_1253 vk_329_197 ml_310 rfl k_105 hW rfl hf (fun r260 M261 hc hf => t_Mo_law hW  hc (fun hW => ?_))
        refine B_icmp_eq (tgt := 1593) d_329_1256 rfl hf (fun hf => ?_) (fun hf => ?_)
        · refine B_iinc d_329_1593 ic_6 rfl ml_329 rfl rfl ?_
          refine P_goto (tgt := 18) d_329_1596 rfl ?_
          exact hrec _ _ hW  hf
        · refine B_iconst d_329_1259 ic_0 ?_
          cases hf
          exact B_zret hN d_329_1260 mr_329 hW (Or.inl rfl) rfl (fun hW hb => k2 _ _ rfl hW hb)
      | 45, h1, h2 =>
        have h3 := (Prod.mk.inj (Option.some.inj h1)).2
        have h4 := Option.some.inj h2
        subst h3; subst h4; clear h1 h2
        refine P_aload_n d_329_1261 rfl ?_
        refine P_aload_n d_329_1262 rfl ?_
        refine P_iload_n d_329_1263 rfl ?_
        refine B_iconst d_329_1264 ic_1 ?_
        refine P_iadd d_329_1265 ?_
        refine B_sld d_329_1266 hn hx hf (fun hf => ?_)
        refine P_aload_n d_329_1267 rfl ?_
        refine P_iload_n d_329_1268 rfl ?_
        refine B_iconst d_329_1269 ic_2 ?_
        refine P_iadd d_329_1270 ?_
        refine B_sld d_329_1271 hn hx hf (fun hf => ?_)
        refine B_V2 hN d_329_1272 vk_329_198 ml_177 rfl k_0 hW rfl hf (fun r264 M265 hc hf => t_C_odds hW  hc (fun hW => ?_))
        refine P_aload_n d_329_1275 rfl ?_
        refine P_aload_n d_329_1276 rfl ?_
        refine P_iload_n d_329_1277 rfl ?_
        refine B_iconst d_329_1278 ic_1 ?_
        refine P_iadd d_329_1279 ?_
        refine B_sld d_329_1280 hn hx hf (fun hf => ?_)
        refine P_aload_n d_329_1281 rfl ?_
        refine P_iload_n d_329_1282 rfl ?_
        refine B_iconst d_329_1283 ic_2 ?_
        refine P_iadd d_329_1284 ?_
        refine B_sld d_329_1285 hn hx hf (fun hf => ?_)
        refine B_V2 hN d_329_1286 vk_329_201 ml_311 rfl k_105 hW rfl hf (fun r268 M269 hc hf => t_Mo_odds hW  hc (fun hW => ?_))
        refine B_icmp_eq (tgt := 1593) d_329_1289 rfl hf (fun hf => ?_) (fun hf => ?_)
        · refine B_iinc d_329_1593 ic_6 rfl ml_329 rfl rfl ?_
          refine P_goto (tgt := 18) d_329_1596 rfl ?_
          exact hrec _ _ hW  hf
        · refine B_iconst d_329_1292 ic_0 ?_
          cases hf
          exact B_zret hN d_329_1293 mr_329 hW (Or.inl rfl) rfl (fun hW hb => k2 _ _ rfl hW hb)
      | 46, h1, h2 =>
        have h3 := (Prod.mk.inj (Option.some.inj h1)).2
        have h4 := Option.some.inj h2
        subst h3; subst h4; clear h1 h2
        refine P_aload_n d_329_1294 rfl ?_
        refine P_aload_n d_329_1295 rfl ?_
        refine P_iload_n d_329_1296 rfl ?_
        refine B_iconst d_329_1297 ic_1 ?_
        refine P_iadd d_329_1298 ?_
        refine B_sld d_329_1299 hn hx hf (fun hf => ?_)
        refine B_V1 hN d_329_1300 vk_329_202 ml_179 rfl k_0 hW rfl hf (fun r271 M272 hc hf => t_C_lies hW  hc (fun hW => ?_))
        refine P_aload_n d_329_1303 rfl ?_
        refine P_aload_n d_329_1304 rfl ?_
        refine P_iload_n d_329_1305 rfl ?_
        refine B_iconst d_329_1306 ic_1 ?_
        refine P_iadd d_329_1307 ?_
        refine B_sld d_329_1308 hn hx hf (fun hf => ?_)
        refine B_V1 hN d_329_1309 vk_329_205 ml_314 rfl k_105 hW rfl hf (fun r274 M275 hc hf => t_Mo_lies hW  hc (fun hW => ?_))
        refine B_icmp_eq (tgt := 1593) d_329_1312 rfl hf (fun hf => ?_) (fun hf => ?_)
        · refine B_iinc d_329_1593 ic_6 rfl ml_329 rfl rfl ?_
          refine P_goto (tgt := 18) d_329_1596 rfl ?_
          exact hrec _ _ hW  hf
        · refine B_iconst d_329_1315 ic_0 ?_
          cases hf
          exact B_zret hN d_329_1316 mr_329 hW (Or.inl rfl) rfl (fun hW hb => k2 _ _ rfl hW hb)
      | 47, h1, h2 =>
        have h3 := (Prod.mk.inj (Option.some.inj h1)).2
        have h4 := Option.some.inj h2
        subst h3; subst h4; clear h1 h2
        refine P_aload_n d_329_1317 rfl ?_
        refine P_aload_n d_329_1318 rfl ?_
        refine P_iload_n d_329_1319 rfl ?_
        refine B_iconst d_329_1320 ic_1 ?_
        refine P_iadd d_329_1321 ?_
        refine B_sld d_329_1322 hn hx hf (fun hf => ?_)
        refine P_aload_n d_329_1323 rfl ?_
        refine P_iload_n d_329_1324 rfl ?_
        refine B_iconst d_329_1325 ic_2 ?_
        refine P_iadd d_329_1326 ?_
        refine B_sld d_329_1327 hn hx hf (fun hf => ?_)
        refine B_if_eq (tgt := 1335) d_329_1328 rfl hf (fun hf => ?_) (fun hf => ?_)
        · refine B_iconst d_329_1335 ic_0 ?_
          exact t_Law_law_j1336 hN hn hx hrec k1 k2 hW  hf
        · refine B_iconst d_329_1331 ic_1 ?_
          refine P_goto (tgt := 1336) d_329_1332 rfl ?_
          exact t_Law_law_j1336 hN hn hx hrec k1 k2 hW  hf
      | 48, h1, h2 =>
        have h3 := (Prod.mk.inj (Option.some.inj h1)).2
        have h4 := Option.some.inj h2
        subst h3; subst h4; clear h1 h2
        refine P_aload_n d_329_1366 rfl ?_
        refine P_aload_n d_329_1367 rfl ?_
        refine P_iload_n d_329_1368 rfl ?_
        refine B_iconst d_329_1369 ic_1 ?_
        refine P_iadd d_329_1370 ?_
        refine B_sld d_329_1371 hn hx hf (fun hf => ?_)
        refine B_V1 hN d_329_1372 vk_329_211 ml_182 rfl k_0 hW rfl hf (fun r279 M280 hc hf => t_C_untell hW  hc (fun hW hb280 => ?_))
        refine P_aload_n d_329_1375 rfl ?_
        refine P_aload_n d_329_1376 rfl ?_
        refine P_iload_n d_329_1377 rfl ?_
        refine B_iconst d_329_1378 ic_1 ?_
        refine P_iadd d_329_1379 ?_
        refine B_sld d_329_1380 hn hx hf (fun hf => ?_)
        refine B_V1 hN d_329_1381 vk_329_215 ml_316 rfl k_105 hW rfl hf (fun r282 M283 hc hf => t_Mo_untell hW  hc (fun hW hb283 => ?_))
        refine B_icmp_eq (tgt := 1593) d_329_1384 rfl hf (fun hf => ?_) (fun hf => ?_)
        · refine B_iinc d_329_1593 ic_6 rfl ml_329 rfl rfl ?_
          refine P_goto (tgt := 18) d_329_1596 rfl ?_
          exact hrec _ _ hW  hf
        · refine B_iconst d_329_1387 ic_0 ?_
          cases hf
          exact B_zret hN d_329_1388 mr_329 hW (Or.inl rfl) rfl (fun hW hb => k2 _ _ rfl hW hb)
      | 49, h1, h2 =>
        have h3 := (Prod.mk.inj (Option.some.inj h1)).2
        have h4 := Option.some.inj h2
        subst h3; subst h4; clear h1 h2
        refine P_aload_n d_329_1389 rfl ?_
        refine P_aload_n d_329_1390 rfl ?_
        refine P_iload_n d_329_1391 rfl ?_
        refine B_iconst d_329_1392 ic_1 ?_
        refine P_iadd d_329_1393 ?_
        refine B_sld d_329_1394 hn hx hf (fun hf => ?_)
        refine B_V1 hN d_329_1395 vk_329_216 ml_184 rfl k_0 hW rfl hf (fun r285 M286 hc hf => t_C_later hW  hc (fun hW => ?_))
        refine P_aload_n d_329_1398 rfl ?_
        refine P_aload_n d_329_1399 rfl ?_
        refine P_iload_n d_329_1400 rfl ?_
        refine B_iconst d_329_1401 ic_1 ?_
        refine P_iadd d_329_1402 ?_
        refine B_sld d_329_1403 hn hx hf (fun hf => ?_)
        refine B_V1 hN d_329_1404 vk_329_219 ml_317 rfl k_105 hW rfl hf (fun r288 M289 hc hf => t_Mo_later hW  hc (fun hW => ?_))
        refine B_icmp_eq (tgt := 1593) d_329_1407 rfl hf (fun hf => ?_) (fun hf => ?_)
        · refine B_iinc d_329_1593 ic_6 rfl ml_329 rfl rfl ?_
          refine P_goto (tgt := 18) d_329_1596 rfl ?_
          exact hrec _ _ hW  hf
        · refine B_iconst d_329_1410 ic_0 ?_
          cases hf
          exact B_zret hN d_329_1411 mr_329 hW (Or.inl rfl) rfl (fun hW hb => k2 _ _ rfl hW hb)
      | 50, h1, h2 =>
        have h3 := (Prod.mk.inj (Option.some.inj h1)).2
        have h4 := Option.some.inj h2
        subst h3; subst h4; clear h1 h2
        refine P_aload_n d_329_1412 rfl ?_
        refine P_aload_n d_329_1413 rfl ?_
        refine P_iload_n d_329_1414 rfl ?_
        refine B_iconst d_329_1415 ic_1 ?_
        refine P_iadd d_329_1416 ?_
        refine B_sld d_329_1417 hn hx hf (fun hf => ?_)
        refine B_V1 hN d_329_1418 vk_329_220 ml_186 rfl k_0 hW rfl hf (fun r291 M292 hc hf => t_C_fits hW  hc (fun hW => ?_))
        refine P_aload_n d_329_1421 rfl ?_
        refine P_aload_n d_329_1422 rfl ?_
        refine P_iload_n d_329_1423 rfl ?_
        refine B_iconst d_329_1424 ic_1 ?_
        refine P_iadd d_329_1425 ?_
        refine B_sld d_329_1426 hn hx hf (fun hf => ?_)
        refine B_V1 hN d_329_1427 vk_329_223 ml_318 rfl k_105 hW rfl hf (fun r294 M295 hc hf => t_Mo_fits hW  hc (fun hW => ?_))
        refine B_icmp_eq (tgt := 1593) d_329_1430 rfl hf (fun hf => ?_) (fun hf => ?_)
        · refine B_iinc d_329_1593 ic_6 rfl ml_329 rfl rfl ?_
          refine P_goto (tgt := 18) d_329_1596 rfl ?_
          exact hrec _ _ hW  hf
        · refine B_iconst d_329_1433 ic_0 ?_
          cases hf
          exact B_zret hN d_329_1434 mr_329 hW (Or.inl rfl) rfl (fun hW hb => k2 _ _ rfl hW hb)
      | 51, h1, h2 =>
        have h3 := (Prod.mk.inj (Option.some.inj h1)).2
        have h4 := Option.some.inj h2
        subst h3; subst h4; clear h1 h2
        refine P_aload_n d_329_1435 rfl ?_
        refine P_aload_n d_329_1436 rfl ?_
        refine P_iload_n d_329_1437 rfl ?_
        refine B_iconst d_329_1438 ic_1 ?_
        refine P_iadd d_329_1439 ?_
        refine B_sld d_329_1440 hn hx hf (fun hf => ?_)
        refine B_V1 hN d_329_1441 vk_329_224 ml_190 rfl k_0 hW rfl hf (fun r297 M298 hc hf => t_C_fit hW  hc (fun hW => ?_))
        refine P_aload_n d_329_1444 rfl ?_
        refine P_aload_n d_329_1445 rfl ?_
        refine P_iload_n d_329_1446 rfl ?_
        refine B_iconst d_329_1447 ic_1 ?_
        refine P_iadd d_329_1448 ?_
        refine B_sld d_329_1449 hn hx hf (fun hf => ?_)
        refine B_V1 hN d_329_1450 vk_329_227 ml_320 rfl k_105 hW rfl hf (fun r300 M301 hc hf => t_Mo_fit hW  hc (fun hW => ?_))
        refine B_icmp_eq (tgt := 1593) d_329_1453 rfl hf (fun hf => ?_) (fun hf => ?_)
        · refine B_iinc d_329_1593 ic_6 rfl ml_329 rfl rfl ?_
          refine P_goto (tgt := 18) d_329_1596 rfl ?_
          exact hrec _ _ hW  hf
        · refine B_iconst d_329_1456 ic_0 ?_
          cases hf
          exact B_zret hN d_329_1457 mr_329 hW (Or.inl rfl) rfl (fun hW hb => k2 _ _ rfl hW hb)
      | 52, h1, h2 =>
        have h3 := (Prod.mk.inj (Option.some.inj h1)).2
        have h4 := Option.some.inj h2
        subst h3; subst h4; clear h1 h2
        refine P_aload_n d_329_1458 rfl ?_
        refine P_aload_n d_329_1459 rfl ?_
        refine P_iload_n d_329_1460 rfl ?_
        refine B_iconst d_329_1461 ic_1 ?_
        refine P_iadd d_329_1462 ?_
        refine B_sld d_329_1463 hn hx hf (fun hf => ?_)
        refine P_aload_n d_329_1464 rfl ?_
        refine P_iload_n d_329_1465 rfl ?_
        refine B_iconst d_329_1466 ic_2 ?_
        refine P_iadd d_329_1467 ?_
        refine B_sld d_329_1468 hn hx hf (fun hf => ?_)
        refine B_V2 hN d_329_1469 vk_329_228 ml_192 rfl k_0 hW rfl hf (fun r304 M305 hc hf => t_C_sure hW  hc (fun hW => ?_))
        refine P_aload_n d_329_1472 rfl ?_
        refine P_aload_n d_329_1473 rfl ?_
        refine P_iload_n d_329_1474 rfl ?_
        refine B_iconst d_329_1475 ic_1 ?_
        refine P_iadd d_329_1476 ?_
        refine B_sld d_329_1477 hn hx hf (fun hf => ?_)
        refine P_aload_n d_329_1478 rfl ?_
        refine P_iload_n d_329_1479 rfl ?_
        refine B_iconst d_329_1480 ic_2 ?_
        refine P_iadd d_329_1481 ?_
        refine B_sld d_329_1482 hn hx hf (fun hf => ?_)
        refine B_V2 hN d_329_1483 vk_329_231 ml_321 rfl k_105 hW rfl hf (fun r308 M309 hc hf => t_Mo_sure hW  hc (fun hW => ?_))
        refine B_icmp_eq (tgt := 1593) d_329_1486 rfl hf (fun hf => ?_) (fun hf => ?_)
        · refine B_iinc d_329_1593 ic_6 rfl ml_329 rfl rfl ?_
          refine P_goto (tgt := 18) d_329_1596 rfl ?_
          exact hrec _ _ hW  hf
        · refine B_iconst d_329_1489 ic_0 ?_
          cases hf
          exact B_zret hN d_329_1490 mr_329 hW (Or.inl rfl) rfl (fun hW hb => k2 _ _ rfl hW hb)
      | 53, h1, h2 =>
        have h3 := (Prod.mk.inj (Option.some.inj h1)).2
        have h4 := Option.some.inj h2
        subst h3; subst h4; clear h1 h2
        refine P_aload_n d_329_1491 rfl ?_
        refine P_aload_n d_329_1492 rfl ?_
        refine P_iload_n d_329_1493 rfl ?_
        refine B_iconst d_329_1494 ic_1 ?_
        refine P_iadd d_329_1495 ?_
        refine B_sld d_329_1496 hn hx hf (fun hf => ?_)
        refine P_aload_n d_329_1497 rfl ?_
        refine P_iload_n d_329_1498 rfl ?_
        refine B_iconst d_329_1499 ic_2 ?_
        refine P_iadd d_329_1500 ?_
        refine B_sld d_329_1501 hn hx hf (fun hf => ?_)
        refine B_V2 hN d_329_1502 vk_329_232 ml_194 rfl k_0 hW rfl hf (fun r312 M313 hc hf => t_C_ask hW  hc (fun hW => ?_))
        refine P_aload_n d_329_1505 rfl ?_
        refine P_aload_n d_329_1506 rfl ?_
        refine P_iload_n d_329_1507 rfl ?_
        refine B_iconst d_329_1508 ic_1 ?_
        refine P_iadd d_329_1509 ?_
        refine B_sld d_329_1510 hn hx hf (fun hf => ?_)
        refine P_aload_n d_329_1511 rfl ?_
        refine P_iload_n d_329_1512 rfl ?_
        refine B_iconst d_329_1513 ic_2 ?_
        refine P_iadd d_329_1514 ?_
        refine B_sld d_329_1515 hn hx hf (fun hf => ?_)
        refine B_V2 hN d_329_1516 vk_329_235 ml_322 rfl k_105 hW rfl hf (fun r316 M317 hc hf => t_Mo_ask hW  hc (fun hW => ?_))
        refine B_icmp_eq (tgt := 1593) d_329_1519 rfl hf (fun hf => ?_) (fun hf => ?_)
        · refine B_iinc d_329_1593 ic_6 rfl ml_329 rfl rfl ?_
          refine P_goto (tgt := 18) d_329_1596 rfl ?_
          exact hrec _ _ hW  hf
        · refine B_iconst d_329_1522 ic_0 ?_
          cases hf
          exact B_zret hN d_329_1523 mr_329 hW (Or.inl rfl) rfl (fun hW hb => k2 _ _ rfl hW hb)
      | 54, h1, h2 =>
        have h3 := (Prod.mk.inj (Option.some.inj h1)).2
        have h4 := Option.some.inj h2
        subst h3; subst h4; clear h1 h2
        refine P_aload_n d_329_1524 rfl ?_
        refine P_aload_n d_329_1525 rfl ?_
        refine P_iload_n d_329_1526 rfl ?_
        refine B_iconst d_329_1527 ic_1 ?_
        refine P_iadd d_329_1528 ?_
        refine B_sld d_329_1529 hn hx hf (fun hf => ?_)
        refine B_V1 hN d_329_1530 vk_329_236 ml_196 rfl k_0 hW rfl hf (fun r319 M320 hc hf => t_C_image hW  hc (fun hW => ?_))
        refine P_aload_n d_329_1533 rfl ?_
        refine P_aload_n d_329_1534 rfl ?_
        refine P_iload_n d_329_1535 rfl ?_
        refine B_iconst d_329_1536 ic_1 ?_
        refine P_iadd d_329_1537 ?_
        refine B_sld d_329_1538 hn hx hf (fun hf => ?_)
        refine B_V1 hN d_329_1539 vk_329_239 ml_325 rfl k_105 hW rfl hf (fun r322 M323 hc hf => t_Mo_image hW  hc (fun hW => ?_))
        refine B_icmp_eq (tgt := 1593) d_329_1542 rfl hf (fun hf => ?_) (fun hf => ?_)
        · refine B_iinc d_329_1593 ic_6 rfl ml_329 rfl rfl ?_
          refine P_goto (tgt := 18) d_329_1596 rfl ?_
          exact hrec _ _ hW  hf
        · refine B_iconst d_329_1545 ic_0 ?_
          cases hf
          exact B_zret hN d_329_1546 mr_329 hW (Or.inl rfl) rfl (fun hW hb => k2 _ _ rfl hW hb)
      | 55, h1, h2 =>
        have h3 := (Prod.mk.inj (Option.some.inj h1)).2
        have h4 := Option.some.inj h2
        subst h3; subst h4; clear h1 h2
        refine P_aload_n d_329_1547 rfl ?_
        refine P_aload_n d_329_1548 rfl ?_
        refine P_iload_n d_329_1549 rfl ?_
        refine B_iconst d_329_1550 ic_1 ?_
        refine P_iadd d_329_1551 ?_
        refine B_sld d_329_1552 hn hx hf (fun hf => ?_)
        refine B_V1 hN d_329_1553 vk_329_240 ml_197 rfl k_0 hW rfl hf (fun r325 M326 hc hf => t_C_back hW  hc (fun hW => ?_))
        refine P_aload_n d_329_1556 rfl ?_
        refine P_aload_n d_329_1557 rfl ?_
        refine P_iload_n d_329_1558 rfl ?_
        refine B_iconst d_329_1559 ic_1 ?_
        refine P_iadd d_329_1560 ?_
        refine B_sld d_329_1561 hn hx hf (fun hf => ?_)
        refine B_V1 hN d_329_1562 vk_329_243 ml_327 rfl k_105 hW rfl hf (fun r328 M329 hc hf => t_Mo_back hW  hc (fun hW => ?_))
        refine B_icmp_eq (tgt := 1593) d_329_1565 rfl hf (fun hf => ?_) (fun hf => ?_)
        · refine B_iinc d_329_1593 ic_6 rfl ml_329 rfl rfl ?_
          refine P_goto (tgt := 18) d_329_1596 rfl ?_
          exact hrec _ _ hW  hf
        · refine B_iconst d_329_1568 ic_0 ?_
          cases hf
          exact B_zret hN d_329_1569 mr_329 hW (Or.inl rfl) rfl (fun hW hb => k2 _ _ rfl hW hb)
      | 56, h1, h2 =>
        have h3 := (Prod.mk.inj (Option.some.inj h1)).2
        have h4 := Option.some.inj h2
        subst h3; subst h4; clear h1 h2
        refine P_aload_n d_329_1570 rfl ?_
        refine P_aload_n d_329_1571 rfl ?_
        refine P_iload_n d_329_1572 rfl ?_
        refine B_iconst d_329_1573 ic_1 ?_
        refine P_iadd d_329_1574 ?_
        refine B_sld d_329_1575 hn hx hf (fun hf => ?_)
        refine B_V1 hN d_329_1576 vk_329_244 ml_198 rfl k_0 hW rfl hf (fun r331 M332 hc hf => t_C_about hW  hc (fun hW => ?_))
        refine P_aload_n d_329_1579 rfl ?_
        refine P_aload_n d_329_1580 rfl ?_
        refine P_iload_n d_329_1581 rfl ?_
        refine B_iconst d_329_1582 ic_1 ?_
        refine P_iadd d_329_1583 ?_
        refine B_sld d_329_1584 hn hx hf (fun hf => ?_)
        refine B_V1 hN d_329_1585 vk_329_247 ml_328 rfl k_105 hW rfl hf (fun r334 M335 hc hf => t_Mo_about hW  hc (fun hW => ?_))
        refine B_icmp_eq (tgt := 1593) d_329_1588 rfl hf (fun hf => ?_) (fun hf => ?_)
        · refine B_iinc d_329_1593 ic_6 rfl ml_329 rfl rfl ?_
          refine P_goto (tgt := 18) d_329_1596 rfl ?_
          exact hrec _ _ hW  hf
        · refine B_iconst d_329_1591 ic_0 ?_
          cases hf
          exact B_zret hN d_329_1592 mr_329 hW (Or.inl rfl) rfl (fun hW hb => k2 _ _ rfl hW hb)
      | i + 57, h1, h2 => exact absurd h2 (by simp)
    · refine B_iinc d_329_1593 ic_6 rfl ml_329 rfl rfl ?_
      refine P_goto (tgt := 18) d_329_1596 rfl ?_
      exact hrec _ _ hW  hf
theorem t_Law_law_l18 {G : GT} {d : Nat} {n nc ns : Nat} {xs : Nat → Int32}  {Q : AM → Option Value → Prop} {o : (Unit × AM) ⊕ (Int32 × AM)} (hN : nc ≤ mcT 329 ∧ ns ≤ msT 329) (hn : gLn G = n) (hx : gxs G = xs) (k1 : ∀ (yo : Unit) (Mo : AM), o = .inl (yo, Mo) → WT Mo → PW G (d + 108) 329 1599 [ux, ux, ux, ux] [] Mo nc ns Q) (k2 : ∀ (r : Int32) (M' : AM), o = .inr (r, M') → WT M' → (r = 0 ∨ r = 1) → Q M' (some (.int r)))  : ∀ (z : Nat) (v3 : Int32) (M : AM), WT M → f_Law_law_l18 n xs  z v3 M = some o → PW G (d + 108) 329 18 [.ref 1000, .ref 0, .ref 105, .int v3] [] M nc ns Q := by
  intro z
  induction z with
  | zero => intro v3 M hW hf; cases hf
  | succ z ih => intro v3 M hW hf; exact t_Law_law_b18 hN hn hx (fun v3 M hW hf => ih v3 M hW hf) k1 k2 hW   hf
end
