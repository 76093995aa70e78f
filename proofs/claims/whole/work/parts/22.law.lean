/-! the law, behind the two constructors -/
def w_L_law_18 : Nat → Int32 → pm → (Int32 → pm → Prop) → Prop
  | 0, _, _, _ => False
  | n + 1, x3, M, Q => ((((Int32.ofNat (mL M)) - 6) < x3 → (Q 1 M)) ∧ (¬ ((Int32.ofNat (mL M)) - 6) < x3 → (vp_in x3 (mL M) ∧ ((((mI M 1 x3.toNatClampNeg) &&& 63) = 0 → (vp_in (x3 + 1) (mL M) ∧ (vp_in (x3 + 2) (mL M) ∧ (vp_in (x3 + 3) (mL M) ∧ (vp_in (x3 + 4) (mL M) ∧ (vp_in (x3 + 5) (mL M) ∧ (w_X7_feed (mI M 1 ((x3 + 1).toNatClampNeg)) (mI M 1 ((x3 + 2).toNatClampNeg)) (mI M 1 ((x3 + 3).toNatClampNeg)) (mI M 1 ((x3 + 4).toNatClampNeg)) (mI M 1 ((x3 + 5).toNatClampNeg)) M (fun y8 M7 => vp_in (x3 + 1) (mL M7) ∧ (vp_in (x3 + 2) (mL M7) ∧ (vp_in (x3 + 3) (mL M7) ∧ (vp_in (x3 + 4) (mL M7) ∧ (vp_in (x3 + 5) (mL M7) ∧ (w_X8_feed (mI M7 1 ((x3 + 1).toNatClampNeg)) (mI M7 1 ((x3 + 2).toNatClampNeg)) (mI M7 1 ((x3 + 3).toNatClampNeg)) (mI M7 1 ((x3 + 4).toNatClampNeg)) (mI M7 1 ((x3 + 5).toNatClampNeg)) M7 (fun y16 M15 => ((y8 = y16 → (w_L_law_18 n (x3 + 6) M15 Q)) ∧ (¬ y8 = y16 → (Q 0 M15))))))))))))))))) ∧ (((mI M 1 x3.toNatClampNeg) &&& 63) = 1 → (vp_in (x3 + 1) (mL M) ∧ (w_X7_end (mI M 1 ((x3 + 1).toNatClampNeg)) M (fun y20 M19 => vp_in (x3 + 1) (mL M19) ∧ (w_X8_end (mI M19 1 ((x3 + 1).toNatClampNeg)) M19 (fun y25 M24 => ((y20 = y25 → (w_L_law_18 n (x3 + 6) M24 Q)) ∧ (¬ y20 = y25 → (Q 0 M24))))))))) ∧ (((mI M 1 x3.toNatClampNeg) &&& 63) = 2 → (w_X7_station  M (fun y29 M28 => w_X8_station  M28 (fun y32 M31 => ((y29 = y32 → (w_L_law_18 n (x3 + 6) M31 Q)) ∧ (¬ y29 = y32 → (Q 0 M31))))))) ∧ (((mI M 1 x3.toNatClampNeg) &&& 63) = 3 → (vp_in (x3 + 1) (mL M) ∧ (w_X7_fault (mI M 1 ((x3 + 1).toNatClampNeg)) M (fun y36 M35 => vp_in (x3 + 1) (mL M35) ∧ (w_X8_fault (mI M35 1 ((x3 + 1).toNatClampNeg)) M35 (fun y40 M39 => ((y36 = y40 → (w_L_law_18 n (x3 + 6) M39 Q)) ∧ (¬ y36 = y40 → (Q 0 M39))))))))) ∧ (((mI M 1 x3.toNatClampNeg) &&& 63) = 4 → (vp_in (x3 + 1) (mL M) ∧ (w_X7_has (mI M 1 ((x3 + 1).toNatClampNeg)) M (fun y44 M43 => vp_in (x3 + 1) (mL M43) ∧ (w_X8_has (mI M43 1 ((x3 + 1).toNatClampNeg)) M43 (fun y48 M47 => ((y44 = y48 → (w_L_law_18 n (x3 + 6) M47 Q)) ∧ (¬ y44 = y48 → (Q 0 M47))))))))) ∧ (((mI M 1 x3.toNatClampNeg) &&& 63) = 5 → (vp_in (x3 + 1) (mL M) ∧ (vp_in (x3 + 2) (mL M) ∧ (vp_in (x3 + 3) (mL M) ∧ (w_X7_letter (mI M 1 ((x3 + 1).toNatClampNeg)) (mI M 1 ((x3 + 2).toNatClampNeg)) (mI M 1 ((x3 + 3).toNatClampNeg)) M (fun y54 M53 => vp_in (x3 + 1) (mL M53) ∧ (vp_in (x3 + 2) (mL M53) ∧ (vp_in (x3 + 3) (mL M53) ∧ (w_X8_letter (mI M53 1 ((x3 + 1).toNatClampNeg)) (mI M53 1 ((x3 + 2).toNatClampNeg)) (mI M53 1 ((x3 + 3).toNatClampNeg)) M53 (fun y60 M59 => ((y54 = y60 → (w_L_law_18 n (x3 + 6) M59 Q)) ∧ (¬ y54 = y60 → (Q 0 M59))))))))))))) ∧ (((mI M 1 x3.toNatClampNeg) &&& 63) = 6 → (vp_in (x3 + 1) (mL M) ∧ (vp_in (x3 + 2) (mL M) ∧ (w_X7_song (mI M 1 ((x3 + 1).toNatClampNeg)) (mI M 1 ((x3 + 2).toNatClampNeg)) M (fun y65 M64 => vp_in (x3 + 1) (mL M64) ∧ (vp_in (x3 + 2) (mL M64) ∧ (w_X8_song (mI M64 1 ((x3 + 1).toNatClampNeg)) (mI M64 1 ((x3 + 2).toNatClampNeg)) M64 (fun y70 M69 => ((y65 = y70 → (w_L_law_18 n (x3 + 6) M69 Q)) ∧ (¬ y65 = y70 → (Q 0 M69))))))))))) ∧ (((mI M 1 x3.toNatClampNeg) &&& 63) = 7 → (vp_in (x3 + 1) (mL M) ∧ (vp_in (x3 + 2) (mL M) ∧ (w_X7_asker (mI M 1 ((x3 + 1).toNatClampNeg)) (mI M 1 ((x3 + 2).toNatClampNeg)) M (fun y75 M74 => vp_in (x3 + 1) (mL M74) ∧ (vp_in (x3 + 2) (mL M74) ∧ (w_X8_asker (mI M74 1 ((x3 + 1).toNatClampNeg)) (mI M74 1 ((x3 + 2).toNatClampNeg)) M74 (fun y80 M79 => ((y75 = y80 → (w_L_law_18 n (x3 + 6) M79 Q)) ∧ (¬ y75 = y80 → (Q 0 M79))))))))))) ∧ (((mI M 1 x3.toNatClampNeg) &&& 63) = 8 → (vp_in (x3 + 1) (mL M) ∧ (w_X7_worth (mI M 1 ((x3 + 1).toNatClampNeg)) M (fun y84 M83 => vp_in (x3 + 1) (mL M83) ∧ (w_X8_worth (mI M83 1 ((x3 + 1).toNatClampNeg)) M83 (fun y88 M87 => ((y84 = y88 → (w_L_law_18 n (x3 + 6) M87 Q)) ∧ (¬ y84 = y88 → (Q 0 M87))))))))) ∧ (((mI M 1 x3.toNatClampNeg) &&& 63) = 9 → (vp_in (x3 + 1) (mL M) ∧ (w_X7_best (mI M 1 ((x3 + 1).toNatClampNeg)) M (fun y92 M91 => vp_in (x3 + 1) (mL M91) ∧ (w_X8_best (mI M91 1 ((x3 + 1).toNatClampNeg)) M91 (fun y96 M95 => ((y92 = y96 → (w_L_law_18 n (x3 + 6) M95 Q)) ∧ (¬ y92 = y96 → (Q 0 M95))))))))) ∧ (((mI M 1 x3.toNatClampNeg) &&& 63) = 10 → (vp_in (x3 + 1) (mL M) ∧ (vp_in (x3 + 2) (mL M) ∧ (w_X7_kept (mI M 1 ((x3 + 1).toNatClampNeg)) (mI M 1 ((x3 + 2).toNatClampNeg)) M (fun y101 M100 => vp_in (x3 + 1) (mL M100) ∧ (vp_in (x3 + 2) (mL M100) ∧ (w_X8_kept (mI M100 1 ((x3 + 1).toNatClampNeg)) (mI M100 1 ((x3 + 2).toNatClampNeg)) M100 (fun y106 M105 => ((y101 = y106 → (w_L_law_18 n (x3 + 6) M105 Q)) ∧ (¬ y101 = y106 → (Q 0 M105))))))))))) ∧ (((mI M 1 x3.toNatClampNeg) &&& 63) = 11 → (vp_in (x3 + 1) (mL M) ∧ (w_X7_later (mI M 1 ((x3 + 1).toNatClampNeg)) M (fun y110 M109 => vp_in (x3 + 1) (mL M109) ∧ (w_X8_later (mI M109 1 ((x3 + 1).toNatClampNeg)) M109 (fun y114 M113 => ((y110 = y114 → (w_L_law_18 n (x3 + 6) M113 Q)) ∧ (¬ y110 = y114 → (Q 0 M113))))))))) ∧ (((mI M 1 x3.toNatClampNeg) &&& 63) = 12 → (vp_in (x3 + 1) (mL M) ∧ (vp_in (x3 + 2) (mL M) ∧ (w_X7_minded (mI M 1 ((x3 + 1).toNatClampNeg)) (mI M 1 ((x3 + 2).toNatClampNeg)) M (fun y119 M118 => vp_in (x3 + 1) (mL M118) ∧ (vp_in (x3 + 2) (mL M118) ∧ (w_X8_minded (mI M118 1 ((x3 + 1).toNatClampNeg)) (mI M118 1 ((x3 + 2).toNatClampNeg)) M118 (fun y124 M123 => ((y119 = y124 → (w_L_law_18 n (x3 + 6) M123 Q)) ∧ (¬ y119 = y124 → (Q 0 M123))))))))))) ∧ (((mI M 1 x3.toNatClampNeg) &&& 63) = 13 → (w_X7_nothing  M (fun y127 M126 => w_X8_nothing  M126 (fun y130 M129 => ((y127 = y130 → (w_L_law_18 n (x3 + 6) M129 Q)) ∧ (¬ y127 = y130 → (Q 0 M129))))))) ∧ (((mI M 1 x3.toNatClampNeg) &&& 63) = 14 → (w_X7_hushed  M (fun y133 M132 => w_X8_hushed  M132 (fun y136 M135 => ((y133 = y136 → (w_L_law_18 n (x3 + 6) M135 Q)) ∧ (¬ y133 = y136 → (Q 0 M135))))))) ∧ (((mI M 1 x3.toNatClampNeg) &&& 63) = 15 → (w_X7_full  M (fun y139 M138 => w_X8_full  M138 (fun y142 M141 => ((y139 = y142 → (w_L_law_18 n (x3 + 6) M141 Q)) ∧ (¬ y139 = y142 → (Q 0 M141))))))) ∧ (((mI M 1 x3.toNatClampNeg) &&& 63) = 16 → (vp_in (x3 + 1) (mL M) ∧ (vp_in (x3 + 2) (mL M) ∧ (vp_in (x3 + 3) (mL M) ∧ (w_X7_fame (mI M 1 ((x3 + 1).toNatClampNeg)) (mI M 1 ((x3 + 2).toNatClampNeg)) (mI M 1 ((x3 + 3).toNatClampNeg)) M (fun y148 M147 => vp_in (x3 + 1) (mL M147) ∧ (vp_in (x3 + 2) (mL M147) ∧ (vp_in (x3 + 3) (mL M147) ∧ (w_X8_fame (mI M147 1 ((x3 + 1).toNatClampNeg)) (mI M147 1 ((x3 + 2).toNatClampNeg)) (mI M147 1 ((x3 + 3).toNatClampNeg)) M147 (fun y154 M153 => ((y148 = y154 → (w_L_law_18 n (x3 + 6) M153 Q)) ∧ (¬ y148 = y154 → (Q 0 M153))))))))))))) ∧ (((mI M 1 x3.toNatClampNeg) &&& 63) = 17 → (w_X7_shared  M (fun y157 M156 => w_X8_shared  M156 (fun y160 M159 => ((y157 = y160 → (w_L_law_18 n (x3 + 6) M159 Q)) ∧ (¬ y157 = y160 → (Q 0 M159))))))) ∧ (((mI M 1 x3.toNatClampNeg) &&& 63) = 18 → (vp_in (x3 + 1) (mL M) ∧ (w_X7_heard (mI M 1 ((x3 + 1).toNatClampNeg)) M (fun y164 M163 => vp_in (x3 + 1) (mL M163) ∧ (w_X8_heard (mI M163 1 ((x3 + 1).toNatClampNeg)) M163 (fun y168 M167 => ((y164 = y168 → (w_L_law_18 n (x3 + 6) M167 Q)) ∧ (¬ y164 = y168 → (Q 0 M167))))))))) ∧ (((mI M 1 x3.toNatClampNeg) &&& 63) = 19 → (w_X7_see  M (fun y171 M170 => w_X8_see  M170 (fun y174 M173 => ((y171 = y174 → (w_L_law_18 n (x3 + 6) M173 Q)) ∧ (¬ y171 = y174 → (Q 0 M173))))))) ∧ (((mI M 1 x3.toNatClampNeg) &&& 63) = 20 → (vp_in (x3 + 1) (mL M) ∧ (vp_in (x3 + 2) (mL M) ∧ (w_X7_fits (mI M 1 ((x3 + 1).toNatClampNeg)) (mI M 1 ((x3 + 2).toNatClampNeg)) M (fun y179 M178 => vp_in (x3 + 1) (mL M178) ∧ (vp_in (x3 + 2) (mL M178) ∧ (w_X8_fits (mI M178 1 ((x3 + 1).toNatClampNeg)) (mI M178 1 ((x3 + 2).toNatClampNeg)) M178 (fun y184 M183 => ((y179 = y184 → (w_L_law_18 n (x3 + 6) M183 Q)) ∧ (¬ y179 = y184 → (Q 0 M183))))))))))) ∧ (((mI M 1 x3.toNatClampNeg) &&& 63) = 21 → (vp_in (x3 + 1) (mL M) ∧ (vp_in (x3 + 2) (mL M) ∧ (w_X7_tells (mI M 1 ((x3 + 1).toNatClampNeg)) (mI M 1 ((x3 + 2).toNatClampNeg)) M (fun y189 M188 => vp_in (x3 + 1) (mL M188) ∧ (vp_in (x3 + 2) (mL M188) ∧ (w_X8_tells (mI M188 1 ((x3 + 1).toNatClampNeg)) (mI M188 1 ((x3 + 2).toNatClampNeg)) M188 (fun y194 M193 => ((y189 = y194 → (w_L_law_18 n (x3 + 6) M193 Q)) ∧ (¬ y189 = y194 → (Q 0 M193))))))))))) ∧ (((mI M 1 x3.toNatClampNeg) &&& 63) = 22 → (vp_in (x3 + 1) (mL M) ∧ (vp_in (x3 + 2) (mL M) ∧ (w_X7_want (mI M 1 ((x3 + 1).toNatClampNeg)) (mI M 1 ((x3 + 2).toNatClampNeg)) M (fun y199 M198 => vp_in (x3 + 1) (mL M198) ∧ (vp_in (x3 + 2) (mL M198) ∧ (w_X8_want (mI M198 1 ((x3 + 1).toNatClampNeg)) (mI M198 1 ((x3 + 2).toNatClampNeg)) M198 (fun y205 M204 => ((y199 = y205 → (w_L_law_18 n (x3 + 6) M204 Q)) ∧ (¬ y199 = y205 → (Q 0 M204))))))))))) ∧ (((mI M 1 x3.toNatClampNeg) &&& 63) = 23 → (vp_in (x3 + 1) (mL M) ∧ (vp_in (x3 + 2) (mL M) ∧ (w_X7_mourn (mI M 1 ((x3 + 1).toNatClampNeg)) (mI M 1 ((x3 + 2).toNatClampNeg)) M (fun y211 M210 => vp_in (x3 + 1) (mL M210) ∧ (vp_in (x3 + 2) (mL M210) ∧ (w_X8_mourn (mI M210 1 ((x3 + 1).toNatClampNeg)) (mI M210 1 ((x3 + 2).toNatClampNeg)) M210 (fun y216 M215 => ((y211 = y216 → (w_L_law_18 n (x3 + 6) M215 Q)) ∧ (¬ y211 = y216 → (Q 0 M215))))))))))) ∧ (((mI M 1 x3.toNatClampNeg) &&& 63) = 24 → (vp_in (x3 + 1) (mL M) ∧ (w_X7_days (mI M 1 ((x3 + 1).toNatClampNeg)) M (fun y220 M219 => vp_in (x3 + 1) (mL M219) ∧ (w_X8_days (mI M219 1 ((x3 + 1).toNatClampNeg)) M219 (fun y224 M223 => ((y220 = y224 → (w_L_law_18 n (x3 + 6) M223 Q)) ∧ (¬ y220 = y224 → (Q 0 M223))))))))) ∧ (((mI M 1 x3.toNatClampNeg) &&& 63) = 25 → (vp_in (x3 + 1) (mL M) ∧ (w_X7_chance (mI M 1 ((x3 + 1).toNatClampNeg)) M (fun y228 M227 => vp_in (x3 + 1) (mL M227) ∧ (w_X8_chance (mI M227 1 ((x3 + 1).toNatClampNeg)) M227 (fun y232 M231 => ((y228 = y232 → (w_L_law_18 n (x3 + 6) M231 Q)) ∧ (¬ y228 = y232 → (Q 0 M231))))))))) ∧ (((mI M 1 x3.toNatClampNeg) &&& 63) = 26 → (w_X7_undo  M (fun y235 M234 => w_X8_undo  M234 (fun y239 M238 => ((y235 = y239 → (w_L_law_18 n (x3 + 6) M238 Q)) ∧ (¬ y235 = y239 → (Q 0 M238))))))) ∧ (((mI M 1 x3.toNatClampNeg) &&& 63) = 27 → (vp_in (x3 + 1) (mL M) ∧ (w_X7_seed (mI M 1 ((x3 + 1).toNatClampNeg)) M (fun y244 M243 => vp_in (x3 + 1) (mL M243) ∧ (w_X8_seed (mI M243 1 ((x3 + 1).toNatClampNeg)) M243 (fun y249 M248 => ((y244 = y249 → (w_L_law_18 n (x3 + 6) M248 Q)) ∧ (¬ y244 = y249 → (Q 0 M248))))))))) ∧ (((mI M 1 x3.toNatClampNeg) &&& 63) = 28 → (w_X7_ask  M (fun y253 M252 => w_X8_ask  M252 (fun y256 M255 => ((y253 = y256 → (w_L_law_18 n (x3 + 6) M255 Q)) ∧ (¬ y253 = y256 → (Q 0 M255))))))) ∧ (((mI M 1 x3.toNatClampNeg) &&& 63) = 29 → (w_X7_image  M (fun y259 M258 => w_X8_image  M258 (fun y262 M261 => ((y259 = y262 → (w_L_law_18 n (x3 + 6) M261 Q)) ∧ (¬ y259 = y262 → (Q 0 M261))))))) ∧ (((mI M 1 x3.toNatClampNeg) &&& 63) = 30 → (vp_in (x3 + 1) (mL M) ∧ (w_X7_octet (mI M 1 ((x3 + 1).toNatClampNeg)) M (fun y266 M265 => vp_in (x3 + 1) (mL M265) ∧ (w_X8_octet (mI M265 1 ((x3 + 1).toNatClampNeg)) M265 (fun y270 M269 => ((y266 = y270 → (w_L_law_18 n (x3 + 6) M269 Q)) ∧ (¬ y266 = y270 → (Q 0 M269))))))))) ∧ (((mI M 1 x3.toNatClampNeg) &&& 63) = 31 → (w_X7_on  M (fun y273 M272 => w_X8_on  M272 (fun y277 M276 => ((y273 = y277 → (w_L_law_18 n (x3 + 6) M276 Q)) ∧ (¬ y273 = y277 → (Q 0 M276))))))) ∧ (((mI M 1 x3.toNatClampNeg) &&& 63) = 32 → (vp_in (x3 + 1) (mL M) ∧ (w_X7_status (mI M 1 ((x3 + 1).toNatClampNeg)) M (fun y282 M281 => vp_in (x3 + 1) (mL M281) ∧ (w_X8_status (mI M281 1 ((x3 + 1).toNatClampNeg)) M281 (fun y286 M285 => ((y282 = y286 → (w_L_law_18 n (x3 + 6) M285 Q)) ∧ (¬ y282 = y286 → (Q 0 M285))))))))) ∧ (¬ ((mI M 1 x3.toNatClampNeg) &&& 63) = 0 → ¬ ((mI M 1 x3.toNatClampNeg) &&& 63) = 1 → ¬ ((mI M 1 x3.toNatClampNeg) &&& 63) = 2 → ¬ ((mI M 1 x3.toNatClampNeg) &&& 63) = 3 → ¬ ((mI M 1 x3.toNatClampNeg) &&& 63) = 4 → ¬ ((mI M 1 x3.toNatClampNeg) &&& 63) = 5 → ¬ ((mI M 1 x3.toNatClampNeg) &&& 63) = 6 → ¬ ((mI M 1 x3.toNatClampNeg) &&& 63) = 7 → ¬ ((mI M 1 x3.toNatClampNeg) &&& 63) = 8 → ¬ ((mI M 1 x3.toNatClampNeg) &&& 63) = 9 → ¬ ((mI M 1 x3.toNatClampNeg) &&& 63) = 10 → ¬ ((mI M 1 x3.toNatClampNeg) &&& 63) = 11 → ¬ ((mI M 1 x3.toNatClampNeg) &&& 63) = 12 → ¬ ((mI M 1 x3.toNatClampNeg) &&& 63) = 13 → ¬ ((mI M 1 x3.toNatClampNeg) &&& 63) = 14 → ¬ ((mI M 1 x3.toNatClampNeg) &&& 63) = 15 → ¬ ((mI M 1 x3.toNatClampNeg) &&& 63) = 16 → ¬ ((mI M 1 x3.toNatClampNeg) &&& 63) = 17 → ¬ ((mI M 1 x3.toNatClampNeg) &&& 63) = 18 → ¬ ((mI M 1 x3.toNatClampNeg) &&& 63) = 19 → ¬ ((mI M 1 x3.toNatClampNeg) &&& 63) = 20 → ¬ ((mI M 1 x3.toNatClampNeg) &&& 63) = 21 → ¬ ((mI M 1 x3.toNatClampNeg) &&& 63) = 22 → ¬ ((mI M 1 x3.toNatClampNeg) &&& 63) = 23 → ¬ ((mI M 1 x3.toNatClampNeg) &&& 63) = 24 → ¬ ((mI M 1 x3.toNatClampNeg) &&& 63) = 25 → ¬ ((mI M 1 x3.toNatClampNeg) &&& 63) = 26 → ¬ ((mI M 1 x3.toNatClampNeg) &&& 63) = 27 → ¬ ((mI M 1 x3.toNatClampNeg) &&& 63) = 28 → ¬ ((mI M 1 x3.toNatClampNeg) &&& 63) = 29 → ¬ ((mI M 1 x3.toNatClampNeg) &&& 63) = 30 → ¬ ((mI M 1 x3.toNatClampNeg) &&& 63) = 31 → ¬ ((mI M 1 x3.toNatClampNeg) &&& 63) = 32 → (w_L_law_18 n (x3 + 6) M Q))))))
set_option maxRecDepth 4000 in
theorem c_L_law_18 {nm : String}  {Q : Int32 → pm → Prop}  : ∀ (n : Nat) (x3 : Int32) (M : pm), pG M → w_L_law_18 n x3 M  Q → PW (mL_law nm) 400 350 18 [.ref 1, .ref 3, .ref 277, .int x3] [] M (qZ Q) := by
  intro n
  induction n with
  | zero => intro x3 M hM h; exact h.elim
  | succ n ih =>
    intro x3 M hM h
    unfold w_L_law_18 at h
    refine PW.iload_n (pc := 18) dL_law_18 rfl ?_
    refine PW.aload_n (pc := 19) dL_law_19 rfl ?_
    refine PW.slen (pc := 20) dL_law_20 rfl ?_
    refine PW.bipush (pc := 21) dL_law_21 (v := 6) (by decide) ?_
    refine PW.isub (pc := 23) dL_law_23 ?_
    refine PW.icmp_gt (pc := 24) dL_law_24 (t := 1007) (by decide) (fun hc => ?_) (fun hc => ?_)
    · have h := h.1 hc
      refine PW.iconst (pc := 1007) dL_law_1007 (v := 1) (by decide) ?_
      exact PW.retI (pc := 1008) dL_law_1008 hM.1 rfl (bz_n bz1) ⟨hM, _, rfl, bz1, h⟩
    · have h := h.2 hc
      refine PW.aload_n (pc := 27) dL_law_27 rfl ?_
      refine PW.iload_n (pc := 28) dL_law_28 rfl ?_
      obtain ⟨v1, h⟩ := h
      refine PW.sld (pc := 29) dL_law_29 v1 ?_
      refine PW.bipush (pc := 30) dL_law_30 (v := 63) (by decide) ?_
      refine PW.iand (pc := 32) dL_law_32 ?_
      by_cases q0 : ((mI M 1 x3.toNatClampNeg) &&& 63) = 0
      · have h := h.1 q0
        refine PW.tabIn (pc := 33) dL_law_33 (by rw [q0]; decide) (by rw [q0]; decide) (off := 147) (by rw [q0]; decide) (t := 180) (by decide) ?_
        refine PW.aload_n (pc := 180) dL_law_180 rfl ?_
        refine PW.aload_n (pc := 181) dL_law_181 rfl ?_
        refine PW.iload_n (pc := 182) dL_law_182 rfl ?_
        refine PW.iconst (pc := 183) dL_law_183 (v := 1) (by decide) ?_
        refine PW.iadd (pc := 184) dL_law_184 ?_
        obtain ⟨v2, h⟩ := h
        refine PW.sld (pc := 185) dL_law_185 v2 ?_
        refine PW.aload_n (pc := 186) dL_law_186 rfl ?_
        refine PW.iload_n (pc := 187) dL_law_187 rfl ?_
        refine PW.iconst (pc := 188) dL_law_188 (v := 2) (by decide) ?_
        refine PW.iadd (pc := 189) dL_law_189 ?_
        obtain ⟨v3, h⟩ := h
        refine PW.sld (pc := 190) dL_law_190 v3 ?_
        refine PW.aload_n (pc := 191) dL_law_191 rfl ?_
        refine PW.iload_n (pc := 192) dL_law_192 rfl ?_
        refine PW.iconst (pc := 193) dL_law_193 (v := 3) (by decide) ?_
        refine PW.iadd (pc := 194) dL_law_194 ?_
        obtain ⟨v4, h⟩ := h
        refine PW.sld (pc := 195) dL_law_195 v4 ?_
        refine PW.aload_n (pc := 196) dL_law_196 rfl ?_
        refine PW.iload_n (pc := 197) dL_law_197 rfl ?_
        refine PW.iconst (pc := 198) dL_law_198 (v := 4) (by decide) ?_
        refine PW.iadd (pc := 199) dL_law_199 ?_
        obtain ⟨v5, h⟩ := h
        refine PW.sld (pc := 200) dL_law_200 v5 ?_
        refine PW.aload_n (pc := 201) dL_law_201 rfl ?_
        refine PW.iload_n (pc := 202) dL_law_202 rfl ?_
        refine PW.iconst (pc := 203) dL_law_203 (v := 5) (by decide) ?_
        refine PW.iadd (pc := 204) dL_law_204 ?_
        obtain ⟨v6, h⟩ := h
        refine PW.sld (pc := 205) dL_law_205 v6 ?_
        refine PW.inv (m' := mX7_feed) (pc := 206) dL_law_206 lm_L_13 me_X7_feed mi_X7_feed (ob hM.1 s_3 (by decide)) rfl (As := [.int (mI M 1 ((x3 + 1).toNatClampNeg)), .int (mI M 1 ((x3 + 2).toNatClampNeg)), .int (mI M 1 ((x3 + 3).toNatClampNeg)), .int (mI M 1 ((x3 + 4).toNatClampNeg)), .int (mI M 1 ((x3 + 5).toNatClampNeg))]) (st := []) rfl (Nat.le_of_ble_eq_true rfl) (Nat.le_of_ble_eq_true rfl) (Nat.le_of_eq hM.1) (Nat.le_refl _) (PW.deep (by decide) (c_X7_feed  hM h)) ?_
        rintro _ M7 ⟨hM9, y8, rfl, h⟩
        refine PW.aload_n (pc := 209) dL_law_209 rfl ?_
        refine PW.aload_n (pc := 210) dL_law_210 rfl ?_
        refine PW.iload_n (pc := 211) dL_law_211 rfl ?_
        refine PW.iconst (pc := 212) dL_law_212 (v := 1) (by decide) ?_
        refine PW.iadd (pc := 213) dL_law_213 ?_
        obtain ⟨v10, h⟩ := h
        refine PW.sld (pc := 214) dL_law_214 v10 ?_
        refine PW.aload_n (pc := 215) dL_law_215 rfl ?_
        refine PW.iload_n (pc := 216) dL_law_216 rfl ?_
        refine PW.iconst (pc := 217) dL_law_217 (v := 2) (by decide) ?_
        refine PW.iadd (pc := 218) dL_law_218 ?_
        obtain ⟨v11, h⟩ := h
        refine PW.sld (pc := 219) dL_law_219 v11 ?_
        refine PW.aload_n (pc := 220) dL_law_220 rfl ?_
        refine PW.iload_n (pc := 221) dL_law_221 rfl ?_
        refine PW.iconst (pc := 222) dL_law_222 (v := 3) (by decide) ?_
        refine PW.iadd (pc := 223) dL_law_223 ?_
        obtain ⟨v12, h⟩ := h
        refine PW.sld (pc := 224) dL_law_224 v12 ?_
        refine PW.aload_n (pc := 225) dL_law_225 rfl ?_
        refine PW.iload_n (pc := 226) dL_law_226 rfl ?_
        refine PW.iconst (pc := 227) dL_law_227 (v := 4) (by decide) ?_
        refine PW.iadd (pc := 228) dL_law_228 ?_
        obtain ⟨v13, h⟩ := h
        refine PW.sld (pc := 229) dL_law_229 v13 ?_
        refine PW.aload_n (pc := 230) dL_law_230 rfl ?_
        refine PW.iload_n (pc := 231) dL_law_231 rfl ?_
        refine PW.iconst (pc := 232) dL_law_232 (v := 5) (by decide) ?_
        refine PW.iadd (pc := 233) dL_law_233 ?_
        obtain ⟨v14, h⟩ := h
        refine PW.sld (pc := 234) dL_law_234 v14 ?_
        refine PW.inv (m' := mX8_feed) (pc := 235) dL_law_235 lm_L_17 me_X8_feed mi_X8_feed (ob hM9.1 s_277 (by decide)) rfl (As := [.int (mI M7 1 ((x3 + 1).toNatClampNeg)), .int (mI M7 1 ((x3 + 2).toNatClampNeg)), .int (mI M7 1 ((x3 + 3).toNatClampNeg)), .int (mI M7 1 ((x3 + 4).toNatClampNeg)), .int (mI M7 1 ((x3 + 5).toNatClampNeg))]) (st := [.int y8]) rfl (Nat.le_of_ble_eq_true rfl) (Nat.le_of_ble_eq_true rfl) (Nat.le_of_eq hM9.1) (Nat.le_refl _) (PW.deep (by decide) (c_X8_feed  hM9 h)) ?_
        rintro _ M15 ⟨hM17, y16, rfl, h⟩
        refine PW.icmp_eq (pc := 238) dL_law_238 (t := 1001) (by decide) (fun hc => ?_) (fun hc => ?_)
        · have h := h.1 hc
          refine PW.iinc (pc := 1001) dL_law_1001 (v := (x3 + 6)) (ls' := [.ref 1, .ref 3, .ref 277, .int (x3 + 6)]) rfl rfl (Nat.le_of_ble_eq_true rfl) rfl rfl ?_
          refine PW.goto (pc := 1004) dL_law_1004 (t := 18) (by decide) ?_
          exact PW.drop (ih _ _ hM17 h) ⟨rfl, rfl, rfl, rfl, trivial⟩
        · have h := h.2 hc
          refine PW.iconst (pc := 241) dL_law_241 (v := 0) (by decide) ?_
          exact PW.retI (pc := 242) dL_law_242 hM17.1 rfl (bz_n bz0) ⟨hM17, _, rfl, bz0, h⟩
      by_cases q1 : ((mI M 1 x3.toNatClampNeg) &&& 63) = 1
      · have h := h.2.1 q1
        refine PW.tabIn (pc := 33) dL_law_33 (by rw [q1]; decide) (by rw [q1]; decide) (off := 210) (by rw [q1]; decide) (t := 243) (by decide) ?_
        refine PW.aload_n (pc := 243) dL_law_243 rfl ?_
        refine PW.aload_n (pc := 244) dL_law_244 rfl ?_
        refine PW.iload_n (pc := 245) dL_law_245 rfl ?_
        refine PW.iconst (pc := 246) dL_law_246 (v := 1) (by decide) ?_
        refine PW.iadd (pc := 247) dL_law_247 ?_
        obtain ⟨v18, h⟩ := h
        refine PW.sld (pc := 248) dL_law_248 v18 ?_
        refine PW.inv (m' := mX7_end) (pc := 249) dL_law_249 lm_L_18 me_X7_end mi_X7_end (ob hM.1 s_3 (by decide)) rfl (As := [.int (mI M 1 ((x3 + 1).toNatClampNeg))]) (st := []) rfl (Nat.le_of_ble_eq_true rfl) (Nat.le_of_ble_eq_true rfl) (Nat.le_of_eq hM.1) (Nat.le_refl _) (PW.deep (by decide) (c_X7_end  hM h)) ?_
        rintro _ M19 ⟨hM21, y20, rfl, z22, h⟩
        refine PW.aload_n (pc := 252) dL_law_252 rfl ?_
        refine PW.aload_n (pc := 253) dL_law_253 rfl ?_
        refine PW.iload_n (pc := 254) dL_law_254 rfl ?_
        refine PW.iconst (pc := 255) dL_law_255 (v := 1) (by decide) ?_
        refine PW.iadd (pc := 256) dL_law_256 ?_
        obtain ⟨v23, h⟩ := h
        refine PW.sld (pc := 257) dL_law_257 v23 ?_
        refine PW.inv (m' := mX8_end) (pc := 258) dL_law_258 lm_L_22 me_X8_end mi_X8_end (ob hM21.1 s_277 (by decide)) rfl (As := [.int (mI M19 1 ((x3 + 1).toNatClampNeg))]) (st := [.int y20]) rfl (Nat.le_of_ble_eq_true rfl) (Nat.le_of_ble_eq_true rfl) (Nat.le_of_eq hM21.1) (Nat.le_refl _) (PW.deep (by decide) (c_X8_end  hM21 h)) ?_
        rintro _ M24 ⟨hM26, y25, rfl, z27, h⟩
        refine PW.icmp_eq (pc := 261) dL_law_261 (t := 1001) (by decide) (fun hc => ?_) (fun hc => ?_)
        · have h := h.1 hc
          refine PW.iinc (pc := 1001) dL_law_1001 (v := (x3 + 6)) (ls' := [.ref 1, .ref 3, .ref 277, .int (x3 + 6)]) rfl rfl (Nat.le_of_ble_eq_true rfl) rfl rfl ?_
          refine PW.goto (pc := 1004) dL_law_1004 (t := 18) (by decide) ?_
          exact PW.drop (ih _ _ hM26 h) ⟨rfl, rfl, rfl, rfl, trivial⟩
        · have h := h.2 hc
          refine PW.iconst (pc := 264) dL_law_264 (v := 0) (by decide) ?_
          exact PW.retI (pc := 265) dL_law_265 hM26.1 rfl (bz_n bz0) ⟨hM26, _, rfl, bz0, h⟩
      by_cases q2 : ((mI M 1 x3.toNatClampNeg) &&& 63) = 2
      · have h := h.2.2.1 q2
        refine PW.tabIn (pc := 33) dL_law_33 (by rw [q2]; decide) (by rw [q2]; decide) (off := 233) (by rw [q2]; decide) (t := 266) (by decide) ?_
        refine PW.aload_n (pc := 266) dL_law_266 rfl ?_
        refine PW.inv (m' := mX7_station) (pc := 267) dL_law_267 lm_L_23 me_X7_station mi_X7_station (ob hM.1 s_3 (by decide)) rfl (As := []) (st := []) rfl (Nat.le_of_ble_eq_true rfl) (Nat.le_of_ble_eq_true rfl) (Nat.le_of_eq hM.1) (Nat.le_refl _) (PW.deep (by decide) (c_X7_station  hM h)) ?_
        rintro _ M28 ⟨hM30, y29, rfl, h⟩
        refine PW.aload_n (pc := 270) dL_law_270 rfl ?_
        refine PW.inv (m' := mX8_station) (pc := 271) dL_law_271 lm_L_27 me_X8_station mi_X8_station (ob hM30.1 s_277 (by decide)) rfl (As := []) (st := [.int y29]) rfl (Nat.le_of_ble_eq_true rfl) (Nat.le_of_ble_eq_true rfl) (Nat.le_of_eq hM30.1) (Nat.le_refl _) (PW.deep (by decide) (c_X8_station  hM30 h)) ?_
        rintro _ M31 ⟨hM33, y32, rfl, h⟩
        refine PW.icmp_eq (pc := 274) dL_law_274 (t := 1001) (by decide) (fun hc => ?_) (fun hc => ?_)
        · have h := h.1 hc
          refine PW.iinc (pc := 1001) dL_law_1001 (v := (x3 + 6)) (ls' := [.ref 1, .ref 3, .ref 277, .int (x3 + 6)]) rfl rfl (Nat.le_of_ble_eq_true rfl) rfl rfl ?_
          refine PW.goto (pc := 1004) dL_law_1004 (t := 18) (by decide) ?_
          exact PW.drop (ih _ _ hM33 h) ⟨rfl, rfl, rfl, rfl, trivial⟩
        · have h := h.2 hc
          refine PW.iconst (pc := 277) dL_law_277 (v := 0) (by decide) ?_
          exact PW.retI (pc := 278) dL_law_278 hM33.1 rfl (bz_n bz0) ⟨hM33, _, rfl, bz0, h⟩
      by_cases q3 : ((mI M 1 x3.toNatClampNeg) &&& 63) = 3
      · have h := h.2.2.2.1 q3
        refine PW.tabIn (pc := 33) dL_law_33 (by rw [q3]; decide) (by rw [q3]; decide) (off := 246) (by rw [q3]; decide) (t := 279) (by decide) ?_
        refine PW.aload_n (pc := 279) dL_law_279 rfl ?_
        refine PW.aload_n (pc := 280) dL_law_280 rfl ?_
        refine PW.iload_n (pc := 281) dL_law_281 rfl ?_
        refine PW.iconst (pc := 282) dL_law_282 (v := 1) (by decide) ?_
        refine PW.iadd (pc := 283) dL_law_283 ?_
        obtain ⟨v34, h⟩ := h
        refine PW.sld (pc := 284) dL_law_284 v34 ?_
        refine PW.inv (m' := mX7_fault) (pc := 285) dL_law_285 lm_L_28 me_X7_fault mi_X7_fault (ob hM.1 s_3 (by decide)) rfl (As := [.int (mI M 1 ((x3 + 1).toNatClampNeg))]) (st := []) rfl (Nat.le_of_ble_eq_true rfl) (Nat.le_of_ble_eq_true rfl) (Nat.le_of_eq hM.1) (Nat.le_refl _) (PW.deep (by decide) (c_X7_fault  hM h)) ?_
        rintro _ M35 ⟨hM37, y36, rfl, h⟩
        refine PW.aload_n (pc := 288) dL_law_288 rfl ?_
        refine PW.aload_n (pc := 289) dL_law_289 rfl ?_
        refine PW.iload_n (pc := 290) dL_law_290 rfl ?_
        refine PW.iconst (pc := 291) dL_law_291 (v := 1) (by decide) ?_
        refine PW.iadd (pc := 292) dL_law_292 ?_
        obtain ⟨v38, h⟩ := h
        refine PW.sld (pc := 293) dL_law_293 v38 ?_
        refine PW.inv (m' := mX8_fault) (pc := 294) dL_law_294 lm_L_32 me_X8_fault mi_X8_fault (ob hM37.1 s_277 (by decide)) rfl (As := [.int (mI M35 1 ((x3 + 1).toNatClampNeg))]) (st := [.int y36]) rfl (Nat.le_of_ble_eq_true rfl) (Nat.le_of_ble_eq_true rfl) (Nat.le_of_eq hM37.1) (Nat.le_refl _) (PW.deep (by decide) (c_X8_fault  hM37 h)) ?_
        rintro _ M39 ⟨hM41, y40, rfl, h⟩
        refine PW.icmp_eq (pc := 297) dL_law_297 (t := 1001) (by decide) (fun hc => ?_) (fun hc => ?_)
        · have h := h.1 hc
          refine PW.iinc (pc := 1001) dL_law_1001 (v := (x3 + 6)) (ls' := [.ref 1, .ref 3, .ref 277, .int (x3 + 6)]) rfl rfl (Nat.le_of_ble_eq_true rfl) rfl rfl ?_
          refine PW.goto (pc := 1004) dL_law_1004 (t := 18) (by decide) ?_
          exact PW.drop (ih _ _ hM41 h) ⟨rfl, rfl, rfl, rfl, trivial⟩
        · have h := h.2 hc
          refine PW.iconst (pc := 300) dL_law_300 (v := 0) (by decide) ?_
          exact PW.retI (pc := 301) dL_law_301 hM41.1 rfl (bz_n bz0) ⟨hM41, _, rfl, bz0, h⟩
      by_cases q4 : ((mI M 1 x3.toNatClampNeg) &&& 63) = 4
      · have h := h.2.2.2.2.1 q4
        refine PW.tabIn (pc := 33) dL_law_33 (by rw [q4]; decide) (by rw [q4]; decide) (off := 269) (by rw [q4]; decide) (t := 302) (by decide) ?_
        refine PW.aload_n (pc := 302) dL_law_302 rfl ?_
        refine PW.aload_n (pc := 303) dL_law_303 rfl ?_
        refine PW.iload_n (pc := 304) dL_law_304 rfl ?_
        refine PW.iconst (pc := 305) dL_law_305 (v := 1) (by decide) ?_
        refine PW.iadd (pc := 306) dL_law_306 ?_
        obtain ⟨v42, h⟩ := h
        refine PW.sld (pc := 307) dL_law_307 v42 ?_
        refine PW.inv (m' := mX7_has) (pc := 308) dL_law_308 lm_L_33 me_X7_has mi_X7_has (ob hM.1 s_3 (by decide)) rfl (As := [.int (mI M 1 ((x3 + 1).toNatClampNeg))]) (st := []) rfl (Nat.le_of_ble_eq_true rfl) (Nat.le_of_ble_eq_true rfl) (Nat.le_of_eq hM.1) (Nat.le_refl _) (PW.deep (by decide) (c_X7_has  hM h)) ?_
        rintro _ M43 ⟨hM45, y44, rfl, h⟩
        refine PW.aload_n (pc := 311) dL_law_311 rfl ?_
        refine PW.aload_n (pc := 312) dL_law_312 rfl ?_
        refine PW.iload_n (pc := 313) dL_law_313 rfl ?_
        refine PW.iconst (pc := 314) dL_law_314 (v := 1) (by decide) ?_
        refine PW.iadd (pc := 315) dL_law_315 ?_
        obtain ⟨v46, h⟩ := h
        refine PW.sld (pc := 316) dL_law_316 v46 ?_
        refine PW.inv (m' := mX8_has) (pc := 317) dL_law_317 lm_L_36 me_X8_has mi_X8_has (ob hM45.1 s_277 (by decide)) rfl (As := [.int (mI M43 1 ((x3 + 1).toNatClampNeg))]) (st := [.int y44]) rfl (Nat.le_of_ble_eq_true rfl) (Nat.le_of_ble_eq_true rfl) (Nat.le_of_eq hM45.1) (Nat.le_refl _) (PW.deep (by decide) (c_X8_has  hM45 h)) ?_
        rintro _ M47 ⟨hM49, y48, rfl, h⟩
        refine PW.icmp_eq (pc := 320) dL_law_320 (t := 1001) (by decide) (fun hc => ?_) (fun hc => ?_)
        · have h := h.1 hc
          refine PW.iinc (pc := 1001) dL_law_1001 (v := (x3 + 6)) (ls' := [.ref 1, .ref 3, .ref 277, .int (x3 + 6)]) rfl rfl (Nat.le_of_ble_eq_true rfl) rfl rfl ?_
          refine PW.goto (pc := 1004) dL_law_1004 (t := 18) (by decide) ?_
          exact PW.drop (ih _ _ hM49 h) ⟨rfl, rfl, rfl, rfl, trivial⟩
        · have h := h.2 hc
          refine PW.iconst (pc := 323) dL_law_323 (v := 0) (by decide) ?_
          exact PW.retI (pc := 324) dL_law_324 hM49.1 rfl (bz_n bz0) ⟨hM49, _, rfl, bz0, h⟩
      by_cases q5 : ((mI M 1 x3.toNatClampNeg) &&& 63) = 5
      · have h := h.2.2.2.2.2.1 q5
        refine PW.tabIn (pc := 33) dL_law_33 (by rw [q5]; decide) (by rw [q5]; decide) (off := 292) (by rw [q5]; decide) (t := 325) (by decide) ?_
        refine PW.aload_n (pc := 325) dL_law_325 rfl ?_
        refine PW.aload_n (pc := 326) dL_law_326 rfl ?_
        refine PW.iload_n (pc := 327) dL_law_327 rfl ?_
        refine PW.iconst (pc := 328) dL_law_328 (v := 1) (by decide) ?_
        refine PW.iadd (pc := 329) dL_law_329 ?_
        obtain ⟨v50, h⟩ := h
        refine PW.sld (pc := 330) dL_law_330 v50 ?_
        refine PW.aload_n (pc := 331) dL_law_331 rfl ?_
        refine PW.iload_n (pc := 332) dL_law_332 rfl ?_
        refine PW.iconst (pc := 333) dL_law_333 (v := 2) (by decide) ?_
        refine PW.iadd (pc := 334) dL_law_334 ?_
        obtain ⟨v51, h⟩ := h
        refine PW.sld (pc := 335) dL_law_335 v51 ?_
        refine PW.aload_n (pc := 336) dL_law_336 rfl ?_
        refine PW.iload_n (pc := 337) dL_law_337 rfl ?_
        refine PW.iconst (pc := 338) dL_law_338 (v := 3) (by decide) ?_
        refine PW.iadd (pc := 339) dL_law_339 ?_
        obtain ⟨v52, h⟩ := h
        refine PW.sld (pc := 340) dL_law_340 v52 ?_
        refine PW.inv (m' := mX7_letter) (pc := 341) dL_law_341 lm_L_37 me_X7_letter mi_X7_letter (ob hM.1 s_3 (by decide)) rfl (As := [.int (mI M 1 ((x3 + 1).toNatClampNeg)), .int (mI M 1 ((x3 + 2).toNatClampNeg)), .int (mI M 1 ((x3 + 3).toNatClampNeg))]) (st := []) rfl (Nat.le_of_ble_eq_true rfl) (Nat.le_of_ble_eq_true rfl) (Nat.le_of_eq hM.1) (Nat.le_refl _) (PW.deep (by decide) (c_X7_letter  hM h)) ?_
        rintro _ M53 ⟨hM55, y54, rfl, h⟩
        refine PW.aload_n (pc := 344) dL_law_344 rfl ?_
        refine PW.aload_n (pc := 345) dL_law_345 rfl ?_
        refine PW.iload_n (pc := 346) dL_law_346 rfl ?_
        refine PW.iconst (pc := 347) dL_law_347 (v := 1) (by decide) ?_
        refine PW.iadd (pc := 348) dL_law_348 ?_
        obtain ⟨v56, h⟩ := h
        refine PW.sld (pc := 349) dL_law_349 v56 ?_
        refine PW.aload_n (pc := 350) dL_law_350 rfl ?_
        refine PW.iload_n (pc := 351) dL_law_351 rfl ?_
        refine PW.iconst (pc := 352) dL_law_352 (v := 2) (by decide) ?_
        refine PW.iadd (pc := 353) dL_law_353 ?_
        obtain ⟨v57, h⟩ := h
        refine PW.sld (pc := 354) dL_law_354 v57 ?_
        refine PW.aload_n (pc := 355) dL_law_355 rfl ?_
        refine PW.iload_n (pc := 356) dL_law_356 rfl ?_
        refine PW.iconst (pc := 357) dL_law_357 (v := 3) (by decide) ?_
        refine PW.iadd (pc := 358) dL_law_358 ?_
        obtain ⟨v58, h⟩ := h
        refine PW.sld (pc := 359) dL_law_359 v58 ?_
        refine PW.inv (m' := mX8_letter) (pc := 360) dL_law_360 lm_L_41 me_X8_letter mi_X8_letter (ob hM55.1 s_277 (by decide)) rfl (As := [.int (mI M53 1 ((x3 + 1).toNatClampNeg)), .int (mI M53 1 ((x3 + 2).toNatClampNeg)), .int (mI M53 1 ((x3 + 3).toNatClampNeg))]) (st := [.int y54]) rfl (Nat.le_of_ble_eq_true rfl) (Nat.le_of_ble_eq_true rfl) (Nat.le_of_eq hM55.1) (Nat.le_refl _) (PW.deep (by decide) (c_X8_letter  hM55 h)) ?_
        rintro _ M59 ⟨hM61, y60, rfl, h⟩
        refine PW.icmp_eq (pc := 363) dL_law_363 (t := 1001) (by decide) (fun hc => ?_) (fun hc => ?_)
        · have h := h.1 hc
          refine PW.iinc (pc := 1001) dL_law_1001 (v := (x3 + 6)) (ls' := [.ref 1, .ref 3, .ref 277, .int (x3 + 6)]) rfl rfl (Nat.le_of_ble_eq_true rfl) rfl rfl ?_
          refine PW.goto (pc := 1004) dL_law_1004 (t := 18) (by decide) ?_
          exact PW.drop (ih _ _ hM61 h) ⟨rfl, rfl, rfl, rfl, trivial⟩
        · have h := h.2 hc
          refine PW.iconst (pc := 366) dL_law_366 (v := 0) (by decide) ?_
          exact PW.retI (pc := 367) dL_law_367 hM61.1 rfl (bz_n bz0) ⟨hM61, _, rfl, bz0, h⟩
      by_cases q6 : ((mI M 1 x3.toNatClampNeg) &&& 63) = 6
      · have h := h.2.2.2.2.2.2.1 q6
        refine PW.tabIn (pc := 33) dL_law_33 (by rw [q6]; decide) (by rw [q6]; decide) (off := 335) (by rw [q6]; decide) (t := 368) (by decide) ?_
        refine PW.aload_n (pc := 368) dL_law_368 rfl ?_
        refine PW.aload_n (pc := 369) dL_law_369 rfl ?_
        refine PW.iload_n (pc := 370) dL_law_370 rfl ?_
        refine PW.iconst (pc := 371) dL_law_371 (v := 1) (by decide) ?_
        refine PW.iadd (pc := 372) dL_law_372 ?_
        obtain ⟨v62, h⟩ := h
        refine PW.sld (pc := 373) dL_law_373 v62 ?_
        refine PW.aload_n (pc := 374) dL_law_374 rfl ?_
        refine PW.iload_n (pc := 375) dL_law_375 rfl ?_
        refine PW.iconst (pc := 376) dL_law_376 (v := 2) (by decide) ?_
        refine PW.iadd (pc := 377) dL_law_377 ?_
        obtain ⟨v63, h⟩ := h
        refine PW.sld (pc := 378) dL_law_378 v63 ?_
        refine PW.inv (m' := mX7_song) (pc := 379) dL_law_379 lm_L_42 me_X7_song mi_X7_song (ob hM.1 s_3 (by decide)) rfl (As := [.int (mI M 1 ((x3 + 1).toNatClampNeg)), .int (mI M 1 ((x3 + 2).toNatClampNeg))]) (st := []) rfl (Nat.le_of_ble_eq_true rfl) (Nat.le_of_ble_eq_true rfl) (Nat.le_of_eq hM.1) (Nat.le_refl _) (PW.deep (by decide) (c_X7_song  hM h)) ?_
        rintro _ M64 ⟨hM66, y65, rfl, h⟩
        refine PW.aload_n (pc := 382) dL_law_382 rfl ?_
        refine PW.aload_n (pc := 383) dL_law_383 rfl ?_
        refine PW.iload_n (pc := 384) dL_law_384 rfl ?_
        refine PW.iconst (pc := 385) dL_law_385 (v := 1) (by decide) ?_
        refine PW.iadd (pc := 386) dL_law_386 ?_
        obtain ⟨v67, h⟩ := h
        refine PW.sld (pc := 387) dL_law_387 v67 ?_
        refine PW.aload_n (pc := 388) dL_law_388 rfl ?_
        refine PW.iload_n (pc := 389) dL_law_389 rfl ?_
        refine PW.iconst (pc := 390) dL_law_390 (v := 2) (by decide) ?_
        refine PW.iadd (pc := 391) dL_law_391 ?_
        obtain ⟨v68, h⟩ := h
        refine PW.sld (pc := 392) dL_law_392 v68 ?_
        refine PW.inv (m' := mX8_song) (pc := 393) dL_law_393 lm_L_46 me_X8_song mi_X8_song (ob hM66.1 s_277 (by decide)) rfl (As := [.int (mI M64 1 ((x3 + 1).toNatClampNeg)), .int (mI M64 1 ((x3 + 2).toNatClampNeg))]) (st := [.int y65]) rfl (Nat.le_of_ble_eq_true rfl) (Nat.le_of_ble_eq_true rfl) (Nat.le_of_eq hM66.1) (Nat.le_refl _) (PW.deep (by decide) (c_X8_song  hM66 h)) ?_
        rintro _ M69 ⟨hM71, y70, rfl, h⟩
        refine PW.icmp_eq (pc := 396) dL_law_396 (t := 1001) (by decide) (fun hc => ?_) (fun hc => ?_)
        · have h := h.1 hc
          refine PW.iinc (pc := 1001) dL_law_1001 (v := (x3 + 6)) (ls' := [.ref 1, .ref 3, .ref 277, .int (x3 + 6)]) rfl rfl (Nat.le_of_ble_eq_true rfl) rfl rfl ?_
          refine PW.goto (pc := 1004) dL_law_1004 (t := 18) (by decide) ?_
          exact PW.drop (ih _ _ hM71 h) ⟨rfl, rfl, rfl, rfl, trivial⟩
        · have h := h.2 hc
          refine PW.iconst (pc := 399) dL_law_399 (v := 0) (by decide) ?_
          exact PW.retI (pc := 400) dL_law_400 hM71.1 rfl (bz_n bz0) ⟨hM71, _, rfl, bz0, h⟩
      by_cases q7 : ((mI M 1 x3.toNatClampNeg) &&& 63) = 7
      · have h := h.2.2.2.2.2.2.2.1 q7
        refine PW.tabIn (pc := 33) dL_law_33 (by rw [q7]; decide) (by rw [q7]; decide) (off := 368) (by rw [q7]; decide) (t := 401) (by decide) ?_
        refine PW.aload_n (pc := 401) dL_law_401 rfl ?_
        refine PW.aload_n (pc := 402) dL_law_402 rfl ?_
        refine PW.iload_n (pc := 403) dL_law_403 rfl ?_
        refine PW.iconst (pc := 404) dL_law_404 (v := 1) (by decide) ?_
        refine PW.iadd (pc := 405) dL_law_405 ?_
        obtain ⟨v72, h⟩ := h
        refine PW.sld (pc := 406) dL_law_406 v72 ?_
        refine PW.aload_n (pc := 407) dL_law_407 rfl ?_
        refine PW.iload_n (pc := 408) dL_law_408 rfl ?_
        refine PW.iconst (pc := 409) dL_law_409 (v := 2) (by decide) ?_
        refine PW.iadd (pc := 410) dL_law_410 ?_
        obtain ⟨v73, h⟩ := h
        refine PW.sld (pc := 411) dL_law_411 v73 ?_
        refine PW.inv (m' := mX7_asker) (pc := 412) dL_law_412 lm_L_47 me_X7_asker mi_X7_asker (ob hM.1 s_3 (by decide)) rfl (As := [.int (mI M 1 ((x3 + 1).toNatClampNeg)), .int (mI M 1 ((x3 + 2).toNatClampNeg))]) (st := []) rfl (Nat.le_of_ble_eq_true rfl) (Nat.le_of_ble_eq_true rfl) (Nat.le_of_eq hM.1) (Nat.le_refl _) (PW.deep (by decide) (c_X7_asker  hM h)) ?_
        rintro _ M74 ⟨hM76, y75, rfl, h⟩
        refine PW.aload_n (pc := 415) dL_law_415 rfl ?_
        refine PW.aload_n (pc := 416) dL_law_416 rfl ?_
        refine PW.iload_n (pc := 417) dL_law_417 rfl ?_
        refine PW.iconst (pc := 418) dL_law_418 (v := 1) (by decide) ?_
        refine PW.iadd (pc := 419) dL_law_419 ?_
        obtain ⟨v77, h⟩ := h
        refine PW.sld (pc := 420) dL_law_420 v77 ?_
        refine PW.aload_n (pc := 421) dL_law_421 rfl ?_
        refine PW.iload_n (pc := 422) dL_law_422 rfl ?_
        refine PW.iconst (pc := 423) dL_law_423 (v := 2) (by decide) ?_
        refine PW.iadd (pc := 424) dL_law_424 ?_
        obtain ⟨v78, h⟩ := h
        refine PW.sld (pc := 425) dL_law_425 v78 ?_
        refine PW.inv (m' := mX8_asker) (pc := 426) dL_law_426 lm_L_50 me_X8_asker mi_X8_asker (ob hM76.1 s_277 (by decide)) rfl (As := [.int (mI M74 1 ((x3 + 1).toNatClampNeg)), .int (mI M74 1 ((x3 + 2).toNatClampNeg))]) (st := [.int y75]) rfl (Nat.le_of_ble_eq_true rfl) (Nat.le_of_ble_eq_true rfl) (Nat.le_of_eq hM76.1) (Nat.le_refl _) (PW.deep (by decide) (c_X8_asker  hM76 h)) ?_
        rintro _ M79 ⟨hM81, y80, rfl, h⟩
        refine PW.icmp_eq (pc := 429) dL_law_429 (t := 1001) (by decide) (fun hc => ?_) (fun hc => ?_)
        · have h := h.1 hc
          refine PW.iinc (pc := 1001) dL_law_1001 (v := (x3 + 6)) (ls' := [.ref 1, .ref 3, .ref 277, .int (x3 + 6)]) rfl rfl (Nat.le_of_ble_eq_true rfl) rfl rfl ?_
          refine PW.goto (pc := 1004) dL_law_1004 (t := 18) (by decide) ?_
          exact PW.drop (ih _ _ hM81 h) ⟨rfl, rfl, rfl, rfl, trivial⟩
        · have h := h.2 hc
          refine PW.iconst (pc := 432) dL_law_432 (v := 0) (by decide) ?_
          exact PW.retI (pc := 433) dL_law_433 hM81.1 rfl (bz_n bz0) ⟨hM81, _, rfl, bz0, h⟩
      by_cases q8 : ((mI M 1 x3.toNatClampNeg) &&& 63) = 8
      · have h := h.2.2.2.2.2.2.2.2.1 q8
        refine PW.tabIn (pc := 33) dL_law_33 (by rw [q8]; decide) (by rw [q8]; decide) (off := 401) (by rw [q8]; decide) (t := 434) (by decide) ?_
        refine PW.aload_n (pc := 434) dL_law_434 rfl ?_
        refine PW.aload_n (pc := 435) dL_law_435 rfl ?_
        refine PW.iload_n (pc := 436) dL_law_436 rfl ?_
        refine PW.iconst (pc := 437) dL_law_437 (v := 1) (by decide) ?_
        refine PW.iadd (pc := 438) dL_law_438 ?_
        obtain ⟨v82, h⟩ := h
        refine PW.sld (pc := 439) dL_law_439 v82 ?_
        refine PW.inv (m' := mX7_worth) (pc := 440) dL_law_440 lm_L_51 me_X7_worth mi_X7_worth (ob hM.1 s_3 (by decide)) rfl (As := [.int (mI M 1 ((x3 + 1).toNatClampNeg))]) (st := []) rfl (Nat.le_of_ble_eq_true rfl) (Nat.le_of_ble_eq_true rfl) (Nat.le_of_eq hM.1) (Nat.le_refl _) (PW.deep (by decide) (c_X7_worth  hM h)) ?_
        rintro _ M83 ⟨hM85, y84, rfl, h⟩
        refine PW.aload_n (pc := 443) dL_law_443 rfl ?_
        refine PW.aload_n (pc := 444) dL_law_444 rfl ?_
        refine PW.iload_n (pc := 445) dL_law_445 rfl ?_
        refine PW.iconst (pc := 446) dL_law_446 (v := 1) (by decide) ?_
        refine PW.iadd (pc := 447) dL_law_447 ?_
        obtain ⟨v86, h⟩ := h
        refine PW.sld (pc := 448) dL_law_448 v86 ?_
        refine PW.inv (m' := mX8_worth) (pc := 449) dL_law_449 lm_L_55 me_X8_worth mi_X8_worth (ob hM85.1 s_277 (by decide)) rfl (As := [.int (mI M83 1 ((x3 + 1).toNatClampNeg))]) (st := [.long y84]) rfl (Nat.le_of_ble_eq_true rfl) (Nat.le_of_ble_eq_true rfl) (Nat.le_of_eq hM85.1) (Nat.le_refl _) (PW.deep (by decide) (c_X8_worth  hM85 h)) ?_
        rintro _ M87 ⟨hM89, y88, rfl, h⟩
        refine PW.lcmp (pc := 452) dL_law_452 ?_
        refine PW.if_eq (pc := 453) dL_law_453 (t := 1001) (by decide) (fun hc => ?_) (fun hc => ?_)
        · have h := h.1 ((lg_cmp_eq _ _).mp hc)
          refine PW.iinc (pc := 1001) dL_law_1001 (v := (x3 + 6)) (ls' := [.ref 1, .ref 3, .ref 277, .int (x3 + 6)]) rfl rfl (Nat.le_of_ble_eq_true rfl) rfl rfl ?_
          refine PW.goto (pc := 1004) dL_law_1004 (t := 18) (by decide) ?_
          exact PW.drop (ih _ _ hM89 h) ⟨rfl, rfl, rfl, rfl, trivial⟩
        · have h := h.2 (fun q => hc ((lg_cmp_eq _ _).mpr q))
          refine PW.iconst (pc := 456) dL_law_456 (v := 0) (by decide) ?_
          exact PW.retI (pc := 457) dL_law_457 hM89.1 rfl (bz_n bz0) ⟨hM89, _, rfl, bz0, h⟩
      by_cases q9 : ((mI M 1 x3.toNatClampNeg) &&& 63) = 9
      · have h := h.2.2.2.2.2.2.2.2.2.1 q9
        refine PW.tabIn (pc := 33) dL_law_33 (by rw [q9]; decide) (by rw [q9]; decide) (off := 425) (by rw [q9]; decide) (t := 458) (by decide) ?_
        refine PW.aload_n (pc := 458) dL_law_458 rfl ?_
        refine PW.aload_n (pc := 459) dL_law_459 rfl ?_
        refine PW.iload_n (pc := 460) dL_law_460 rfl ?_
        refine PW.iconst (pc := 461) dL_law_461 (v := 1) (by decide) ?_
        refine PW.iadd (pc := 462) dL_law_462 ?_
        obtain ⟨v90, h⟩ := h
        refine PW.sld (pc := 463) dL_law_463 v90 ?_
        refine PW.inv (m' := mX7_best) (pc := 464) dL_law_464 lm_L_56 me_X7_best mi_X7_best (ob hM.1 s_3 (by decide)) rfl (As := [.int (mI M 1 ((x3 + 1).toNatClampNeg))]) (st := []) rfl (Nat.le_of_ble_eq_true rfl) (Nat.le_of_ble_eq_true rfl) (Nat.le_of_eq hM.1) (Nat.le_refl _) (PW.deep (by decide) (c_X7_best  hM h)) ?_
        rintro _ M91 ⟨hM93, y92, rfl, h⟩
        refine PW.aload_n (pc := 467) dL_law_467 rfl ?_
        refine PW.aload_n (pc := 468) dL_law_468 rfl ?_
        refine PW.iload_n (pc := 469) dL_law_469 rfl ?_
        refine PW.iconst (pc := 470) dL_law_470 (v := 1) (by decide) ?_
        refine PW.iadd (pc := 471) dL_law_471 ?_
        obtain ⟨v94, h⟩ := h
        refine PW.sld (pc := 472) dL_law_472 v94 ?_
        refine PW.inv (m' := mX8_best) (pc := 473) dL_law_473 lm_L_59 me_X8_best mi_X8_best (ob hM93.1 s_277 (by decide)) rfl (As := [.int (mI M91 1 ((x3 + 1).toNatClampNeg))]) (st := [.int y92]) rfl (Nat.le_of_ble_eq_true rfl) (Nat.le_of_ble_eq_true rfl) (Nat.le_of_eq hM93.1) (Nat.le_refl _) (PW.deep (by decide) (c_X8_best  hM93 h)) ?_
        rintro _ M95 ⟨hM97, y96, rfl, h⟩
        refine PW.icmp_eq (pc := 476) dL_law_476 (t := 1001) (by decide) (fun hc => ?_) (fun hc => ?_)
        · have h := h.1 hc
          refine PW.iinc (pc := 1001) dL_law_1001 (v := (x3 + 6)) (ls' := [.ref 1, .ref 3, .ref 277, .int (x3 + 6)]) rfl rfl (Nat.le_of_ble_eq_true rfl) rfl rfl ?_
          refine PW.goto (pc := 1004) dL_law_1004 (t := 18) (by decide) ?_
          exact PW.drop (ih _ _ hM97 h) ⟨rfl, rfl, rfl, rfl, trivial⟩
        · have h := h.2 hc
          refine PW.iconst (pc := 479) dL_law_479 (v := 0) (by decide) ?_
          exact PW.retI (pc := 480) dL_law_480 hM97.1 rfl (bz_n bz0) ⟨hM97, _, rfl, bz0, h⟩
      by_cases q10 : ((mI M 1 x3.toNatClampNeg) &&& 63) = 10
      · have h := h.2.2.2.2.2.2.2.2.2.2.1 q10
        refine PW.tabIn (pc := 33) dL_law_33 (by rw [q10]; decide) (by rw [q10]; decide) (off := 448) (by rw [q10]; decide) (t := 481) (by decide) ?_
        refine PW.aload_n (pc := 481) dL_law_481 rfl ?_
        refine PW.aload_n (pc := 482) dL_law_482 rfl ?_
        refine PW.iload_n (pc := 483) dL_law_483 rfl ?_
        refine PW.iconst (pc := 484) dL_law_484 (v := 1) (by decide) ?_
        refine PW.iadd (pc := 485) dL_law_485 ?_
        obtain ⟨v98, h⟩ := h
        refine PW.sld (pc := 486) dL_law_486 v98 ?_
        refine PW.aload_n (pc := 487) dL_law_487 rfl ?_
        refine PW.iload_n (pc := 488) dL_law_488 rfl ?_
        refine PW.iconst (pc := 489) dL_law_489 (v := 2) (by decide) ?_
        refine PW.iadd (pc := 490) dL_law_490 ?_
        obtain ⟨v99, h⟩ := h
        refine PW.sld (pc := 491) dL_law_491 v99 ?_
        refine PW.inv (m' := mX7_kept) (pc := 492) dL_law_492 lm_L_60 me_X7_kept mi_X7_kept (ob hM.1 s_3 (by decide)) rfl (As := [.int (mI M 1 ((x3 + 1).toNatClampNeg)), .int (mI M 1 ((x3 + 2).toNatClampNeg))]) (st := []) rfl (Nat.le_of_ble_eq_true rfl) (Nat.le_of_ble_eq_true rfl) (Nat.le_of_eq hM.1) (Nat.le_refl _) (PW.deep (by decide) (c_X7_kept  hM h)) ?_
        rintro _ M100 ⟨hM102, y101, rfl, h⟩
        refine PW.aload_n (pc := 495) dL_law_495 rfl ?_
        refine PW.aload_n (pc := 496) dL_law_496 rfl ?_
        refine PW.iload_n (pc := 497) dL_law_497 rfl ?_
        refine PW.iconst (pc := 498) dL_law_498 (v := 1) (by decide) ?_
        refine PW.iadd (pc := 499) dL_law_499 ?_
        obtain ⟨v103, h⟩ := h
        refine PW.sld (pc := 500) dL_law_500 v103 ?_
        refine PW.aload_n (pc := 501) dL_law_501 rfl ?_
        refine PW.iload_n (pc := 502) dL_law_502 rfl ?_
        refine PW.iconst (pc := 503) dL_law_503 (v := 2) (by decide) ?_
        refine PW.iadd (pc := 504) dL_law_504 ?_
        obtain ⟨v104, h⟩ := h
        refine PW.sld (pc := 505) dL_law_505 v104 ?_
        refine PW.inv (m' := mX8_kept) (pc := 506) dL_law_506 lm_L_63 me_X8_kept mi_X8_kept (ob hM102.1 s_277 (by decide)) rfl (As := [.int (mI M100 1 ((x3 + 1).toNatClampNeg)), .int (mI M100 1 ((x3 + 2).toNatClampNeg))]) (st := [.int y101]) rfl (Nat.le_of_ble_eq_true rfl) (Nat.le_of_ble_eq_true rfl) (Nat.le_of_eq hM102.1) (Nat.le_refl _) (PW.deep (by decide) (c_X8_kept  hM102 h)) ?_
        rintro _ M105 ⟨hM107, y106, rfl, h⟩
        refine PW.icmp_eq (pc := 509) dL_law_509 (t := 1001) (by decide) (fun hc => ?_) (fun hc => ?_)
        · have h := h.1 hc
          refine PW.iinc (pc := 1001) dL_law_1001 (v := (x3 + 6)) (ls' := [.ref 1, .ref 3, .ref 277, .int (x3 + 6)]) rfl rfl (Nat.le_of_ble_eq_true rfl) rfl rfl ?_
          refine PW.goto (pc := 1004) dL_law_1004 (t := 18) (by decide) ?_
          exact PW.drop (ih _ _ hM107 h) ⟨rfl, rfl, rfl, rfl, trivial⟩
        · have h := h.2 hc
          refine PW.iconst (pc := 512) dL_law_512 (v := 0) (by decide) ?_
          exact PW.retI (pc := 513) dL_law_513 hM107.1 rfl (bz_n bz0) ⟨hM107, _, rfl, bz0, h⟩
      by_cases q11 : ((mI M 1 x3.toNatClampNeg) &&& 63) = 11
      · have h := h.2.2.2.2.2.2.2.2.2.2.2.1 q11
        refine PW.tabIn (pc := 33) dL_law_33 (by rw [q11]; decide) (by rw [q11]; decide) (off := 481) (by rw [q11]; decide) (t := 514) (by decide) ?_
        refine PW.aload_n (pc := 514) dL_law_514 rfl ?_
        refine PW.aload_n (pc := 515) dL_law_515 rfl ?_
        refine PW.iload_n (pc := 516) dL_law_516 rfl ?_
        refine PW.iconst (pc := 517) dL_law_517 (v := 1) (by decide) ?_
        refine PW.iadd (pc := 518) dL_law_518 ?_
        obtain ⟨v108, h⟩ := h
        refine PW.sld (pc := 519) dL_law_519 v108 ?_
        refine PW.inv (m' := mX7_later) (pc := 520) dL_law_520 lm_L_64 me_X7_later mi_X7_later (ob hM.1 s_3 (by decide)) rfl (As := [.int (mI M 1 ((x3 + 1).toNatClampNeg))]) (st := []) rfl (Nat.le_of_ble_eq_true rfl) (Nat.le_of_ble_eq_true rfl) (Nat.le_of_eq hM.1) (Nat.le_refl _) (PW.deep (by decide) (c_X7_later  hM h)) ?_
        rintro _ M109 ⟨hM111, y110, rfl, h⟩
        refine PW.aload_n (pc := 523) dL_law_523 rfl ?_
        refine PW.aload_n (pc := 524) dL_law_524 rfl ?_
        refine PW.iload_n (pc := 525) dL_law_525 rfl ?_
        refine PW.iconst (pc := 526) dL_law_526 (v := 1) (by decide) ?_
        refine PW.iadd (pc := 527) dL_law_527 ?_
        obtain ⟨v112, h⟩ := h
        refine PW.sld (pc := 528) dL_law_528 v112 ?_
        refine PW.inv (m' := mX8_later) (pc := 529) dL_law_529 lm_L_67 me_X8_later mi_X8_later (ob hM111.1 s_277 (by decide)) rfl (As := [.int (mI M109 1 ((x3 + 1).toNatClampNeg))]) (st := [.int y110]) rfl (Nat.le_of_ble_eq_true rfl) (Nat.le_of_ble_eq_true rfl) (Nat.le_of_eq hM111.1) (Nat.le_refl _) (PW.deep (by decide) (c_X8_later  hM111 h)) ?_
        rintro _ M113 ⟨hM115, y114, rfl, h⟩
        refine PW.icmp_eq (pc := 532) dL_law_532 (t := 1001) (by decide) (fun hc => ?_) (fun hc => ?_)
        · have h := h.1 hc
          refine PW.iinc (pc := 1001) dL_law_1001 (v := (x3 + 6)) (ls' := [.ref 1, .ref 3, .ref 277, .int (x3 + 6)]) rfl rfl (Nat.le_of_ble_eq_true rfl) rfl rfl ?_
          refine PW.goto (pc := 1004) dL_law_1004 (t := 18) (by decide) ?_
          exact PW.drop (ih _ _ hM115 h) ⟨rfl, rfl, rfl, rfl, trivial⟩
        · have h := h.2 hc
          refine PW.iconst (pc := 535) dL_law_535 (v := 0) (by decide) ?_
          exact PW.retI (pc := 536) dL_law_536 hM115.1 rfl (bz_n bz0) ⟨hM115, _, rfl, bz0, h⟩
      by_cases q12 : ((mI M 1 x3.toNatClampNeg) &&& 63) = 12
      · have h := h.2.2.2.2.2.2.2.2.2.2.2.2.1 q12
        refine PW.tabIn (pc := 33) dL_law_33 (by rw [q12]; decide) (by rw [q12]; decide) (off := 504) (by rw [q12]; decide) (t := 537) (by decide) ?_
        refine PW.aload_n (pc := 537) dL_law_537 rfl ?_
        refine PW.aload_n (pc := 538) dL_law_538 rfl ?_
        refine PW.iload_n (pc := 539) dL_law_539 rfl ?_
        refine PW.iconst (pc := 540) dL_law_540 (v := 1) (by decide) ?_
        refine PW.iadd (pc := 541) dL_law_541 ?_
        obtain ⟨v116, h⟩ := h
        refine PW.sld (pc := 542) dL_law_542 v116 ?_
        refine PW.aload_n (pc := 543) dL_law_543 rfl ?_
        refine PW.iload_n (pc := 544) dL_law_544 rfl ?_
        refine PW.iconst (pc := 545) dL_law_545 (v := 2) (by decide) ?_
        refine PW.iadd (pc := 546) dL_law_546 ?_
        obtain ⟨v117, h⟩ := h
        refine PW.sld (pc := 547) dL_law_547 v117 ?_
        refine PW.inv (m' := mX7_minded) (pc := 548) dL_law_548 lm_L_68 me_X7_minded mi_X7_minded (ob hM.1 s_3 (by decide)) rfl (As := [.int (mI M 1 ((x3 + 1).toNatClampNeg)), .int (mI M 1 ((x3 + 2).toNatClampNeg))]) (st := []) rfl (Nat.le_of_ble_eq_true rfl) (Nat.le_of_ble_eq_true rfl) (Nat.le_of_eq hM.1) (Nat.le_refl _) (PW.deep (by decide) (c_X7_minded  hM h)) ?_
        rintro _ M118 ⟨hM120, y119, rfl, h⟩
        refine PW.aload_n (pc := 551) dL_law_551 rfl ?_
        refine PW.aload_n (pc := 552) dL_law_552 rfl ?_
        refine PW.iload_n (pc := 553) dL_law_553 rfl ?_
        refine PW.iconst (pc := 554) dL_law_554 (v := 1) (by decide) ?_
        refine PW.iadd (pc := 555) dL_law_555 ?_
        obtain ⟨v121, h⟩ := h
        refine PW.sld (pc := 556) dL_law_556 v121 ?_
        refine PW.aload_n (pc := 557) dL_law_557 rfl ?_
        refine PW.iload_n (pc := 558) dL_law_558 rfl ?_
        refine PW.iconst (pc := 559) dL_law_559 (v := 2) (by decide) ?_
        refine PW.iadd (pc := 560) dL_law_560 ?_
        obtain ⟨v122, h⟩ := h
        refine PW.sld (pc := 561) dL_law_561 v122 ?_
        refine PW.inv (m' := mX8_minded) (pc := 562) dL_law_562 lm_L_71 me_X8_minded mi_X8_minded (ob hM120.1 s_277 (by decide)) rfl (As := [.int (mI M118 1 ((x3 + 1).toNatClampNeg)), .int (mI M118 1 ((x3 + 2).toNatClampNeg))]) (st := [.int y119]) rfl (Nat.le_of_ble_eq_true rfl) (Nat.le_of_ble_eq_true rfl) (Nat.le_of_eq hM120.1) (Nat.le_refl _) (PW.deep (by decide) (c_X8_minded  hM120 h)) ?_
        rintro _ M123 ⟨hM125, y124, rfl, h⟩
        refine PW.icmp_eq (pc := 565) dL_law_565 (t := 1001) (by decide) (fun hc => ?_) (fun hc => ?_)
        · have h := h.1 hc
          refine PW.iinc (pc := 1001) dL_law_1001 (v := (x3 + 6)) (ls' := [.ref 1, .ref 3, .ref 277, .int (x3 + 6)]) rfl rfl (Nat.le_of_ble_eq_true rfl) rfl rfl ?_
          refine PW.goto (pc := 1004) dL_law_1004 (t := 18) (by decide) ?_
          exact PW.drop (ih _ _ hM125 h) ⟨rfl, rfl, rfl, rfl, trivial⟩
        · have h := h.2 hc
          refine PW.iconst (pc := 568) dL_law_568 (v := 0) (by decide) ?_
          exact PW.retI (pc := 569) dL_law_569 hM125.1 rfl (bz_n bz0) ⟨hM125, _, rfl, bz0, h⟩
      by_cases q13 : ((mI M 1 x3.toNatClampNeg) &&& 63) = 13
      · have h := h.2.2.2.2.2.2.2.2.2.2.2.2.2.1 q13
        refine PW.tabIn (pc := 33) dL_law_33 (by rw [q13]; decide) (by rw [q13]; decide) (off := 537) (by rw [q13]; decide) (t := 570) (by decide) ?_
        refine PW.aload_n (pc := 570) dL_law_570 rfl ?_
        refine PW.inv (m' := mX7_nothing) (pc := 571) dL_law_571 lm_L_72 me_X7_nothing mi_X7_nothing (ob hM.1 s_3 (by decide)) rfl (As := []) (st := []) rfl (Nat.le_of_ble_eq_true rfl) (Nat.le_of_ble_eq_true rfl) (Nat.le_of_eq hM.1) (Nat.le_refl _) (PW.deep (by decide) (c_X7_nothing  hM h)) ?_
        rintro _ M126 ⟨hM128, y127, rfl, h⟩
        refine PW.aload_n (pc := 574) dL_law_574 rfl ?_
        refine PW.inv (m' := mX8_nothing) (pc := 575) dL_law_575 lm_L_75 me_X8_nothing mi_X8_nothing (ob hM128.1 s_277 (by decide)) rfl (As := []) (st := [.int y127]) rfl (Nat.le_of_ble_eq_true rfl) (Nat.le_of_ble_eq_true rfl) (Nat.le_of_eq hM128.1) (Nat.le_refl _) (PW.deep (by decide) (c_X8_nothing  hM128 h)) ?_
        rintro _ M129 ⟨hM131, y130, rfl, h⟩
        refine PW.icmp_eq (pc := 578) dL_law_578 (t := 1001) (by decide) (fun hc => ?_) (fun hc => ?_)
        · have h := h.1 hc
          refine PW.iinc (pc := 1001) dL_law_1001 (v := (x3 + 6)) (ls' := [.ref 1, .ref 3, .ref 277, .int (x3 + 6)]) rfl rfl (Nat.le_of_ble_eq_true rfl) rfl rfl ?_
          refine PW.goto (pc := 1004) dL_law_1004 (t := 18) (by decide) ?_
          exact PW.drop (ih _ _ hM131 h) ⟨rfl, rfl, rfl, rfl, trivial⟩
        · have h := h.2 hc
          refine PW.iconst (pc := 581) dL_law_581 (v := 0) (by decide) ?_
          exact PW.retI (pc := 582) dL_law_582 hM131.1 rfl (bz_n bz0) ⟨hM131, _, rfl, bz0, h⟩
      by_cases q14 : ((mI M 1 x3.toNatClampNeg) &&& 63) = 14
      · have h := h.2.2.2.2.2.2.2.2.2.2.2.2.2.2.1 q14
        refine PW.tabIn (pc := 33) dL_law_33 (by rw [q14]; decide) (by rw [q14]; decide) (off := 550) (by rw [q14]; decide) (t := 583) (by decide) ?_
        refine PW.aload_n (pc := 583) dL_law_583 rfl ?_
        refine PW.inv (m' := mX7_hushed) (pc := 584) dL_law_584 lm_L_76 me_X7_hushed mi_X7_hushed (ob hM.1 s_3 (by decide)) rfl (As := []) (st := []) rfl (Nat.le_of_ble_eq_true rfl) (Nat.le_of_ble_eq_true rfl) (Nat.le_of_eq hM.1) (Nat.le_refl _) (PW.deep (by decide) (c_X7_hushed  hM h)) ?_
        rintro _ M132 ⟨hM134, y133, rfl, h⟩
        refine PW.aload_n (pc := 587) dL_law_587 rfl ?_
        refine PW.inv (m' := mX8_hushed) (pc := 588) dL_law_588 lm_L_79 me_X8_hushed mi_X8_hushed (ob hM134.1 s_277 (by decide)) rfl (As := []) (st := [.int y133]) rfl (Nat.le_of_ble_eq_true rfl) (Nat.le_of_ble_eq_true rfl) (Nat.le_of_eq hM134.1) (Nat.le_refl _) (PW.deep (by decide) (c_X8_hushed  hM134 h)) ?_
        rintro _ M135 ⟨hM137, y136, rfl, h⟩
        refine PW.icmp_eq (pc := 591) dL_law_591 (t := 1001) (by decide) (fun hc => ?_) (fun hc => ?_)
        · have h := h.1 hc
          refine PW.iinc (pc := 1001) dL_law_1001 (v := (x3 + 6)) (ls' := [.ref 1, .ref 3, .ref 277, .int (x3 + 6)]) rfl rfl (Nat.le_of_ble_eq_true rfl) rfl rfl ?_
          refine PW.goto (pc := 1004) dL_law_1004 (t := 18) (by decide) ?_
          exact PW.drop (ih _ _ hM137 h) ⟨rfl, rfl, rfl, rfl, trivial⟩
        · have h := h.2 hc
          refine PW.iconst (pc := 594) dL_law_594 (v := 0) (by decide) ?_
          exact PW.retI (pc := 595) dL_law_595 hM137.1 rfl (bz_n bz0) ⟨hM137, _, rfl, bz0, h⟩
      by_cases q15 : ((mI M 1 x3.toNatClampNeg) &&& 63) = 15
      · have h := h.2.2.2.2.2.2.2.2.2.2.2.2.2.2.2.1 q15
        refine PW.tabIn (pc := 33) dL_law_33 (by rw [q15]; decide) (by rw [q15]; decide) (off := 563) (by rw [q15]; decide) (t := 596) (by decide) ?_
        refine PW.aload_n (pc := 596) dL_law_596 rfl ?_
        refine PW.inv (m' := mX7_full) (pc := 597) dL_law_597 lm_L_80 me_X7_full mi_X7_full (ob hM.1 s_3 (by decide)) rfl (As := []) (st := []) rfl (Nat.le_of_ble_eq_true rfl) (Nat.le_of_ble_eq_true rfl) (Nat.le_of_eq hM.1) (Nat.le_refl _) (PW.deep (by decide) (c_X7_full  hM h)) ?_
        rintro _ M138 ⟨hM140, y139, rfl, h⟩
        refine PW.aload_n (pc := 600) dL_law_600 rfl ?_
        refine PW.inv (m' := mX8_full) (pc := 601) dL_law_601 lm_L_83 me_X8_full mi_X8_full (ob hM140.1 s_277 (by decide)) rfl (As := []) (st := [.int y139]) rfl (Nat.le_of_ble_eq_true rfl) (Nat.le_of_ble_eq_true rfl) (Nat.le_of_eq hM140.1) (Nat.le_refl _) (PW.deep (by decide) (c_X8_full  hM140 h)) ?_
        rintro _ M141 ⟨hM143, y142, rfl, h⟩
        refine PW.icmp_eq (pc := 604) dL_law_604 (t := 1001) (by decide) (fun hc => ?_) (fun hc => ?_)
        · have h := h.1 hc
          refine PW.iinc (pc := 1001) dL_law_1001 (v := (x3 + 6)) (ls' := [.ref 1, .ref 3, .ref 277, .int (x3 + 6)]) rfl rfl (Nat.le_of_ble_eq_true rfl) rfl rfl ?_
          refine PW.goto (pc := 1004) dL_law_1004 (t := 18) (by decide) ?_
          exact PW.drop (ih _ _ hM143 h) ⟨rfl, rfl, rfl, rfl, trivial⟩
        · have h := h.2 hc
          refine PW.iconst (pc := 607) dL_law_607 (v := 0) (by decide) ?_
          exact PW.retI (pc := 608) dL_law_608 hM143.1 rfl (bz_n bz0) ⟨hM143, _, rfl, bz0, h⟩
      by_cases q16 : ((mI M 1 x3.toNatClampNeg) &&& 63) = 16
      · have h := h.2.2.2.2.2.2.2.2.2.2.2.2.2.2.2.2.1 q16
        refine PW.tabIn (pc := 33) dL_law_33 (by rw [q16]; decide) (by rw [q16]; decide) (off := 576) (by rw [q16]; decide) (t := 609) (by decide) ?_
        refine PW.aload_n (pc := 609) dL_law_609 rfl ?_
        refine PW.aload_n (pc := 610) dL_law_610 rfl ?_
        refine PW.iload_n (pc := 611) dL_law_611 rfl ?_
        refine PW.iconst (pc := 612) dL_law_612 (v := 1) (by decide) ?_
        refine PW.iadd (pc := 613) dL_law_613 ?_
        obtain ⟨v144, h⟩ := h
        refine PW.sld (pc := 614) dL_law_614 v144 ?_
        refine PW.aload_n (pc := 615) dL_law_615 rfl ?_
        refine PW.iload_n (pc := 616) dL_law_616 rfl ?_
        refine PW.iconst (pc := 617) dL_law_617 (v := 2) (by decide) ?_
        refine PW.iadd (pc := 618) dL_law_618 ?_
        obtain ⟨v145, h⟩ := h
        refine PW.sld (pc := 619) dL_law_619 v145 ?_
        refine PW.aload_n (pc := 620) dL_law_620 rfl ?_
        refine PW.iload_n (pc := 621) dL_law_621 rfl ?_
        refine PW.iconst (pc := 622) dL_law_622 (v := 3) (by decide) ?_
        refine PW.iadd (pc := 623) dL_law_623 ?_
        obtain ⟨v146, h⟩ := h
        refine PW.sld (pc := 624) dL_law_624 v146 ?_
        refine PW.inv (m' := mX7_fame) (pc := 625) dL_law_625 lm_L_84 me_X7_fame mi_X7_fame (ob hM.1 s_3 (by decide)) rfl (As := [.int (mI M 1 ((x3 + 1).toNatClampNeg)), .int (mI M 1 ((x3 + 2).toNatClampNeg)), .int (mI M 1 ((x3 + 3).toNatClampNeg))]) (st := []) rfl (Nat.le_of_ble_eq_true rfl) (Nat.le_of_ble_eq_true rfl) (Nat.le_of_eq hM.1) (Nat.le_refl _) (PW.deep (by decide) (c_X7_fame  hM h)) ?_
        rintro _ M147 ⟨hM149, y148, rfl, h⟩
        refine PW.aload_n (pc := 628) dL_law_628 rfl ?_
        refine PW.aload_n (pc := 629) dL_law_629 rfl ?_
        refine PW.iload_n (pc := 630) dL_law_630 rfl ?_
        refine PW.iconst (pc := 631) dL_law_631 (v := 1) (by decide) ?_
        refine PW.iadd (pc := 632) dL_law_632 ?_
        obtain ⟨v150, h⟩ := h
        refine PW.sld (pc := 633) dL_law_633 v150 ?_
        refine PW.aload_n (pc := 634) dL_law_634 rfl ?_
        refine PW.iload_n (pc := 635) dL_law_635 rfl ?_
        refine PW.iconst (pc := 636) dL_law_636 (v := 2) (by decide) ?_
        refine PW.iadd (pc := 637) dL_law_637 ?_
        obtain ⟨v151, h⟩ := h
        refine PW.sld (pc := 638) dL_law_638 v151 ?_
        refine PW.aload_n (pc := 639) dL_law_639 rfl ?_
        refine PW.iload_n (pc := 640) dL_law_640 rfl ?_
        refine PW.iconst (pc := 641) dL_law_641 (v := 3) (by decide) ?_
        refine PW.iadd (pc := 642) dL_law_642 ?_
        obtain ⟨v152, h⟩ := h
        refine PW.sld (pc := 643) dL_law_643 v152 ?_
        refine PW.inv (m' := mX8_fame) (pc := 644) dL_law_644 lm_L_87 me_X8_fame mi_X8_fame (ob hM149.1 s_277 (by decide)) rfl (As := [.int (mI M147 1 ((x3 + 1).toNatClampNeg)), .int (mI M147 1 ((x3 + 2).toNatClampNeg)), .int (mI M147 1 ((x3 + 3).toNatClampNeg))]) (st := [.int y148]) rfl (Nat.le_of_ble_eq_true rfl) (Nat.le_of_ble_eq_true rfl) (Nat.le_of_eq hM149.1) (Nat.le_refl _) (PW.deep (by decide) (c_X8_fame  hM149 h)) ?_
        rintro _ M153 ⟨hM155, y154, rfl, h⟩
        refine PW.icmp_eq (pc := 647) dL_law_647 (t := 1001) (by decide) (fun hc => ?_) (fun hc => ?_)
        · have h := h.1 hc
          refine PW.iinc (pc := 1001) dL_law_1001 (v := (x3 + 6)) (ls' := [.ref 1, .ref 3, .ref 277, .int (x3 + 6)]) rfl rfl (Nat.le_of_ble_eq_true rfl) rfl rfl ?_
          refine PW.goto (pc := 1004) dL_law_1004 (t := 18) (by decide) ?_
          exact PW.drop (ih _ _ hM155 h) ⟨rfl, rfl, rfl, rfl, trivial⟩
        · have h := h.2 hc
          refine PW.iconst (pc := 650) dL_law_650 (v := 0) (by decide) ?_
          exact PW.retI (pc := 651) dL_law_651 hM155.1 rfl (bz_n bz0) ⟨hM155, _, rfl, bz0, h⟩
      by_cases q17 : ((mI M 1 x3.toNatClampNeg) &&& 63) = 17
      · have h := h.2.2.2.2.2.2.2.2.2.2.2.2.2.2.2.2.2.1 q17
        refine PW.tabIn (pc := 33) dL_law_33 (by rw [q17]; decide) (by rw [q17]; decide) (off := 619) (by rw [q17]; decide) (t := 652) (by decide) ?_
        refine PW.aload_n (pc := 652) dL_law_652 rfl ?_
        refine PW.inv (m' := mX7_shared) (pc := 653) dL_law_653 lm_L_88 me_X7_shared mi_X7_shared (ob hM.1 s_3 (by decide)) rfl (As := []) (st := []) rfl (Nat.le_of_ble_eq_true rfl) (Nat.le_of_ble_eq_true rfl) (Nat.le_of_eq hM.1) (Nat.le_refl _) (PW.deep (by decide) (c_X7_shared  hM h)) ?_
        rintro _ M156 ⟨hM158, y157, rfl, h⟩
        refine PW.aload_n (pc := 656) dL_law_656 rfl ?_
        refine PW.inv (m' := mX8_shared) (pc := 657) dL_law_657 lm_L_91 me_X8_shared mi_X8_shared (ob hM158.1 s_277 (by decide)) rfl (As := []) (st := [.int y157]) rfl (Nat.le_of_ble_eq_true rfl) (Nat.le_of_ble_eq_true rfl) (Nat.le_of_eq hM158.1) (Nat.le_refl _) (PW.deep (by decide) (c_X8_shared  hM158 h)) ?_
        rintro _ M159 ⟨hM161, y160, rfl, h⟩
        refine PW.icmp_eq (pc := 660) dL_law_660 (t := 1001) (by decide) (fun hc => ?_) (fun hc => ?_)
        · have h := h.1 hc
          refine PW.iinc (pc := 1001) dL_law_1001 (v := (x3 + 6)) (ls' := [.ref 1, .ref 3, .ref 277, .int (x3 + 6)]) rfl rfl (Nat.le_of_ble_eq_true rfl) rfl rfl ?_
          refine PW.goto (pc := 1004) dL_law_1004 (t := 18) (by decide) ?_
          exact PW.drop (ih _ _ hM161 h) ⟨rfl, rfl, rfl, rfl, trivial⟩
        · have h := h.2 hc
          refine PW.iconst (pc := 663) dL_law_663 (v := 0) (by decide) ?_
          exact PW.retI (pc := 664) dL_law_664 hM161.1 rfl (bz_n bz0) ⟨hM161, _, rfl, bz0, h⟩
      by_cases q18 : ((mI M 1 x3.toNatClampNeg) &&& 63) = 18
      · have h := h.2.2.2.2.2.2.2.2.2.2.2.2.2.2.2.2.2.2.1 q18
        refine PW.tabIn (pc := 33) dL_law_33 (by rw [q18]; decide) (by rw [q18]; decide) (off := 632) (by rw [q18]; decide) (t := 665) (by decide) ?_
        refine PW.aload_n (pc := 665) dL_law_665 rfl ?_
        refine PW.aload_n (pc := 666) dL_law_666 rfl ?_
        refine PW.iload_n (pc := 667) dL_law_667 rfl ?_
        refine PW.iconst (pc := 668) dL_law_668 (v := 1) (by decide) ?_
        refine PW.iadd (pc := 669) dL_law_669 ?_
        obtain ⟨v162, h⟩ := h
        refine PW.sld (pc := 670) dL_law_670 v162 ?_
        refine PW.inv (m' := mX7_heard) (pc := 671) dL_law_671 lm_L_92 me_X7_heard mi_X7_heard (ob hM.1 s_3 (by decide)) rfl (As := [.int (mI M 1 ((x3 + 1).toNatClampNeg))]) (st := []) rfl (Nat.le_of_ble_eq_true rfl) (Nat.le_of_ble_eq_true rfl) (Nat.le_of_eq hM.1) (Nat.le_refl _) (PW.deep (by decide) (c_X7_heard  hM h)) ?_
        rintro _ M163 ⟨hM165, y164, rfl, h⟩
        refine PW.aload_n (pc := 674) dL_law_674 rfl ?_
        refine PW.aload_n (pc := 675) dL_law_675 rfl ?_
        refine PW.iload_n (pc := 676) dL_law_676 rfl ?_
        refine PW.iconst (pc := 677) dL_law_677 (v := 1) (by decide) ?_
        refine PW.iadd (pc := 678) dL_law_678 ?_
        obtain ⟨v166, h⟩ := h
        refine PW.sld (pc := 679) dL_law_679 v166 ?_
        refine PW.inv (m' := mX8_heard) (pc := 680) dL_law_680 lm_L_95 me_X8_heard mi_X8_heard (ob hM165.1 s_277 (by decide)) rfl (As := [.int (mI M163 1 ((x3 + 1).toNatClampNeg))]) (st := [.int y164]) rfl (Nat.le_of_ble_eq_true rfl) (Nat.le_of_ble_eq_true rfl) (Nat.le_of_eq hM165.1) (Nat.le_refl _) (PW.deep (by decide) (c_X8_heard  hM165 h)) ?_
        rintro _ M167 ⟨hM169, y168, rfl, h⟩
        refine PW.icmp_eq (pc := 683) dL_law_683 (t := 1001) (by decide) (fun hc => ?_) (fun hc => ?_)
        · have h := h.1 hc
          refine PW.iinc (pc := 1001) dL_law_1001 (v := (x3 + 6)) (ls' := [.ref 1, .ref 3, .ref 277, .int (x3 + 6)]) rfl rfl (Nat.le_of_ble_eq_true rfl) rfl rfl ?_
          refine PW.goto (pc := 1004) dL_law_1004 (t := 18) (by decide) ?_
          exact PW.drop (ih _ _ hM169 h) ⟨rfl, rfl, rfl, rfl, trivial⟩
        · have h := h.2 hc
          refine PW.iconst (pc := 686) dL_law_686 (v := 0) (by decide) ?_
          exact PW.retI (pc := 687) dL_law_687 hM169.1 rfl (bz_n bz0) ⟨hM169, _, rfl, bz0, h⟩
      by_cases q19 : ((mI M 1 x3.toNatClampNeg) &&& 63) = 19
      · have h := h.2.2.2.2.2.2.2.2.2.2.2.2.2.2.2.2.2.2.2.1 q19
        refine PW.tabIn (pc := 33) dL_law_33 (by rw [q19]; decide) (by rw [q19]; decide) (off := 655) (by rw [q19]; decide) (t := 688) (by decide) ?_
        refine PW.aload_n (pc := 688) dL_law_688 rfl ?_
        refine PW.inv (m' := mX7_see) (pc := 689) dL_law_689 lm_L_96 me_X7_see mi_X7_see (ob hM.1 s_3 (by decide)) rfl (As := []) (st := []) rfl (Nat.le_of_ble_eq_true rfl) (Nat.le_of_ble_eq_true rfl) (Nat.le_of_eq hM.1) (Nat.le_refl _) (PW.deep (by decide) (c_X7_see  hM h)) ?_
        rintro _ M170 ⟨hM172, y171, rfl, h⟩
        refine PW.aload_n (pc := 692) dL_law_692 rfl ?_
        refine PW.inv (m' := mX8_see) (pc := 693) dL_law_693 lm_L_99 me_X8_see mi_X8_see (ob hM172.1 s_277 (by decide)) rfl (As := []) (st := [.int y171]) rfl (Nat.le_of_ble_eq_true rfl) (Nat.le_of_ble_eq_true rfl) (Nat.le_of_eq hM172.1) (Nat.le_refl _) (PW.deep (by decide) (c_X8_see  hM172 h)) ?_
        rintro _ M173 ⟨hM175, y174, rfl, h⟩
        refine PW.icmp_eq (pc := 696) dL_law_696 (t := 1001) (by decide) (fun hc => ?_) (fun hc => ?_)
        · have h := h.1 hc
          refine PW.iinc (pc := 1001) dL_law_1001 (v := (x3 + 6)) (ls' := [.ref 1, .ref 3, .ref 277, .int (x3 + 6)]) rfl rfl (Nat.le_of_ble_eq_true rfl) rfl rfl ?_
          refine PW.goto (pc := 1004) dL_law_1004 (t := 18) (by decide) ?_
          exact PW.drop (ih _ _ hM175 h) ⟨rfl, rfl, rfl, rfl, trivial⟩
        · have h := h.2 hc
          refine PW.iconst (pc := 699) dL_law_699 (v := 0) (by decide) ?_
          exact PW.retI (pc := 700) dL_law_700 hM175.1 rfl (bz_n bz0) ⟨hM175, _, rfl, bz0, h⟩
      by_cases q20 : ((mI M 1 x3.toNatClampNeg) &&& 63) = 20
      · have h := h.2.2.2.2.2.2.2.2.2.2.2.2.2.2.2.2.2.2.2.2.1 q20
        refine PW.tabIn (pc := 33) dL_law_33 (by rw [q20]; decide) (by rw [q20]; decide) (off := 668) (by rw [q20]; decide) (t := 701) (by decide) ?_
        refine PW.aload_n (pc := 701) dL_law_701 rfl ?_
        refine PW.aload_n (pc := 702) dL_law_702 rfl ?_
        refine PW.iload_n (pc := 703) dL_law_703 rfl ?_
        refine PW.iconst (pc := 704) dL_law_704 (v := 1) (by decide) ?_
        refine PW.iadd (pc := 705) dL_law_705 ?_
        obtain ⟨v176, h⟩ := h
        refine PW.sld (pc := 706) dL_law_706 v176 ?_
        refine PW.aload_n (pc := 707) dL_law_707 rfl ?_
        refine PW.iload_n (pc := 708) dL_law_708 rfl ?_
        refine PW.iconst (pc := 709) dL_law_709 (v := 2) (by decide) ?_
        refine PW.iadd (pc := 710) dL_law_710 ?_
        obtain ⟨v177, h⟩ := h
        refine PW.sld (pc := 711) dL_law_711 v177 ?_
        refine PW.inv (m' := mX7_fits) (pc := 712) dL_law_712 lm_L_100 me_X7_fits mi_X7_fits (ob hM.1 s_3 (by decide)) rfl (As := [.int (mI M 1 ((x3 + 1).toNatClampNeg)), .int (mI M 1 ((x3 + 2).toNatClampNeg))]) (st := []) rfl (Nat.le_of_ble_eq_true rfl) (Nat.le_of_ble_eq_true rfl) (Nat.le_of_eq hM.1) (Nat.le_refl _) (PW.deep (by decide) (c_X7_fits  hM h)) ?_
        rintro _ M178 ⟨hM180, y179, rfl, h⟩
        refine PW.aload_n (pc := 715) dL_law_715 rfl ?_
        refine PW.aload_n (pc := 716) dL_law_716 rfl ?_
        refine PW.iload_n (pc := 717) dL_law_717 rfl ?_
        refine PW.iconst (pc := 718) dL_law_718 (v := 1) (by decide) ?_
        refine PW.iadd (pc := 719) dL_law_719 ?_
        obtain ⟨v181, h⟩ := h
        refine PW.sld (pc := 720) dL_law_720 v181 ?_
        refine PW.aload_n (pc := 721) dL_law_721 rfl ?_
        refine PW.iload_n (pc := 722) dL_law_722 rfl ?_
        refine PW.iconst (pc := 723) dL_law_723 (v := 2) (by decide) ?_
        refine PW.iadd (pc := 724) dL_law_724 ?_
        obtain ⟨v182, h⟩ := h
        refine PW.sld (pc := 725) dL_law_725 v182 ?_
        refine PW.inv (m' := mX8_fits) (pc := 726) dL_law_726 lm_L_103 me_X8_fits mi_X8_fits (ob hM180.1 s_277 (by decide)) rfl (As := [.int (mI M178 1 ((x3 + 1).toNatClampNeg)), .int (mI M178 1 ((x3 + 2).toNatClampNeg))]) (st := [.int y179]) rfl (Nat.le_of_ble_eq_true rfl) (Nat.le_of_ble_eq_true rfl) (Nat.le_of_eq hM180.1) (Nat.le_refl _) (PW.deep (by decide) (c_X8_fits  hM180 h)) ?_
        rintro _ M183 ⟨hM185, y184, rfl, h⟩
        refine PW.icmp_eq (pc := 729) dL_law_729 (t := 1001) (by decide) (fun hc => ?_) (fun hc => ?_)
        · have h := h.1 hc
          refine PW.iinc (pc := 1001) dL_law_1001 (v := (x3 + 6)) (ls' := [.ref 1, .ref 3, .ref 277, .int (x3 + 6)]) rfl rfl (Nat.le_of_ble_eq_true rfl) rfl rfl ?_
          refine PW.goto (pc := 1004) dL_law_1004 (t := 18) (by decide) ?_
          exact PW.drop (ih _ _ hM185 h) ⟨rfl, rfl, rfl, rfl, trivial⟩
        · have h := h.2 hc
          refine PW.iconst (pc := 732) dL_law_732 (v := 0) (by decide) ?_
          exact PW.retI (pc := 733) dL_law_733 hM185.1 rfl (bz_n bz0) ⟨hM185, _, rfl, bz0, h⟩
      by_cases q21 : ((mI M 1 x3.toNatClampNeg) &&& 63) = 21
      · have h := h.2.2.2.2.2.2.2.2.2.2.2.2.2.2.2.2.2.2.2.2.2.1 q21
        refine PW.tabIn (pc := 33) dL_law_33 (by rw [q21]; decide) (by rw [q21]; decide) (off := 701) (by rw [q21]; decide) (t := 734) (by decide) ?_
        refine PW.aload_n (pc := 734) dL_law_734 rfl ?_
        refine PW.aload_n (pc := 735) dL_law_735 rfl ?_
        refine PW.iload_n (pc := 736) dL_law_736 rfl ?_
        refine PW.iconst (pc := 737) dL_law_737 (v := 1) (by decide) ?_
        refine PW.iadd (pc := 738) dL_law_738 ?_
        obtain ⟨v186, h⟩ := h
        refine PW.sld (pc := 739) dL_law_739 v186 ?_
        refine PW.aload_n (pc := 740) dL_law_740 rfl ?_
        refine PW.iload_n (pc := 741) dL_law_741 rfl ?_
        refine PW.iconst (pc := 742) dL_law_742 (v := 2) (by decide) ?_
        refine PW.iadd (pc := 743) dL_law_743 ?_
        obtain ⟨v187, h⟩ := h
        refine PW.sld (pc := 744) dL_law_744 v187 ?_
        refine PW.inv (m' := mX7_tells) (pc := 745) dL_law_745 lm_L_104 me_X7_tells mi_X7_tells (ob hM.1 s_3 (by decide)) rfl (As := [.int (mI M 1 ((x3 + 1).toNatClampNeg)), .int (mI M 1 ((x3 + 2).toNatClampNeg))]) (st := []) rfl (Nat.le_of_ble_eq_true rfl) (Nat.le_of_ble_eq_true rfl) (Nat.le_of_eq hM.1) (Nat.le_refl _) (PW.deep (by decide) (c_X7_tells  hM h)) ?_
        rintro _ M188 ⟨hM190, y189, rfl, h⟩
        refine PW.aload_n (pc := 748) dL_law_748 rfl ?_
        refine PW.aload_n (pc := 749) dL_law_749 rfl ?_
        refine PW.iload_n (pc := 750) dL_law_750 rfl ?_
        refine PW.iconst (pc := 751) dL_law_751 (v := 1) (by decide) ?_
        refine PW.iadd (pc := 752) dL_law_752 ?_
        obtain ⟨v191, h⟩ := h
        refine PW.sld (pc := 753) dL_law_753 v191 ?_
        refine PW.aload_n (pc := 754) dL_law_754 rfl ?_
        refine PW.iload_n (pc := 755) dL_law_755 rfl ?_
        refine PW.iconst (pc := 756) dL_law_756 (v := 2) (by decide) ?_
        refine PW.iadd (pc := 757) dL_law_757 ?_
        obtain ⟨v192, h⟩ := h
        refine PW.sld (pc := 758) dL_law_758 v192 ?_
        refine PW.inv (m' := mX8_tells) (pc := 759) dL_law_759 lm_L_107 me_X8_tells mi_X8_tells (ob hM190.1 s_277 (by decide)) rfl (As := [.int (mI M188 1 ((x3 + 1).toNatClampNeg)), .int (mI M188 1 ((x3 + 2).toNatClampNeg))]) (st := [.int y189]) rfl (Nat.le_of_ble_eq_true rfl) (Nat.le_of_ble_eq_true rfl) (Nat.le_of_eq hM190.1) (Nat.le_refl _) (PW.deep (by decide) (c_X8_tells  hM190 h)) ?_
        rintro _ M193 ⟨hM195, y194, rfl, h⟩
        refine PW.icmp_eq (pc := 762) dL_law_762 (t := 1001) (by decide) (fun hc => ?_) (fun hc => ?_)
        · have h := h.1 hc
          refine PW.iinc (pc := 1001) dL_law_1001 (v := (x3 + 6)) (ls' := [.ref 1, .ref 3, .ref 277, .int (x3 + 6)]) rfl rfl (Nat.le_of_ble_eq_true rfl) rfl rfl ?_
          refine PW.goto (pc := 1004) dL_law_1004 (t := 18) (by decide) ?_
          exact PW.drop (ih _ _ hM195 h) ⟨rfl, rfl, rfl, rfl, trivial⟩
        · have h := h.2 hc
          refine PW.iconst (pc := 765) dL_law_765 (v := 0) (by decide) ?_
          exact PW.retI (pc := 766) dL_law_766 hM195.1 rfl (bz_n bz0) ⟨hM195, _, rfl, bz0, h⟩
      by_cases q22 : ((mI M 1 x3.toNatClampNeg) &&& 63) = 22
      · have h := h.2.2.2.2.2.2.2.2.2.2.2.2.2.2.2.2.2.2.2.2.2.2.1 q22
        refine PW.tabIn (pc := 33) dL_law_33 (by rw [q22]; decide) (by rw [q22]; decide) (off := 734) (by rw [q22]; decide) (t := 767) (by decide) ?_
        refine PW.aload_n (pc := 767) dL_law_767 rfl ?_
        refine PW.aload_n (pc := 768) dL_law_768 rfl ?_
        refine PW.iload_n (pc := 769) dL_law_769 rfl ?_
        refine PW.iconst (pc := 770) dL_law_770 (v := 1) (by decide) ?_
        refine PW.iadd (pc := 771) dL_law_771 ?_
        obtain ⟨v196, h⟩ := h
        refine PW.sld (pc := 772) dL_law_772 v196 ?_
        refine PW.aload_n (pc := 773) dL_law_773 rfl ?_
        refine PW.iload_n (pc := 774) dL_law_774 rfl ?_
        refine PW.iconst (pc := 775) dL_law_775 (v := 2) (by decide) ?_
        refine PW.iadd (pc := 776) dL_law_776 ?_
        obtain ⟨v197, h⟩ := h
        refine PW.sld (pc := 777) dL_law_777 v197 ?_
        refine PW.inv (m' := mX7_want) (pc := 778) dL_law_778 lm_L_108 me_X7_want mi_X7_want (ob hM.1 s_3 (by decide)) rfl (As := [.int (mI M 1 ((x3 + 1).toNatClampNeg)), .int (mI M 1 ((x3 + 2).toNatClampNeg))]) (st := []) rfl (Nat.le_of_ble_eq_true rfl) (Nat.le_of_ble_eq_true rfl) (Nat.le_of_eq hM.1) (Nat.le_refl _) (PW.deep (by decide) (c_X7_want  hM h)) ?_
        rintro _ M198 ⟨hM200, y199, rfl, z201, h⟩
        refine PW.aload_n (pc := 781) dL_law_781 rfl ?_
        refine PW.aload_n (pc := 782) dL_law_782 rfl ?_
        refine PW.iload_n (pc := 783) dL_law_783 rfl ?_
        refine PW.iconst (pc := 784) dL_law_784 (v := 1) (by decide) ?_
        refine PW.iadd (pc := 785) dL_law_785 ?_
        obtain ⟨v202, h⟩ := h
        refine PW.sld (pc := 786) dL_law_786 v202 ?_
        refine PW.aload_n (pc := 787) dL_law_787 rfl ?_
        refine PW.iload_n (pc := 788) dL_law_788 rfl ?_
        refine PW.iconst (pc := 789) dL_law_789 (v := 2) (by decide) ?_
        refine PW.iadd (pc := 790) dL_law_790 ?_
        obtain ⟨v203, h⟩ := h
        refine PW.sld (pc := 791) dL_law_791 v203 ?_
        refine PW.inv (m' := mX8_want) (pc := 792) dL_law_792 lm_L_112 me_X8_want mi_X8_want (ob hM200.1 s_277 (by decide)) rfl (As := [.int (mI M198 1 ((x3 + 1).toNatClampNeg)), .int (mI M198 1 ((x3 + 2).toNatClampNeg))]) (st := [.int y199]) rfl (Nat.le_of_ble_eq_true rfl) (Nat.le_of_ble_eq_true rfl) (Nat.le_of_eq hM200.1) (Nat.le_refl _) (PW.deep (by decide) (c_X8_want  hM200 h)) ?_
        rintro _ M204 ⟨hM206, y205, rfl, z207, h⟩
        refine PW.icmp_eq (pc := 795) dL_law_795 (t := 1001) (by decide) (fun hc => ?_) (fun hc => ?_)
        · have h := h.1 hc
          refine PW.iinc (pc := 1001) dL_law_1001 (v := (x3 + 6)) (ls' := [.ref 1, .ref 3, .ref 277, .int (x3 + 6)]) rfl rfl (Nat.le_of_ble_eq_true rfl) rfl rfl ?_
          refine PW.goto (pc := 1004) dL_law_1004 (t := 18) (by decide) ?_
          exact PW.drop (ih _ _ hM206 h) ⟨rfl, rfl, rfl, rfl, trivial⟩
        · have h := h.2 hc
          refine PW.iconst (pc := 798) dL_law_798 (v := 0) (by decide) ?_
          exact PW.retI (pc := 799) dL_law_799 hM206.1 rfl (bz_n bz0) ⟨hM206, _, rfl, bz0, h⟩
      by_cases q23 : ((mI M 1 x3.toNatClampNeg) &&& 63) = 23
      · have h := h.2.2.2.2.2.2.2.2.2.2.2.2.2.2.2.2.2.2.2.2.2.2.2.1 q23
        refine PW.tabIn (pc := 33) dL_law_33 (by rw [q23]; decide) (by rw [q23]; decide) (off := 767) (by rw [q23]; decide) (t := 800) (by decide) ?_
        refine PW.aload_n (pc := 800) dL_law_800 rfl ?_
        refine PW.aload_n (pc := 801) dL_law_801 rfl ?_
        refine PW.iload_n (pc := 802) dL_law_802 rfl ?_
        refine PW.iconst (pc := 803) dL_law_803 (v := 1) (by decide) ?_
        refine PW.iadd (pc := 804) dL_law_804 ?_
        obtain ⟨v208, h⟩ := h
        refine PW.sld (pc := 805) dL_law_805 v208 ?_
        refine PW.aload_n (pc := 806) dL_law_806 rfl ?_
        refine PW.iload_n (pc := 807) dL_law_807 rfl ?_
        refine PW.iconst (pc := 808) dL_law_808 (v := 2) (by decide) ?_
        refine PW.iadd (pc := 809) dL_law_809 ?_
        obtain ⟨v209, h⟩ := h
        refine PW.sld (pc := 810) dL_law_810 v209 ?_
        refine PW.inv (m' := mX7_mourn) (pc := 811) dL_law_811 lm_L_113 me_X7_mourn mi_X7_mourn (ob hM.1 s_3 (by decide)) rfl (As := [.int (mI M 1 ((x3 + 1).toNatClampNeg)), .int (mI M 1 ((x3 + 2).toNatClampNeg))]) (st := []) rfl (Nat.le_of_ble_eq_true rfl) (Nat.le_of_ble_eq_true rfl) (Nat.le_of_eq hM.1) (Nat.le_refl _) (PW.deep (by decide) (c_X7_mourn  hM h)) ?_
        rintro _ M210 ⟨hM212, y211, rfl, h⟩
        refine PW.aload_n (pc := 814) dL_law_814 rfl ?_
        refine PW.aload_n (pc := 815) dL_law_815 rfl ?_
        refine PW.iload_n (pc := 816) dL_law_816 rfl ?_
        refine PW.iconst (pc := 817) dL_law_817 (v := 1) (by decide) ?_
        refine PW.iadd (pc := 818) dL_law_818 ?_
        obtain ⟨v213, h⟩ := h
        refine PW.sld (pc := 819) dL_law_819 v213 ?_
        refine PW.aload_n (pc := 820) dL_law_820 rfl ?_
        refine PW.iload_n (pc := 821) dL_law_821 rfl ?_
        refine PW.iconst (pc := 822) dL_law_822 (v := 2) (by decide) ?_
        refine PW.iadd (pc := 823) dL_law_823 ?_
        obtain ⟨v214, h⟩ := h
        refine PW.sld (pc := 824) dL_law_824 v214 ?_
        refine PW.inv (m' := mX8_mourn) (pc := 825) dL_law_825 lm_L_116 me_X8_mourn mi_X8_mourn (ob hM212.1 s_277 (by decide)) rfl (As := [.int (mI M210 1 ((x3 + 1).toNatClampNeg)), .int (mI M210 1 ((x3 + 2).toNatClampNeg))]) (st := [.int y211]) rfl (Nat.le_of_ble_eq_true rfl) (Nat.le_of_ble_eq_true rfl) (Nat.le_of_eq hM212.1) (Nat.le_refl _) (PW.deep (by decide) (c_X8_mourn  hM212 h)) ?_
        rintro _ M215 ⟨hM217, y216, rfl, h⟩
        refine PW.icmp_eq (pc := 828) dL_law_828 (t := 1001) (by decide) (fun hc => ?_) (fun hc => ?_)
        · have h := h.1 hc
          refine PW.iinc (pc := 1001) dL_law_1001 (v := (x3 + 6)) (ls' := [.ref 1, .ref 3, .ref 277, .int (x3 + 6)]) rfl rfl (Nat.le_of_ble_eq_true rfl) rfl rfl ?_
          refine PW.goto (pc := 1004) dL_law_1004 (t := 18) (by decide) ?_
          exact PW.drop (ih _ _ hM217 h) ⟨rfl, rfl, rfl, rfl, trivial⟩
        · have h := h.2 hc
          refine PW.iconst (pc := 831) dL_law_831 (v := 0) (by decide) ?_
          exact PW.retI (pc := 832) dL_law_832 hM217.1 rfl (bz_n bz0) ⟨hM217, _, rfl, bz0, h⟩
      by_cases q24 : ((mI M 1 x3.toNatClampNeg) &&& 63) = 24
      · have h := h.2.2.2.2.2.2.2.2.2.2.2.2.2.2.2.2.2.2.2.2.2.2.2.2.1 q24
        refine PW.tabIn (pc := 33) dL_law_33 (by rw [q24]; decide) (by rw [q24]; decide) (off := 800) (by rw [q24]; decide) (t := 833) (by decide) ?_
        refine PW.aload_n (pc := 833) dL_law_833 rfl ?_
        refine PW.aload_n (pc := 834) dL_law_834 rfl ?_
        refine PW.iload_n (pc := 835) dL_law_835 rfl ?_
        refine PW.iconst (pc := 836) dL_law_836 (v := 1) (by decide) ?_
        refine PW.iadd (pc := 837) dL_law_837 ?_
        obtain ⟨v218, h⟩ := h
        refine PW.sld (pc := 838) dL_law_838 v218 ?_
        refine PW.inv (m' := mX7_days) (pc := 839) dL_law_839 lm_L_117 me_X7_days mi_X7_days (ob hM.1 s_3 (by decide)) rfl (As := [.int (mI M 1 ((x3 + 1).toNatClampNeg))]) (st := []) rfl (Nat.le_of_ble_eq_true rfl) (Nat.le_of_ble_eq_true rfl) (Nat.le_of_eq hM.1) (Nat.le_refl _) (PW.deep (by decide) (c_X7_days  hM h)) ?_
        rintro _ M219 ⟨hM221, y220, rfl, h⟩
        refine PW.aload_n (pc := 842) dL_law_842 rfl ?_
        refine PW.aload_n (pc := 843) dL_law_843 rfl ?_
        refine PW.iload_n (pc := 844) dL_law_844 rfl ?_
        refine PW.iconst (pc := 845) dL_law_845 (v := 1) (by decide) ?_
        refine PW.iadd (pc := 846) dL_law_846 ?_
        obtain ⟨v222, h⟩ := h
        refine PW.sld (pc := 847) dL_law_847 v222 ?_
        refine PW.inv (m' := mX8_days) (pc := 848) dL_law_848 lm_L_120 me_X8_days mi_X8_days (ob hM221.1 s_277 (by decide)) rfl (As := [.int (mI M219 1 ((x3 + 1).toNatClampNeg))]) (st := [.int y220]) rfl (Nat.le_of_ble_eq_true rfl) (Nat.le_of_ble_eq_true rfl) (Nat.le_of_eq hM221.1) (Nat.le_refl _) (PW.deep (by decide) (c_X8_days  hM221 h)) ?_
        rintro _ M223 ⟨hM225, y224, rfl, h⟩
        refine PW.icmp_eq (pc := 851) dL_law_851 (t := 1001) (by decide) (fun hc => ?_) (fun hc => ?_)
        · have h := h.1 hc
          refine PW.iinc (pc := 1001) dL_law_1001 (v := (x3 + 6)) (ls' := [.ref 1, .ref 3, .ref 277, .int (x3 + 6)]) rfl rfl (Nat.le_of_ble_eq_true rfl) rfl rfl ?_
          refine PW.goto (pc := 1004) dL_law_1004 (t := 18) (by decide) ?_
          exact PW.drop (ih _ _ hM225 h) ⟨rfl, rfl, rfl, rfl, trivial⟩
        · have h := h.2 hc
          refine PW.iconst (pc := 854) dL_law_854 (v := 0) (by decide) ?_
          exact PW.retI (pc := 855) dL_law_855 hM225.1 rfl (bz_n bz0) ⟨hM225, _, rfl, bz0, h⟩
      by_cases q25 : ((mI M 1 x3.toNatClampNeg) &&& 63) = 25
      · have h := h.2.2.2.2.2.2.2.2.2.2.2.2.2.2.2.2.2.2.2.2.2.2.2.2.2.1 q25
        refine PW.tabIn (pc := 33) dL_law_33 (by rw [q25]; decide) (by rw [q25]; decide) (off := 823) (by rw [q25]; decide) (t := 856) (by decide) ?_
        refine PW.aload_n (pc := 856) dL_law_856 rfl ?_
        refine PW.aload_n (pc := 857) dL_law_857 rfl ?_
        refine PW.iload_n (pc := 858) dL_law_858 rfl ?_
        refine PW.iconst (pc := 859) dL_law_859 (v := 1) (by decide) ?_
        refine PW.iadd (pc := 860) dL_law_860 ?_
        obtain ⟨v226, h⟩ := h
        refine PW.sld (pc := 861) dL_law_861 v226 ?_
        refine PW.inv (m' := mX7_chance) (pc := 862) dL_law_862 lm_L_121 me_X7_chance mi_X7_chance (ob hM.1 s_3 (by decide)) rfl (As := [.int (mI M 1 ((x3 + 1).toNatClampNeg))]) (st := []) rfl (Nat.le_of_ble_eq_true rfl) (Nat.le_of_ble_eq_true rfl) (Nat.le_of_eq hM.1) (Nat.le_refl _) (PW.deep (by decide) (c_X7_chance  hM h)) ?_
        rintro _ M227 ⟨hM229, y228, rfl, h⟩
        refine PW.aload_n (pc := 865) dL_law_865 rfl ?_
        refine PW.aload_n (pc := 866) dL_law_866 rfl ?_
        refine PW.iload_n (pc := 867) dL_law_867 rfl ?_
        refine PW.iconst (pc := 868) dL_law_868 (v := 1) (by decide) ?_
        refine PW.iadd (pc := 869) dL_law_869 ?_
        obtain ⟨v230, h⟩ := h
        refine PW.sld (pc := 870) dL_law_870 v230 ?_
        refine PW.inv (m' := mX8_chance) (pc := 871) dL_law_871 lm_L_124 me_X8_chance mi_X8_chance (ob hM229.1 s_277 (by decide)) rfl (As := [.int (mI M227 1 ((x3 + 1).toNatClampNeg))]) (st := [.int y228]) rfl (Nat.le_of_ble_eq_true rfl) (Nat.le_of_ble_eq_true rfl) (Nat.le_of_eq hM229.1) (Nat.le_refl _) (PW.deep (by decide) (c_X8_chance  hM229 h)) ?_
        rintro _ M231 ⟨hM233, y232, rfl, h⟩
        refine PW.icmp_eq (pc := 874) dL_law_874 (t := 1001) (by decide) (fun hc => ?_) (fun hc => ?_)
        · have h := h.1 hc
          refine PW.iinc (pc := 1001) dL_law_1001 (v := (x3 + 6)) (ls' := [.ref 1, .ref 3, .ref 277, .int (x3 + 6)]) rfl rfl (Nat.le_of_ble_eq_true rfl) rfl rfl ?_
          refine PW.goto (pc := 1004) dL_law_1004 (t := 18) (by decide) ?_
          exact PW.drop (ih _ _ hM233 h) ⟨rfl, rfl, rfl, rfl, trivial⟩
        · have h := h.2 hc
          refine PW.iconst (pc := 877) dL_law_877 (v := 0) (by decide) ?_
          exact PW.retI (pc := 878) dL_law_878 hM233.1 rfl (bz_n bz0) ⟨hM233, _, rfl, bz0, h⟩
      by_cases q26 : ((mI M 1 x3.toNatClampNeg) &&& 63) = 26
      · have h := h.2.2.2.2.2.2.2.2.2.2.2.2.2.2.2.2.2.2.2.2.2.2.2.2.2.2.1 q26
        refine PW.tabIn (pc := 33) dL_law_33 (by rw [q26]; decide) (by rw [q26]; decide) (off := 846) (by rw [q26]; decide) (t := 879) (by decide) ?_
        refine PW.aload_n (pc := 879) dL_law_879 rfl ?_
        refine PW.inv (m' := mX7_undo) (pc := 880) dL_law_880 lm_L_125 me_X7_undo mi_X7_undo (ob hM.1 s_3 (by decide)) rfl (As := []) (st := []) rfl (Nat.le_of_ble_eq_true rfl) (Nat.le_of_ble_eq_true rfl) (Nat.le_of_eq hM.1) (Nat.le_refl _) (PW.deep (by decide) (c_X7_undo  hM h)) ?_
        rintro _ M234 ⟨hM236, y235, rfl, z237, h⟩
        refine PW.aload_n (pc := 883) dL_law_883 rfl ?_
        refine PW.inv (m' := mX8_undo) (pc := 884) dL_law_884 lm_L_129 me_X8_undo mi_X8_undo (ob hM236.1 s_277 (by decide)) rfl (As := []) (st := [.int y235]) rfl (Nat.le_of_ble_eq_true rfl) (Nat.le_of_ble_eq_true rfl) (Nat.le_of_eq hM236.1) (Nat.le_refl _) (PW.deep (by decide) (c_X8_undo  hM236 h)) ?_
        rintro _ M238 ⟨hM240, y239, rfl, z241, h⟩
        refine PW.icmp_eq (pc := 887) dL_law_887 (t := 1001) (by decide) (fun hc => ?_) (fun hc => ?_)
        · have h := h.1 hc
          refine PW.iinc (pc := 1001) dL_law_1001 (v := (x3 + 6)) (ls' := [.ref 1, .ref 3, .ref 277, .int (x3 + 6)]) rfl rfl (Nat.le_of_ble_eq_true rfl) rfl rfl ?_
          refine PW.goto (pc := 1004) dL_law_1004 (t := 18) (by decide) ?_
          exact PW.drop (ih _ _ hM240 h) ⟨rfl, rfl, rfl, rfl, trivial⟩
        · have h := h.2 hc
          refine PW.iconst (pc := 890) dL_law_890 (v := 0) (by decide) ?_
          exact PW.retI (pc := 891) dL_law_891 hM240.1 rfl (bz_n bz0) ⟨hM240, _, rfl, bz0, h⟩
      by_cases q27 : ((mI M 1 x3.toNatClampNeg) &&& 63) = 27
      · have h := h.2.2.2.2.2.2.2.2.2.2.2.2.2.2.2.2.2.2.2.2.2.2.2.2.2.2.2.1 q27
        refine PW.tabIn (pc := 33) dL_law_33 (by rw [q27]; decide) (by rw [q27]; decide) (off := 859) (by rw [q27]; decide) (t := 892) (by decide) ?_
        refine PW.aload_n (pc := 892) dL_law_892 rfl ?_
        refine PW.aload_n (pc := 893) dL_law_893 rfl ?_
        refine PW.iload_n (pc := 894) dL_law_894 rfl ?_
        refine PW.iconst (pc := 895) dL_law_895 (v := 1) (by decide) ?_
        refine PW.iadd (pc := 896) dL_law_896 ?_
        obtain ⟨v242, h⟩ := h
        refine PW.sld (pc := 897) dL_law_897 v242 ?_
        refine PW.inv (m' := mX7_seed) (pc := 898) dL_law_898 lm_L_130 me_X7_seed mi_X7_seed (ob hM.1 s_3 (by decide)) rfl (As := [.int (mI M 1 ((x3 + 1).toNatClampNeg))]) (st := []) rfl (Nat.le_of_ble_eq_true rfl) (Nat.le_of_ble_eq_true rfl) (Nat.le_of_eq hM.1) (Nat.le_refl _) (PW.deep (by decide) (c_X7_seed  hM h)) ?_
        rintro _ M243 ⟨hM245, y244, rfl, z246, h⟩
        refine PW.aload_n (pc := 901) dL_law_901 rfl ?_
        refine PW.aload_n (pc := 902) dL_law_902 rfl ?_
        refine PW.iload_n (pc := 903) dL_law_903 rfl ?_
        refine PW.iconst (pc := 904) dL_law_904 (v := 1) (by decide) ?_
        refine PW.iadd (pc := 905) dL_law_905 ?_
        obtain ⟨v247, h⟩ := h
        refine PW.sld (pc := 906) dL_law_906 v247 ?_
        refine PW.inv (m' := mX8_seed) (pc := 907) dL_law_907 lm_L_133 me_X8_seed mi_X8_seed (ob hM245.1 s_277 (by decide)) rfl (As := [.int (mI M243 1 ((x3 + 1).toNatClampNeg))]) (st := [.int y244]) rfl (Nat.le_of_ble_eq_true rfl) (Nat.le_of_ble_eq_true rfl) (Nat.le_of_eq hM245.1) (Nat.le_refl _) (PW.deep (by decide) (c_X8_seed  hM245 h)) ?_
        rintro _ M248 ⟨hM250, y249, rfl, z251, h⟩
        refine PW.icmp_eq (pc := 910) dL_law_910 (t := 1001) (by decide) (fun hc => ?_) (fun hc => ?_)
        · have h := h.1 hc
          refine PW.iinc (pc := 1001) dL_law_1001 (v := (x3 + 6)) (ls' := [.ref 1, .ref 3, .ref 277, .int (x3 + 6)]) rfl rfl (Nat.le_of_ble_eq_true rfl) rfl rfl ?_
          refine PW.goto (pc := 1004) dL_law_1004 (t := 18) (by decide) ?_
          exact PW.drop (ih _ _ hM250 h) ⟨rfl, rfl, rfl, rfl, trivial⟩
        · have h := h.2 hc
          refine PW.iconst (pc := 913) dL_law_913 (v := 0) (by decide) ?_
          exact PW.retI (pc := 914) dL_law_914 hM250.1 rfl (bz_n bz0) ⟨hM250, _, rfl, bz0, h⟩
      by_cases q28 : ((mI M 1 x3.toNatClampNeg) &&& 63) = 28
      · have h := h.2.2.2.2.2.2.2.2.2.2.2.2.2.2.2.2.2.2.2.2.2.2.2.2.2.2.2.2.1 q28
        refine PW.tabIn (pc := 33) dL_law_33 (by rw [q28]; decide) (by rw [q28]; decide) (off := 882) (by rw [q28]; decide) (t := 915) (by decide) ?_
        refine PW.aload_n (pc := 915) dL_law_915 rfl ?_
        refine PW.inv (m' := mX7_ask) (pc := 916) dL_law_916 lm_L_134 me_X7_ask mi_X7_ask (ob hM.1 s_3 (by decide)) rfl (As := []) (st := []) rfl (Nat.le_of_ble_eq_true rfl) (Nat.le_of_ble_eq_true rfl) (Nat.le_of_eq hM.1) (Nat.le_refl _) (PW.deep (by decide) (c_X7_ask  hM h)) ?_
        rintro _ M252 ⟨hM254, y253, rfl, h⟩
        refine PW.aload_n (pc := 919) dL_law_919 rfl ?_
        refine PW.inv (m' := mX8_ask) (pc := 920) dL_law_920 lm_L_138 me_X8_ask mi_X8_ask (ob hM254.1 s_277 (by decide)) rfl (As := []) (st := [.long y253]) rfl (Nat.le_of_ble_eq_true rfl) (Nat.le_of_ble_eq_true rfl) (Nat.le_of_eq hM254.1) (Nat.le_refl _) (PW.deep (by decide) (c_X8_ask  hM254 h)) ?_
        rintro _ M255 ⟨hM257, y256, rfl, h⟩
        refine PW.lcmp (pc := 923) dL_law_923 ?_
        refine PW.if_eq (pc := 924) dL_law_924 (t := 1001) (by decide) (fun hc => ?_) (fun hc => ?_)
        · have h := h.1 ((lg_cmp_eq _ _).mp hc)
          refine PW.iinc (pc := 1001) dL_law_1001 (v := (x3 + 6)) (ls' := [.ref 1, .ref 3, .ref 277, .int (x3 + 6)]) rfl rfl (Nat.le_of_ble_eq_true rfl) rfl rfl ?_
          refine PW.goto (pc := 1004) dL_law_1004 (t := 18) (by decide) ?_
          exact PW.drop (ih _ _ hM257 h) ⟨rfl, rfl, rfl, rfl, trivial⟩
        · have h := h.2 (fun q => hc ((lg_cmp_eq _ _).mpr q))
          refine PW.iconst (pc := 927) dL_law_927 (v := 0) (by decide) ?_
          exact PW.retI (pc := 928) dL_law_928 hM257.1 rfl (bz_n bz0) ⟨hM257, _, rfl, bz0, h⟩
      by_cases q29 : ((mI M 1 x3.toNatClampNeg) &&& 63) = 29
      · have h := h.2.2.2.2.2.2.2.2.2.2.2.2.2.2.2.2.2.2.2.2.2.2.2.2.2.2.2.2.2.1 q29
        refine PW.tabIn (pc := 33) dL_law_33 (by rw [q29]; decide) (by rw [q29]; decide) (off := 896) (by rw [q29]; decide) (t := 929) (by decide) ?_
        refine PW.aload_n (pc := 929) dL_law_929 rfl ?_
        refine PW.inv (m' := mX7_image) (pc := 930) dL_law_930 lm_L_139 me_X7_image mi_X7_image (ob hM.1 s_3 (by decide)) rfl (As := []) (st := []) rfl (Nat.le_of_ble_eq_true rfl) (Nat.le_of_ble_eq_true rfl) (Nat.le_of_eq hM.1) (Nat.le_refl _) (PW.deep (by decide) (c_X7_image  hM h)) ?_
        rintro _ M258 ⟨hM260, y259, rfl, h⟩
        refine PW.aload_n (pc := 933) dL_law_933 rfl ?_
        refine PW.inv (m' := mX8_image) (pc := 934) dL_law_934 lm_L_142 me_X8_image mi_X8_image (ob hM260.1 s_277 (by decide)) rfl (As := []) (st := [.int y259]) rfl (Nat.le_of_ble_eq_true rfl) (Nat.le_of_ble_eq_true rfl) (Nat.le_of_eq hM260.1) (Nat.le_refl _) (PW.deep (by decide) (c_X8_image  hM260 h)) ?_
        rintro _ M261 ⟨hM263, y262, rfl, h⟩
        refine PW.icmp_eq (pc := 937) dL_law_937 (t := 1001) (by decide) (fun hc => ?_) (fun hc => ?_)
        · have h := h.1 hc
          refine PW.iinc (pc := 1001) dL_law_1001 (v := (x3 + 6)) (ls' := [.ref 1, .ref 3, .ref 277, .int (x3 + 6)]) rfl rfl (Nat.le_of_ble_eq_true rfl) rfl rfl ?_
          refine PW.goto (pc := 1004) dL_law_1004 (t := 18) (by decide) ?_
          exact PW.drop (ih _ _ hM263 h) ⟨rfl, rfl, rfl, rfl, trivial⟩
        · have h := h.2 hc
          refine PW.iconst (pc := 940) dL_law_940 (v := 0) (by decide) ?_
          exact PW.retI (pc := 941) dL_law_941 hM263.1 rfl (bz_n bz0) ⟨hM263, _, rfl, bz0, h⟩
      by_cases q30 : ((mI M 1 x3.toNatClampNeg) &&& 63) = 30
      · have h := h.2.2.2.2.2.2.2.2.2.2.2.2.2.2.2.2.2.2.2.2.2.2.2.2.2.2.2.2.2.2.1 q30
        refine PW.tabIn (pc := 33) dL_law_33 (by rw [q30]; decide) (by rw [q30]; decide) (off := 909) (by rw [q30]; decide) (t := 942) (by decide) ?_
        refine PW.aload_n (pc := 942) dL_law_942 rfl ?_
        refine PW.aload_n (pc := 943) dL_law_943 rfl ?_
        refine PW.iload_n (pc := 944) dL_law_944 rfl ?_
        refine PW.iconst (pc := 945) dL_law_945 (v := 1) (by decide) ?_
        refine PW.iadd (pc := 946) dL_law_946 ?_
        obtain ⟨v264, h⟩ := h
        refine PW.sld (pc := 947) dL_law_947 v264 ?_
        refine PW.inv (m' := mX7_octet) (pc := 948) dL_law_948 lm_L_143 me_X7_octet mi_X7_octet (ob hM.1 s_3 (by decide)) rfl (As := [.int (mI M 1 ((x3 + 1).toNatClampNeg))]) (st := []) rfl (Nat.le_of_ble_eq_true rfl) (Nat.le_of_ble_eq_true rfl) (Nat.le_of_eq hM.1) (Nat.le_refl _) (PW.deep (by decide) (c_X7_octet  hM h)) ?_
        rintro _ M265 ⟨hM267, y266, rfl, h⟩
        refine PW.aload_n (pc := 951) dL_law_951 rfl ?_
        refine PW.aload_n (pc := 952) dL_law_952 rfl ?_
        refine PW.iload_n (pc := 953) dL_law_953 rfl ?_
        refine PW.iconst (pc := 954) dL_law_954 (v := 1) (by decide) ?_
        refine PW.iadd (pc := 955) dL_law_955 ?_
        obtain ⟨v268, h⟩ := h
        refine PW.sld (pc := 956) dL_law_956 v268 ?_
        refine PW.inv (m' := mX8_octet) (pc := 957) dL_law_957 lm_L_146 me_X8_octet mi_X8_octet (ob hM267.1 s_277 (by decide)) rfl (As := [.int (mI M265 1 ((x3 + 1).toNatClampNeg))]) (st := [.int y266]) rfl (Nat.le_of_ble_eq_true rfl) (Nat.le_of_ble_eq_true rfl) (Nat.le_of_eq hM267.1) (Nat.le_refl _) (PW.deep (by decide) (c_X8_octet  hM267 h)) ?_
        rintro _ M269 ⟨hM271, y270, rfl, h⟩
        refine PW.icmp_eq (pc := 960) dL_law_960 (t := 1001) (by decide) (fun hc => ?_) (fun hc => ?_)
        · have h := h.1 hc
          refine PW.iinc (pc := 1001) dL_law_1001 (v := (x3 + 6)) (ls' := [.ref 1, .ref 3, .ref 277, .int (x3 + 6)]) rfl rfl (Nat.le_of_ble_eq_true rfl) rfl rfl ?_
          refine PW.goto (pc := 1004) dL_law_1004 (t := 18) (by decide) ?_
          exact PW.drop (ih _ _ hM271 h) ⟨rfl, rfl, rfl, rfl, trivial⟩
        · have h := h.2 hc
          refine PW.iconst (pc := 963) dL_law_963 (v := 0) (by decide) ?_
          exact PW.retI (pc := 964) dL_law_964 hM271.1 rfl (bz_n bz0) ⟨hM271, _, rfl, bz0, h⟩
      by_cases q31 : ((mI M 1 x3.toNatClampNeg) &&& 63) = 31
      · have h := h.2.2.2.2.2.2.2.2.2.2.2.2.2.2.2.2.2.2.2.2.2.2.2.2.2.2.2.2.2.2.2.1 q31
        refine PW.tabIn (pc := 33) dL_law_33 (by rw [q31]; decide) (by rw [q31]; decide) (off := 932) (by rw [q31]; decide) (t := 965) (by decide) ?_
        refine PW.aload_n (pc := 965) dL_law_965 rfl ?_
        refine PW.inv (m' := mX7_on) (pc := 966) dL_law_966 lm_L_147 me_X7_on mi_X7_on (ob hM.1 s_3 (by decide)) rfl (As := []) (st := []) rfl (Nat.le_of_ble_eq_true rfl) (Nat.le_of_ble_eq_true rfl) (Nat.le_of_eq hM.1) (Nat.le_refl _) (PW.deep (by decide) (c_X7_on  hM h)) ?_
        rintro _ M272 ⟨hM274, y273, rfl, z275, h⟩
        refine PW.aload_n (pc := 969) dL_law_969 rfl ?_
        refine PW.inv (m' := mX8_on) (pc := 970) dL_law_970 lm_L_150 me_X8_on mi_X8_on (ob hM274.1 s_277 (by decide)) rfl (As := []) (st := [.int y273]) rfl (Nat.le_of_ble_eq_true rfl) (Nat.le_of_ble_eq_true rfl) (Nat.le_of_eq hM274.1) (Nat.le_refl _) (PW.deep (by decide) (c_X8_on  hM274 h)) ?_
        rintro _ M276 ⟨hM278, y277, rfl, z279, h⟩
        refine PW.icmp_eq (pc := 973) dL_law_973 (t := 1001) (by decide) (fun hc => ?_) (fun hc => ?_)
        · have h := h.1 hc
          refine PW.iinc (pc := 1001) dL_law_1001 (v := (x3 + 6)) (ls' := [.ref 1, .ref 3, .ref 277, .int (x3 + 6)]) rfl rfl (Nat.le_of_ble_eq_true rfl) rfl rfl ?_
          refine PW.goto (pc := 1004) dL_law_1004 (t := 18) (by decide) ?_
          exact PW.drop (ih _ _ hM278 h) ⟨rfl, rfl, rfl, rfl, trivial⟩
        · have h := h.2 hc
          refine PW.iconst (pc := 976) dL_law_976 (v := 0) (by decide) ?_
          exact PW.retI (pc := 977) dL_law_977 hM278.1 rfl (bz_n bz0) ⟨hM278, _, rfl, bz0, h⟩
      by_cases q32 : ((mI M 1 x3.toNatClampNeg) &&& 63) = 32
      · have h := h.2.2.2.2.2.2.2.2.2.2.2.2.2.2.2.2.2.2.2.2.2.2.2.2.2.2.2.2.2.2.2.2.1 q32
        refine PW.tabIn (pc := 33) dL_law_33 (by rw [q32]; decide) (by rw [q32]; decide) (off := 945) (by rw [q32]; decide) (t := 978) (by decide) ?_
        refine PW.aload_n (pc := 978) dL_law_978 rfl ?_
        refine PW.aload_n (pc := 979) dL_law_979 rfl ?_
        refine PW.iload_n (pc := 980) dL_law_980 rfl ?_
        refine PW.iconst (pc := 981) dL_law_981 (v := 1) (by decide) ?_
        refine PW.iadd (pc := 982) dL_law_982 ?_
        obtain ⟨v280, h⟩ := h
        refine PW.sld (pc := 983) dL_law_983 v280 ?_
        refine PW.inv (m' := mX7_status) (pc := 984) dL_law_984 lm_L_151 me_X7_status mi_X7_status (ob hM.1 s_3 (by decide)) rfl (As := [.int (mI M 1 ((x3 + 1).toNatClampNeg))]) (st := []) rfl (Nat.le_of_ble_eq_true rfl) (Nat.le_of_ble_eq_true rfl) (Nat.le_of_eq hM.1) (Nat.le_refl _) (PW.deep (by decide) (c_X7_status  hM h)) ?_
        rintro _ M281 ⟨hM283, y282, rfl, h⟩
        refine PW.aload_n (pc := 987) dL_law_987 rfl ?_
        refine PW.aload_n (pc := 988) dL_law_988 rfl ?_
        refine PW.iload_n (pc := 989) dL_law_989 rfl ?_
        refine PW.iconst (pc := 990) dL_law_990 (v := 1) (by decide) ?_
        refine PW.iadd (pc := 991) dL_law_991 ?_
        obtain ⟨v284, h⟩ := h
        refine PW.sld (pc := 992) dL_law_992 v284 ?_
        refine PW.inv (m' := mX8_status) (pc := 993) dL_law_993 lm_L_154 me_X8_status mi_X8_status (ob hM283.1 s_277 (by decide)) rfl (As := [.int (mI M281 1 ((x3 + 1).toNatClampNeg))]) (st := [.int y282]) rfl (Nat.le_of_ble_eq_true rfl) (Nat.le_of_ble_eq_true rfl) (Nat.le_of_eq hM283.1) (Nat.le_refl _) (PW.deep (by decide) (c_X8_status  hM283 h)) ?_
        rintro _ M285 ⟨hM287, y286, rfl, h⟩
        refine PW.icmp_eq (pc := 996) dL_law_996 (t := 1001) (by decide) (fun hc => ?_) (fun hc => ?_)
        · have h := h.1 hc
          refine PW.iinc (pc := 1001) dL_law_1001 (v := (x3 + 6)) (ls' := [.ref 1, .ref 3, .ref 277, .int (x3 + 6)]) rfl rfl (Nat.le_of_ble_eq_true rfl) rfl rfl ?_
          refine PW.goto (pc := 1004) dL_law_1004 (t := 18) (by decide) ?_
          exact PW.drop (ih _ _ hM287 h) ⟨rfl, rfl, rfl, rfl, trivial⟩
        · have h := h.2 hc
          refine PW.iconst (pc := 999) dL_law_999 (v := 0) (by decide) ?_
          exact PW.retI (pc := 1000) dL_law_1000 hM287.1 rfl (bz_n bz0) ⟨hM287, _, rfl, bz0, h⟩
      have h := h.2.2.2.2.2.2.2.2.2.2.2.2.2.2.2.2.2.2.2.2.2.2.2.2.2.2.2.2.2.2.2.2.2 q0 q1 q2 q3 q4 q5 q6 q7 q8 q9 q10 q11 q12 q13 q14 q15 q16 q17 q18 q19 q20 q21 q22 q23 q24 q25 q26 q27 q28 q29 q30 q31 q32
      refine PW.tabOut (pc := 33) dL_law_33 (tab_out (fun c h1 h2 => ?_)) (t := 1001) (by decide) ?_
      · rcases (by omega : c = 0 ∨ c = 1 ∨ c = 2 ∨ c = 3 ∨ c = 4 ∨ c = 5 ∨ c = 6 ∨ c = 7 ∨ c = 8 ∨ c = 9 ∨ c = 10 ∨ c = 11 ∨ c = 12 ∨ c = 13 ∨ c = 14 ∨ c = 15 ∨ c = 16 ∨ c = 17 ∨ c = 18 ∨ c = 19 ∨ c = 20 ∨ c = 21 ∨ c = 22 ∨ c = 23 ∨ c = 24 ∨ c = 25 ∨ c = 26 ∨ c = 27 ∨ c = 28 ∨ c = 29 ∨ c = 30 ∨ c = 31 ∨ c = 32) with rfl | rfl | rfl | rfl | rfl | rfl | rfl | rfl | rfl | rfl | rfl | rfl | rfl | rfl | rfl | rfl | rfl | rfl | rfl | rfl | rfl | rfl | rfl | rfl | rfl | rfl | rfl | rfl | rfl | rfl | rfl | rfl | rfl <;> assumption
      · skip
        refine PW.iinc (pc := 1001) dL_law_1001 (v := (x3 + 6)) (ls' := [.ref 1, .ref 3, .ref 277, .int (x3 + 6)]) rfl rfl (Nat.le_of_ble_eq_true rfl) rfl rfl ?_
        refine PW.goto (pc := 1004) dL_law_1004 (t := 18) (by decide) ?_
        exact PW.drop (ih _ _ hM h) ⟨rfl, rfl, rfl, rfl, trivial⟩
def w_L_law_b (M : pm) (Q : Int32 → pm → Prop) : Prop := ∃ n288, w_L_law_18 n288 0 M  Q
set_option maxRecDepth 4000 in
theorem c_L_law_b {nm : String} {M : pm} {Q : Int32 → pm → Prop} (hM : pG M) (h : w_L_law_b M Q) : PW (mL_law nm) 400 350 16 [.ref 1, .ref 3, .ref 277, .null] [] M (qZ Q) := by
  unfold w_L_law_b at h
  refine PW.iconst (pc := 16) dL_law_16 (v := 0) (by decide) ?_
  refine PW.istore_n (pc := 17) dL_law_17 (ls' := [.ref 1, .ref 3, .ref 277, .int 0]) (Nat.le_of_ble_eq_true rfl) rfl rfl ?_
  obtain ⟨n288, h⟩ := h
  refine PW.drop (c_L_law_18  n288 _ _ hM h) ⟨rfl, rfl, rfl, rfl, trivial⟩
