def P_L_law_18 (x : Cx) (L : Nat) (xs : Nat → Int32) (s : (Int32 × Hp)) : Prop := WA x 18 [.ref 94, .ref 0, .ref 53, .int s.1] [] s.2
def E_L_law_18 (x : Cx) (L : Nat) (xs : Nat → Int32) : (Int32 × Hp) ⊕ Int32 → Prop := Sum.elim (fun s : (Int32 × Hp) => WA x 1499 [.null, .null, .null, .null] [] s.2) (fun r : Int32 => RtW x r)
set_option maxRecDepth 100000 in
def b_L_law_18 (L : Nat) (xs : Nat → Int32) (s : (Int32 × Hp)) : Option ((Int32 × Hp) ⊕ ((Int32 × Hp) ⊕ Int32)) :=
  if ((Int32.ofNat L) - 6) < s.1 then
    some (.inr (.inl (s.1, s.2)))
  else
    (rdX L xs s.1).bind fun v2 =>
    if (v2 &&& 63) = 0 then
      (rdX L xs (s.1 + 1)).bind fun v4 =>
      (f_X7_person v4 s.2).bind fun r5 =>
      (rdX L xs (s.1 + 1)).bind fun v6 =>
      (f_X8_person v6 r5.2).bind fun r7 =>
      if r5.1 = r7.1 then
        some (.inl (s.1 + 6, r7.2))
      else
        some (.inr (.inr 0))
    else
    if (v2 &&& 63) = 1 then
      (rdX L xs (s.1 + 1)).bind fun v10 =>
      (rdX L xs (s.1 + 2)).bind fun v11 =>
      (f_X7_wrong v10 v11 s.2).bind fun r12 =>
      (rdX L xs (s.1 + 1)).bind fun v13 =>
      (rdX L xs (s.1 + 2)).bind fun v14 =>
      (f_X8_wrong v13 v14 r12.2).bind fun r15 =>
      if r12.1 = r15.1 then
        some (.inl (s.1 + 6, r15.2))
      else
        some (.inr (.inr 0))
    else
    if (v2 &&& 63) = 2 then
      (rdX L xs (s.1 + 1)).bind fun v18 =>
      (rdX L xs (s.1 + 2)).bind fun v19 =>
      (rdX L xs (s.1 + 3)).bind fun v20 =>
      (f_X7_wrongs v18 v19 v20 s.2).bind fun r21 =>
      (rdX L xs (s.1 + 1)).bind fun v22 =>
      (rdX L xs (s.1 + 2)).bind fun v23 =>
      (rdX L xs (s.1 + 3)).bind fun v24 =>
      (f_X8_wrongs v22 v23 v24 r21.2).bind fun r25 =>
      if r21.1 = r25.1 then
        some (.inl (s.1 + 6, r25.2))
      else
        some (.inr (.inr 0))
    else
    if (v2 &&& 63) = 3 then
      (rdX L xs (s.1 + 1)).bind fun v28 =>
      (rdX L xs (s.1 + 2)).bind fun v29 =>
      (rdX L xs (s.1 + 3)).bind fun v30 =>
      (f_X7_mend v28 v29 v30 s.2).bind fun r31 =>
      (rdX L xs (s.1 + 1)).bind fun v32 =>
      (rdX L xs (s.1 + 2)).bind fun v33 =>
      (rdX L xs (s.1 + 3)).bind fun v34 =>
      (f_X8_mend v32 v33 v34 r31.2).bind fun r35 =>
      if r31.1 = r35.1 then
        some (.inl (s.1 + 6, r35.2))
      else
        some (.inr (.inr 0))
    else
    if (v2 &&& 63) = 4 then
      (rdX L xs (s.1 + 1)).bind fun v38 =>
      (rdX L xs (s.1 + 2)).bind fun v39 =>
      (f_X7_of v38 v39 s.2).bind fun r40 =>
      (rdX L xs (s.1 + 1)).bind fun v41 =>
      (rdX L xs (s.1 + 2)).bind fun v42 =>
      (f_X8_of v41 v42 s.2).bind fun r43 =>
      if r40 = r43 then
        some (.inl (s.1 + 6, s.2))
      else
        some (.inr (.inr 0))
    else
    if (v2 &&& 63) = 5 then
      (rdX L xs (s.1 + 1)).bind fun v46 =>
      (f_X7_feed v46 s.2).bind fun r47 =>
      (rdX L xs (s.1 + 1)).bind fun v48 =>
      (f_X8_feed v48 r47.2).bind fun r49 =>
      if r47.1 = r49.1 then
        some (.inl (s.1 + 6, r49.2))
      else
        some (.inr (.inr 0))
    else
    if (v2 &&& 63) = 6 then
      (f_X7_law s.2).bind fun r52 =>
      (f_X8_law r52.2).bind fun r53 =>
      if r52.1 = r53.1 then
        some (.inl (s.1 + 6, r53.2))
      else
        some (.inr (.inr 0))
    else
    if (v2 &&& 63) = 7 then
      (rdX L xs (s.1 + 1)).bind fun v56 =>
      (rdX L xs (s.1 + 2)).bind fun v57 =>
      (f_X7_counts v56 v57 s.2).bind fun r58 =>
      (rdX L xs (s.1 + 1)).bind fun v59 =>
      (rdX L xs (s.1 + 2)).bind fun v60 =>
      (f_X8_counts v59 v60 r58.2).bind fun r61 =>
      if r58.1 = r61.1 then
        some (.inl (s.1 + 6, r61.2))
      else
        some (.inr (.inr 0))
    else
    if (v2 &&& 63) = 8 then
      (rdX L xs (s.1 + 1)).bind fun v64 =>
      (rdX L xs (s.1 + 2)).bind fun v65 =>
      (rdX L xs (s.1 + 3)).bind fun v66 =>
      (f_X7_later v64 v65 v66 s.2).bind fun r67 =>
      (rdX L xs (s.1 + 1)).bind fun v68 =>
      (rdX L xs (s.1 + 2)).bind fun v69 =>
      (rdX L xs (s.1 + 3)).bind fun v70 =>
      (f_X8_later v68 v69 v70 r67.2).bind fun r71 =>
      if r67.1 = r71.1 then
        some (.inl (s.1 + 6, r71.2))
      else
        some (.inr (.inr 0))
    else
    if (v2 &&& 63) = 9 then
      (rdX L xs (s.1 + 1)).bind fun v74 =>
      (rdX L xs (s.1 + 2)).bind fun v75 =>
      (rdX L xs (s.1 + 3)).bind fun v76 =>
      (f_X7_street v74 v75 v76 s.2).bind fun r77 =>
      (rdX L xs (s.1 + 1)).bind fun v78 =>
      (rdX L xs (s.1 + 2)).bind fun v79 =>
      (rdX L xs (s.1 + 3)).bind fun v80 =>
      (f_X8_street v78 v79 v80 r77.2).bind fun r81 =>
      if r77.1 = r81.1 then
        some (.inl (s.1 + 6, r81.2))
      else
        some (.inr (.inr 0))
    else
    if (v2 &&& 63) = 10 then
      (rdX L xs (s.1 + 1)).bind fun v84 =>
      (f_X7_run v84 s.2).bind fun r85 =>
      (rdX L xs (s.1 + 1)).bind fun v86 =>
      (f_X8_run v86 r85.2).bind fun r87 =>
      if r85.1 = r87 then
        some (.inl (s.1 + 6, r85.2))
      else
        some (.inr (.inr 0))
    else
    if (v2 &&& 63) = 11 then
      (rdX L xs (s.1 + 1)).bind fun v90 =>
      (f_X7_fewest v90 s.2).bind fun r91 =>
      (rdX L xs (s.1 + 1)).bind fun v92 =>
      (f_X8_fewest v92 r91.2).bind fun r93 =>
      if r91.1 = r93.1 then
        some (.inl (s.1 + 6, r93.2))
      else
        some (.inr (.inr 0))
    else
    if (v2 &&& 63) = 12 then
      (rdX L xs (s.1 + 1)).bind fun v96 =>
      (f_X7_all v96 s.2).bind fun r97 =>
      (rdX L xs (s.1 + 1)).bind fun v98 =>
      (f_X8_all v98 r97.2).bind fun r99 =>
      if r97.1 = r99.1 then
        some (.inl (s.1 + 6, r99.2))
      else
        some (.inr (.inr 0))
    else
    if (v2 &&& 63) = 13 then
      (rdX L xs (s.1 + 1)).bind fun v102 =>
      (f_X7_evening v102 s.2).bind fun r103 =>
      (rdX L xs (s.1 + 1)).bind fun v104 =>
      (f_X8_evening v104 r103.2).bind fun r105 =>
      if r103.1 = r105.1 then
        some (.inl (s.1 + 6, r105.2))
      else
        some (.inr (.inr 0))
    else
    if (v2 &&& 63) = 14 then
      (f_X7_ring s.2).bind fun r108 =>
      (f_X8_ring r108.2).bind fun r109 =>
      if r108.1 = r109 then
        some (.inl (s.1 + 6, r108.2))
      else
        some (.inr (.inr 0))
    else
    if (v2 &&& 63) = 15 then
      (rdX L xs (s.1 + 1)).bind fun v112 =>
      (f_X7_owes v112 s.2).bind fun r113 =>
      (rdX L xs (s.1 + 1)).bind fun v114 =>
      (f_X8_owes v114 s.2).bind fun r115 =>
      if r113 = r115 then
        some (.inl (s.1 + 6, s.2))
      else
        some (.inr (.inr 0))
    else
    if (v2 &&& 63) = 16 then
      (rdX L xs (s.1 + 1)).bind fun v118 =>
      (rdX L xs (s.1 + 2)).bind fun v119 =>
      (f_X7_post v118 v119 s.2).bind fun r120 =>
      (rdX L xs (s.1 + 1)).bind fun v121 =>
      (rdX L xs (s.1 + 2)).bind fun v122 =>
      (f_X8_post v121 v122 s.2).bind fun r123 =>
      if r120 = r123 then
        some (.inl (s.1 + 6, s.2))
      else
        some (.inr (.inr 0))
    else
    if (v2 &&& 63) = 17 then
      (rdX L xs (s.1 + 1)).bind fun v126 =>
      (f_X7_nearest v126 s.2).bind fun r127 =>
      (rdX L xs (s.1 + 1)).bind fun v128 =>
      (f_X8_nearest v128 s.2).bind fun r129 =>
      if r127 = r129 then
        some (.inl (s.1 + 6, s.2))
      else
        some (.inr (.inr 0))
    else
    if (v2 &&& 63) = 18 then
      (rdX L xs (s.1 + 1)).bind fun v132 =>
      (f_X7_chosen v132 s.2).bind fun r133 =>
      (rdX L xs (s.1 + 1)).bind fun v134 =>
      (f_X8_chosen v134 s.2).bind fun r135 =>
      if r133 = r135.1 then
        some (.inl (s.1 + 6, r135.2))
      else
        some (.inr (.inr 0))
    else
    if (v2 &&& 63) = 19 then
      (rdX L xs (s.1 + 1)).bind fun v138 =>
      (rdX L xs (s.1 + 2)).bind fun v139 =>
      (f_X7_judge v138 v139 s.2).bind fun r140 =>
      (rdX L xs (s.1 + 1)).bind fun v141 =>
      (rdX L xs (s.1 + 2)).bind fun v142 =>
      (f_X8_judge v141 v142 r140.2).bind fun r143 =>
      if r140.1 = r143.1 then
        some (.inl (s.1 + 6, r143.2))
      else
        some (.inr (.inr 0))
    else
    if (v2 &&& 63) = 20 then
      (rdX L xs (s.1 + 1)).bind fun v146 =>
      (rdX L xs (s.1 + 2)).bind fun v147 =>
      (rdX L xs (s.1 + 3)).bind fun v148 =>
      (rdX L xs (s.1 + 4)).bind fun v149 =>
      (f_X7_fits v146 v147 v148 v149 s.2).bind fun r150 =>
      (rdX L xs (s.1 + 1)).bind fun v151 =>
      (rdX L xs (s.1 + 2)).bind fun v152 =>
      (rdX L xs (s.1 + 3)).bind fun v153 =>
      (rdX L xs (s.1 + 4)).bind fun v154 =>
      (f_X8_fits v151 v152 v153 v154 r150.2).bind fun r155 =>
      if r150.1 = r155.1 then
        some (.inl (s.1 + 6, r155.2))
      else
        some (.inr (.inr 0))
    else
    if (v2 &&& 63) = 21 then
      (rdX L xs (s.1 + 1)).bind fun v158 =>
      (rdX L xs (s.1 + 2)).bind fun v159 =>
      (rdX L xs (s.1 + 3)).bind fun v160 =>
      (f_X7_byTurns v158 v159 v160 s.2).bind fun r161 =>
      (rdX L xs (s.1 + 1)).bind fun v162 =>
      (rdX L xs (s.1 + 2)).bind fun v163 =>
      (rdX L xs (s.1 + 3)).bind fun v164 =>
      (f_X8_byTurns v162 v163 v164 r161.2).bind fun r165 =>
      if r161.1 = r165.1 then
        some (.inl (s.1 + 6, r165.2))
      else
        some (.inr (.inr 0))
    else
    if (v2 &&& 63) = 22 then
      (rdX L xs (s.1 + 1)).bind fun v168 =>
      (rdX L xs (s.1 + 2)).bind fun v169 =>
      (rdX L xs (s.1 + 3)).bind fun v170 =>
      (f_X7_drawn v168 v169 v170 s.2).bind fun r171 =>
      (rdX L xs (s.1 + 1)).bind fun v172 =>
      (rdX L xs (s.1 + 2)).bind fun v173 =>
      (rdX L xs (s.1 + 3)).bind fun v174 =>
      (f_X8_drawn v172 v173 v174 r171.2).bind fun r175 =>
      if r171.1 = r175.1 then
        some (.inl (s.1 + 6, r175.2))
      else
        some (.inr (.inr 0))
    else
    if (v2 &&& 63) = 23 then
      (rdX L xs (s.1 + 1)).bind fun v178 =>
      (rdX L xs (s.1 + 2)).bind fun v179 =>
      (f_X7_call v178 v179 s.2).bind fun r180 =>
      (rdX L xs (s.1 + 1)).bind fun v181 =>
      (rdX L xs (s.1 + 2)).bind fun v182 =>
      (f_X8_call v181 v182 r180.2).bind fun r183 =>
      if r180.1 = r183.1 then
        some (.inl (s.1 + 6, r183.2))
      else
        some (.inr (.inr 0))
    else
    if (v2 &&& 63) = 24 then
      (rdX L xs (s.1 + 1)).bind fun v186 =>
      (f_X7_again v186 s.2).bind fun r187 =>
      (rdX L xs (s.1 + 1)).bind fun v188 =>
      (f_X8_again v188 r187.2).bind fun r189 =>
      if r187.1 = r189.1 then
        some (.inl (s.1 + 6, r189.2))
      else
        some (.inr (.inr 0))
    else
    if (v2 &&& 63) = 25 then
      (rdX L xs (s.1 + 1)).bind fun v192 =>
      (f_X7_days v192 s.2).bind fun r193 =>
      (rdX L xs (s.1 + 1)).bind fun v194 =>
      (f_X8_days v194 r193.2).bind fun r195 =>
      if r193.1 = r195.1 then
        some (.inl (s.1 + 6, r195.2))
      else
        some (.inr (.inr 0))
    else
    if (v2 &&& 63) = 26 then
      (rdX L xs (s.1 + 1)).bind fun v198 =>
      (f_X7_slam v198 s.2).bind fun r199 =>
      (rdX L xs (s.1 + 1)).bind fun v200 =>
      (f_X8_slam v200 r199.2).bind fun r201 =>
      if r199.1 = r201.1 then
        some (.inl (s.1 + 6, r201.2))
      else
        some (.inr (.inr 0))
    else
    if (v2 &&& 63) = 27 then
      (rdX L xs (s.1 + 1)).bind fun v204 =>
      (f_X7_led v204 s.2).bind fun r205 =>
      (rdX L xs (s.1 + 1)).bind fun v206 =>
      (f_X8_led v206 s.2).bind fun r207 =>
      if r205 = r207 then
        some (.inl (s.1 + 6, s.2))
      else
        some (.inr (.inr 0))
    else
    if (v2 &&& 63) = 28 then
      (f_X7_image s.2).bind fun r210 =>
      (f_X8_image r210.2).bind fun r211 =>
      if r210.1 = r211.1 then
        some (.inl (s.1 + 6, r211.2))
      else
        some (.inr (.inr 0))
    else
    if (v2 &&& 63) = 29 then
      (f_X7_back s.2).bind fun r214 =>
      (f_X8_back r214.2).bind fun r215 =>
      if r214.1 = r215.1 then
        some (.inl (s.1 + 6, r215.2))
      else
        some (.inr (.inr 0))
    else
    if (v2 &&& 63) = 30 then
      (f_X7_undo s.2).bind fun r218 =>
      (f_X8_undo r218.2).bind fun r219 =>
      if r218.1 = r219.1 then
        some (.inl (s.1 + 6, r219.2))
      else
        some (.inr (.inr 0))
    else
    if (v2 &&& 63) = 31 then
      (f_X7_redo s.2).bind fun r222 =>
      (f_X8_redo r222.2).bind fun r223 =>
      if r222.1 = r223.1 then
        some (.inl (s.1 + 6, r223.2))
      else
        some (.inr (.inr 0))
    else
    if (v2 &&& 63) = 32 then
      (rdX L xs (s.1 + 1)).bind fun v226 =>
      (f_X7_body v226 s.2).bind fun r227 =>
      (rdX L xs (s.1 + 1)).bind fun v228 =>
      (f_X8_body v228 r227.2).bind fun r229 =>
      if r227.1 = r229.1 then
        some (.inl (s.1 + 6, r229.2))
      else
        some (.inr (.inr 0))
    else
    if (v2 &&& 63) = 33 then
      (rdX L xs (s.1 + 1)).bind fun v232 =>
      (rdX L xs (s.1 + 2)).bind fun v233 =>
      (rdX L xs (s.1 + 3)).bind fun v234 =>
      (f_X7_act v232 v233 v234 s.2).bind fun r235 =>
      (rdX L xs (s.1 + 1)).bind fun v236 =>
      (rdX L xs (s.1 + 2)).bind fun v237 =>
      (rdX L xs (s.1 + 3)).bind fun v238 =>
      (f_X8_act v236 v237 v238 r235.2).bind fun r239 =>
      if r235.1 = r239.1 then
        some (.inl (s.1 + 6, r239.2))
      else
        some (.inr (.inr 0))
    else
    if (v2 &&& 63) = 34 then
      (rdX L xs (s.1 + 1)).bind fun v242 =>
      (f_X7_trace v242 s.2).bind fun r243 =>
      (rdX L xs (s.1 + 1)).bind fun v244 =>
      (f_X8_trace v244 s.2).bind fun r245 =>
      if r243 = r245 then
        some (.inl (s.1 + 6, s.2))
      else
        some (.inr (.inr 0))
    else
    if (v2 &&& 63) = 35 then
      (rdX L xs (s.1 + 1)).bind fun v248 =>
      (rdX L xs (s.1 + 2)).bind fun v249 =>
      (f_X7_keep v248 v249 s.2).bind fun r250 =>
      (rdX L xs (s.1 + 1)).bind fun v251 =>
      (rdX L xs (s.1 + 2)).bind fun v252 =>
      (f_X8_keep v251 v252 r250.2).bind fun r253 =>
      if r250.1 = r253.1 then
        some (.inl (s.1 + 6, r253.2))
      else
        some (.inr (.inr 0))
    else
    if (v2 &&& 63) = 36 then
      (rdX L xs (s.1 + 1)).bind fun v256 =>
      (rdX L xs (s.1 + 2)).bind fun v257 =>
      (rdX L xs (s.1 + 3)).bind fun v258 =>
      (f_X7_row v256 v257 v258 s.2).bind fun r259 =>
      (rdX L xs (s.1 + 1)).bind fun v260 =>
      (rdX L xs (s.1 + 2)).bind fun v261 =>
      (rdX L xs (s.1 + 3)).bind fun v262 =>
      (f_X8_row v260 v261 v262 r259.2).bind fun r263 =>
      if r259.1 = r263.1 then
        some (.inl (s.1 + 6, r263.2))
      else
        some (.inr (.inr 0))
    else
    if (v2 &&& 63) = 37 then
      (rdX L xs (s.1 + 1)).bind fun v266 =>
      (rdX L xs (s.1 + 2)).bind fun v267 =>
      (rdX L xs (s.1 + 3)).bind fun v268 =>
      (rdX L xs (s.1 + 4)).bind fun v269 =>
      (f_X7_put v266 v267 ((v268.toInt64 <<< (((32 : Int32)).toInt64 &&& 63)) ||| (v269.toInt64 &&& 4294967295)) s.2).bind fun r270 =>
      (rdX L xs (s.1 + 1)).bind fun v271 =>
      (rdX L xs (s.1 + 2)).bind fun v272 =>
      (rdX L xs (s.1 + 3)).bind fun v273 =>
      (rdX L xs (s.1 + 4)).bind fun v274 =>
      (f_X8_put v271 v272 ((v273.toInt64 <<< (((32 : Int32)).toInt64 &&& 63)) ||| (v274.toInt64 &&& 4294967295)) r270.2).bind fun r275 =>
      if r270.1 = r275.1 then
        some (.inl (s.1 + 6, r275.2))
      else
        some (.inr (.inr 0))
    else
    if (v2 &&& 63) = 38 then
      (rdX L xs (s.1 + 1)).bind fun v278 =>
      (rdX L xs (s.1 + 2)).bind fun v279 =>
      (f_X7_element v278 v279 s.2).bind fun r280 =>
      (rdX L xs (s.1 + 1)).bind fun v281 =>
      (rdX L xs (s.1 + 2)).bind fun v282 =>
      (f_X8_element v281 v282 s.2).bind fun r283 =>
      if (lg_cmp r280 r283) = 0 then
        some (.inl (s.1 + 6, s.2))
      else
        some (.inr (.inr 0))
    else
    if (v2 &&& 63) = 39 then
      (rdX L xs (s.1 + 1)).bind fun v286 =>
      (rdX L xs (s.1 + 2)).bind fun v287 =>
      (rdX L xs (s.1 + 3)).bind fun v288 =>
      (rdX L xs (s.1 + 4)).bind fun v289 =>
      (rdX L xs (s.1 + 5)).bind fun v290 =>
      (f_X7_shift v286 v287 v288 v289 v290 s.2).bind fun r291 =>
      (rdX L xs (s.1 + 1)).bind fun v292 =>
      (rdX L xs (s.1 + 2)).bind fun v293 =>
      (rdX L xs (s.1 + 3)).bind fun v294 =>
      (rdX L xs (s.1 + 4)).bind fun v295 =>
      (rdX L xs (s.1 + 5)).bind fun v296 =>
      (f_X8_shift v292 v293 v294 v295 v296 r291.2).bind fun r297 =>
      if r291.1 = r297.1 then
        some (.inl (s.1 + 6, r297.2))
      else
        some (.inr (.inr 0))
    else
    if (v2 &&& 63) = 40 then
      (rdX L xs (s.1 + 1)).bind fun v300 =>
      (rdX L xs (s.1 + 2)).bind fun v301 =>
      (f_X7_taken v300 v301 s.2).bind fun r302 =>
      (rdX L xs (s.1 + 1)).bind fun v303 =>
      (rdX L xs (s.1 + 2)).bind fun v304 =>
      (f_X8_taken v303 v304 s.2).bind fun r305 =>
      if r302 = r305 then
        some (.inl (s.1 + 6, s.2))
      else
        some (.inr (.inr 0))
    else
    if (v2 &&& 63) = 41 then
      (rdX L xs (s.1 + 1)).bind fun v308 =>
      (f_X7_count v308 s.2).bind fun r309 =>
      (rdX L xs (s.1 + 1)).bind fun v310 =>
      (f_X8_count v310 s.2).bind fun r311 =>
      if r309 = r311 then
        some (.inl (s.1 + 6, s.2))
      else
        some (.inr (.inr 0))
    else
      some (.inl (s.1 + 6, s.2))
set_option maxHeartbeats 4000000 in
set_option maxRecDepth 100000 in
theorem tb_L_law_18 {x : Cx} (g : Gx x RL cL_law 4 1000) (L : Nat) (xs : Nat → Int32) (gs : Gs x L xs) (s : (Int32 × Hp)) (out : (Int32 × Hp) ⊕ ((Int32 × Hp) ⊕ Int32)) (H : b_L_law_18 L xs s = some out) (K : Sum.elim (P_L_law_18 x L xs) (E_L_law_18 x L xs) out) : P_L_law_18 x L xs s := by
  unfold b_L_law_18 at H
  show WA x 18 [.ref 94, .ref 0, .ref 53, .int s.1] [] s.2
  refine st_iload_n g dL_law_18 rfl ?_
  refine st_aload_n g dL_law_19 rfl ?_
  refine st_salen g gs dL_law_20 ?_
  refine st_bipush g dL_law_21 bi_6 ?_
  refine st_isub g dL_law_23 ?_
  refine st_ic_gt g dL_law_24 (tgt := 1499) (by decide) H (fun q1 H => ?_) (fun q1 H => ?_)
  · obtain rfl := Option.some.inj H
    exact (wa_drop [0, 1, 2, 3] K)
  · refine st_aload_n g dL_law_27 rfl ?_
    refine st_iload_n g dL_law_28 rfl ?_
    refine st_sald g gs dL_law_29 H (fun v2 H => ?_)
    refine st_bipush g dL_law_30 bi_63 ?_
    refine st_iand g dL_law_32 ?_
    by_cases q3 : (v2 &&& 63) = 0
    · rw [if_pos q3] at H
      refine st_tsw g dL_law_33 (tgt := 216) q3 (by decide) (by decide) rfl (by decide) ?_
      refine st_aload_n g dL_law_216 rfl ?_
      refine st_aload_n g dL_law_217 rfl ?_
      refine st_iload_n g dL_law_218 rfl ?_
      refine st_iconst g dL_law_219 ic_1 ?_
      refine st_iadd g dL_law_220 ?_
      refine st_sald g gs dL_law_221 H (fun v4 H => ?_)
      obtain ⟨r5, hr5, H⟩ := bind_some H
      refine st_callVI g (as := [.int v4]) dL_law_222 rfl rfl ml_L_13 mf_X7_person rfl (Nat.le_of_ble_eq_true rfl) (Nat.le_of_ble_eq_true rfl) (c_X7_person v4 s.2 _ hr5) (fun hz => ?_)
      refine st_aload_n g dL_law_225 rfl ?_
      refine st_aload_n g dL_law_226 rfl ?_
      refine st_iload_n g dL_law_227 rfl ?_
      refine st_iconst g dL_law_228 ic_1 ?_
      refine st_iadd g dL_law_229 ?_
      refine st_sald g gs dL_law_230 H (fun v6 H => ?_)
      obtain ⟨r7, hr7, H⟩ := bind_some H
      refine st_callVI g (as := [.int v6]) dL_law_231 rfl rfl ml_L_17 mf_X8_person rfl (Nat.le_of_ble_eq_true rfl) (Nat.le_of_ble_eq_true rfl) (c_X8_person v6 r5.2 _ hr7) (fun hz => ?_)
      refine st_ic_eq g dL_law_234 (tgt := 1493) (by decide) H (fun q8 H => ?_) (fun q8 H => ?_)
      · refine st_iinc g dL_law_1493 rfl (ii_6 _) (Nat.le_of_ble_eq_true rfl) rfl (ls2 := [.ref 94, .ref 0, .ref 53, .int (s.1 + 6)]) rfl ?_
        refine st_goto g dL_law_1496 (tgt := 18) (by decide) ?_
        obtain rfl := Option.some.inj H
        exact K
      · refine st_iconst g dL_law_237 ic_0 ?_
        obtain rfl := Option.some.inj H
        exact absurd K.1 (by decide)
    · rw [if_neg q3] at H
      by_cases q9 : (v2 &&& 63) = 1
      · rw [if_pos q9] at H
        refine st_tsw g dL_law_33 (tgt := 239) q9 (by decide) (by decide) rfl (by decide) ?_
        refine st_aload_n g dL_law_239 rfl ?_
        refine st_aload_n g dL_law_240 rfl ?_
        refine st_iload_n g dL_law_241 rfl ?_
        refine st_iconst g dL_law_242 ic_1 ?_
        refine st_iadd g dL_law_243 ?_
        refine st_sald g gs dL_law_244 H (fun v10 H => ?_)
        refine st_aload_n g dL_law_245 rfl ?_
        refine st_iload_n g dL_law_246 rfl ?_
        refine st_iconst g dL_law_247 ic_2 ?_
        refine st_iadd g dL_law_248 ?_
        refine st_sald g gs dL_law_249 H (fun v11 H => ?_)
        obtain ⟨r12, hr12, H⟩ := bind_some H
        refine st_callVI g (as := [.int v10, .int v11]) dL_law_250 rfl rfl ml_L_18 mf_X7_wrong rfl (Nat.le_of_ble_eq_true rfl) (Nat.le_of_ble_eq_true rfl) (c_X7_wrong v10 v11 s.2 _ hr12) (fun hz => ?_)
        refine st_aload_n g dL_law_253 rfl ?_
        refine st_aload_n g dL_law_254 rfl ?_
        refine st_iload_n g dL_law_255 rfl ?_
        refine st_iconst g dL_law_256 ic_1 ?_
        refine st_iadd g dL_law_257 ?_
        refine st_sald g gs dL_law_258 H (fun v13 H => ?_)
        refine st_aload_n g dL_law_259 rfl ?_
        refine st_iload_n g dL_law_260 rfl ?_
        refine st_iconst g dL_law_261 ic_2 ?_
        refine st_iadd g dL_law_262 ?_
        refine st_sald g gs dL_law_263 H (fun v14 H => ?_)
        obtain ⟨r15, hr15, H⟩ := bind_some H
        refine st_callVI g (as := [.int v13, .int v14]) dL_law_264 rfl rfl ml_L_22 mf_X8_wrong rfl (Nat.le_of_ble_eq_true rfl) (Nat.le_of_ble_eq_true rfl) (c_X8_wrong v13 v14 r12.2 _ hr15) (fun hz => ?_)
        refine st_ic_eq g dL_law_267 (tgt := 1493) (by decide) H (fun q16 H => ?_) (fun q16 H => ?_)
        · refine st_iinc g dL_law_1493 rfl (ii_6 _) (Nat.le_of_ble_eq_true rfl) rfl (ls2 := [.ref 94, .ref 0, .ref 53, .int (s.1 + 6)]) rfl ?_
          refine st_goto g dL_law_1496 (tgt := 18) (by decide) ?_
          obtain rfl := Option.some.inj H
          exact K
        · refine st_iconst g dL_law_270 ic_0 ?_
          obtain rfl := Option.some.inj H
          exact absurd K.1 (by decide)
      · rw [if_neg q9] at H
        by_cases q17 : (v2 &&& 63) = 2
        · rw [if_pos q17] at H
          refine st_tsw g dL_law_33 (tgt := 272) q17 (by decide) (by decide) rfl (by decide) ?_
          refine st_aload_n g dL_law_272 rfl ?_
          refine st_aload_n g dL_law_273 rfl ?_
          refine st_iload_n g dL_law_274 rfl ?_
          refine st_iconst g dL_law_275 ic_1 ?_
          refine st_iadd g dL_law_276 ?_
          refine st_sald g gs dL_law_277 H (fun v18 H => ?_)
          refine st_aload_n g dL_law_278 rfl ?_
          refine st_iload_n g dL_law_279 rfl ?_
          refine st_iconst g dL_law_280 ic_2 ?_
          refine st_iadd g dL_law_281 ?_
          refine st_sald g gs dL_law_282 H (fun v19 H => ?_)
          refine st_aload_n g dL_law_283 rfl ?_
          refine st_iload_n g dL_law_284 rfl ?_
          refine st_iconst g dL_law_285 ic_3 ?_
          refine st_iadd g dL_law_286 ?_
          refine st_sald g gs dL_law_287 H (fun v20 H => ?_)
          obtain ⟨r21, hr21, H⟩ := bind_some H
          refine st_callVI g (as := [.int v18, .int v19, .int v20]) dL_law_288 rfl rfl ml_L_23 mf_X7_wrongs rfl (Nat.le_of_ble_eq_true rfl) (Nat.le_of_ble_eq_true rfl) (c_X7_wrongs v18 v19 v20 s.2 _ hr21) (fun hz => ?_)
          refine st_aload_n g dL_law_291 rfl ?_
          refine st_aload_n g dL_law_292 rfl ?_
          refine st_iload_n g dL_law_293 rfl ?_
          refine st_iconst g dL_law_294 ic_1 ?_
          refine st_iadd g dL_law_295 ?_
          refine st_sald g gs dL_law_296 H (fun v22 H => ?_)
          refine st_aload_n g dL_law_297 rfl ?_
          refine st_iload_n g dL_law_298 rfl ?_
          refine st_iconst g dL_law_299 ic_2 ?_
          refine st_iadd g dL_law_300 ?_
          refine st_sald g gs dL_law_301 H (fun v23 H => ?_)
          refine st_aload_n g dL_law_302 rfl ?_
          refine st_iload_n g dL_law_303 rfl ?_
          refine st_iconst g dL_law_304 ic_3 ?_
          refine st_iadd g dL_law_305 ?_
          refine st_sald g gs dL_law_306 H (fun v24 H => ?_)
          obtain ⟨r25, hr25, H⟩ := bind_some H
          refine st_callVI g (as := [.int v22, .int v23, .int v24]) dL_law_307 rfl rfl ml_L_27 mf_X8_wrongs rfl (Nat.le_of_ble_eq_true rfl) (Nat.le_of_ble_eq_true rfl) (c_X8_wrongs v22 v23 v24 r21.2 _ hr25) (fun hz => ?_)
          refine st_ic_eq g dL_law_310 (tgt := 1493) (by decide) H (fun q26 H => ?_) (fun q26 H => ?_)
          · refine st_iinc g dL_law_1493 rfl (ii_6 _) (Nat.le_of_ble_eq_true rfl) rfl (ls2 := [.ref 94, .ref 0, .ref 53, .int (s.1 + 6)]) rfl ?_
            refine st_goto g dL_law_1496 (tgt := 18) (by decide) ?_
            obtain rfl := Option.some.inj H
            exact K
          · refine st_iconst g dL_law_313 ic_0 ?_
            obtain rfl := Option.some.inj H
            exact absurd K.1 (by decide)
        · rw [if_neg q17] at H
          by_cases q27 : (v2 &&& 63) = 3
          · rw [if_pos q27] at H
            refine st_tsw g dL_law_33 (tgt := 315) q27 (by decide) (by decide) rfl (by decide) ?_
            refine st_aload_n g dL_law_315 rfl ?_
            refine st_aload_n g dL_law_316 rfl ?_
            refine st_iload_n g dL_law_317 rfl ?_
            refine st_iconst g dL_law_318 ic_1 ?_
            refine st_iadd g dL_law_319 ?_
            refine st_sald g gs dL_law_320 H (fun v28 H => ?_)
            refine st_aload_n g dL_law_321 rfl ?_
            refine st_iload_n g dL_law_322 rfl ?_
            refine st_iconst g dL_law_323 ic_2 ?_
            refine st_iadd g dL_law_324 ?_
            refine st_sald g gs dL_law_325 H (fun v29 H => ?_)
            refine st_aload_n g dL_law_326 rfl ?_
            refine st_iload_n g dL_law_327 rfl ?_
            refine st_iconst g dL_law_328 ic_3 ?_
            refine st_iadd g dL_law_329 ?_
            refine st_sald g gs dL_law_330 H (fun v30 H => ?_)
            obtain ⟨r31, hr31, H⟩ := bind_some H
            refine st_callVI g (as := [.int v28, .int v29, .int v30]) dL_law_331 rfl rfl ml_L_28 mf_X7_mend rfl (Nat.le_of_ble_eq_true rfl) (Nat.le_of_ble_eq_true rfl) (c_X7_mend v28 v29 v30 s.2 _ hr31) (fun hz => ?_)
            refine st_aload_n g dL_law_334 rfl ?_
            refine st_aload_n g dL_law_335 rfl ?_
            refine st_iload_n g dL_law_336 rfl ?_
            refine st_iconst g dL_law_337 ic_1 ?_
            refine st_iadd g dL_law_338 ?_
            refine st_sald g gs dL_law_339 H (fun v32 H => ?_)
            refine st_aload_n g dL_law_340 rfl ?_
            refine st_iload_n g dL_law_341 rfl ?_
            refine st_iconst g dL_law_342 ic_2 ?_
            refine st_iadd g dL_law_343 ?_
            refine st_sald g gs dL_law_344 H (fun v33 H => ?_)
            refine st_aload_n g dL_law_345 rfl ?_
            refine st_iload_n g dL_law_346 rfl ?_
            refine st_iconst g dL_law_347 ic_3 ?_
            refine st_iadd g dL_law_348 ?_
            refine st_sald g gs dL_law_349 H (fun v34 H => ?_)
            obtain ⟨r35, hr35, H⟩ := bind_some H
            refine st_callVI g (as := [.int v32, .int v33, .int v34]) dL_law_350 rfl rfl ml_L_31 mf_X8_mend rfl (Nat.le_of_ble_eq_true rfl) (Nat.le_of_ble_eq_true rfl) (c_X8_mend v32 v33 v34 r31.2 _ hr35) (fun hz => ?_)
            refine st_ic_eq g dL_law_353 (tgt := 1493) (by decide) H (fun q36 H => ?_) (fun q36 H => ?_)
            · refine st_iinc g dL_law_1493 rfl (ii_6 _) (Nat.le_of_ble_eq_true rfl) rfl (ls2 := [.ref 94, .ref 0, .ref 53, .int (s.1 + 6)]) rfl ?_
              refine st_goto g dL_law_1496 (tgt := 18) (by decide) ?_
              obtain rfl := Option.some.inj H
              exact K
            · refine st_iconst g dL_law_356 ic_0 ?_
              obtain rfl := Option.some.inj H
              exact absurd K.1 (by decide)
          · rw [if_neg q27] at H
            by_cases q37 : (v2 &&& 63) = 4
            · rw [if_pos q37] at H
              refine st_tsw g dL_law_33 (tgt := 358) q37 (by decide) (by decide) rfl (by decide) ?_
              refine st_aload_n g dL_law_358 rfl ?_
              refine st_aload_n g dL_law_359 rfl ?_
              refine st_iload_n g dL_law_360 rfl ?_
              refine st_iconst g dL_law_361 ic_1 ?_
              refine st_iadd g dL_law_362 ?_
              refine st_sald g gs dL_law_363 H (fun v38 H => ?_)
              refine st_aload_n g dL_law_364 rfl ?_
              refine st_iload_n g dL_law_365 rfl ?_
              refine st_iconst g dL_law_366 ic_2 ?_
              refine st_iadd g dL_law_367 ?_
              refine st_sald g gs dL_law_368 H (fun v39 H => ?_)
              obtain ⟨r40, hr40, H⟩ := bind_some H
              refine st_callVI g (as := [.int v38, .int v39]) dL_law_369 rfl rfl ml_L_32 mf_X7_of rfl (Nat.le_of_ble_eq_true rfl) (Nat.le_of_ble_eq_true rfl) (c_X7_of v38 v39 s.2 _ hr40) (fun hz => ?_)
              refine st_aload_n g dL_law_372 rfl ?_
              refine st_aload_n g dL_law_373 rfl ?_
              refine st_iload_n g dL_law_374 rfl ?_
              refine st_iconst g dL_law_375 ic_1 ?_
              refine st_iadd g dL_law_376 ?_
              refine st_sald g gs dL_law_377 H (fun v41 H => ?_)
              refine st_aload_n g dL_law_378 rfl ?_
              refine st_iload_n g dL_law_379 rfl ?_
              refine st_iconst g dL_law_380 ic_2 ?_
              refine st_iadd g dL_law_381 ?_
              refine st_sald g gs dL_law_382 H (fun v42 H => ?_)
              obtain ⟨r43, hr43, H⟩ := bind_some H
              refine st_callVI g (as := [.int v41, .int v42]) dL_law_383 rfl rfl ml_L_35 mf_X8_of rfl (Nat.le_of_ble_eq_true rfl) (Nat.le_of_ble_eq_true rfl) (c_X8_of v41 v42 s.2 _ hr43) (fun hz => ?_)
              refine st_ic_eq g dL_law_386 (tgt := 1493) (by decide) H (fun q44 H => ?_) (fun q44 H => ?_)
              · refine st_iinc g dL_law_1493 rfl (ii_6 _) (Nat.le_of_ble_eq_true rfl) rfl (ls2 := [.ref 94, .ref 0, .ref 53, .int (s.1 + 6)]) rfl ?_
                refine st_goto g dL_law_1496 (tgt := 18) (by decide) ?_
                obtain rfl := Option.some.inj H
                exact K
              · refine st_iconst g dL_law_389 ic_0 ?_
                obtain rfl := Option.some.inj H
                exact absurd K.1 (by decide)
            · rw [if_neg q37] at H
              by_cases q45 : (v2 &&& 63) = 5
              · rw [if_pos q45] at H
                refine st_tsw g dL_law_33 (tgt := 391) q45 (by decide) (by decide) rfl (by decide) ?_
                refine st_aload_n g dL_law_391 rfl ?_
                refine st_aload_n g dL_law_392 rfl ?_
                refine st_iload_n g dL_law_393 rfl ?_
                refine st_iconst g dL_law_394 ic_1 ?_
                refine st_iadd g dL_law_395 ?_
                refine st_sald g gs dL_law_396 H (fun v46 H => ?_)
                obtain ⟨r47, hr47, H⟩ := bind_some H
                refine st_callVI g (as := [.int v46]) dL_law_397 rfl rfl ml_L_36 mf_X7_feed rfl (Nat.le_of_ble_eq_true rfl) (Nat.le_of_ble_eq_true rfl) (c_X7_feed v46 s.2 _ hr47) (fun hz => ?_)
                refine st_aload_n g dL_law_400 rfl ?_
                refine st_aload_n g dL_law_401 rfl ?_
                refine st_iload_n g dL_law_402 rfl ?_
                refine st_iconst g dL_law_403 ic_1 ?_
                refine st_iadd g dL_law_404 ?_
                refine st_sald g gs dL_law_405 H (fun v48 H => ?_)
                obtain ⟨r49, hr49, H⟩ := bind_some H
                refine st_callVI g (as := [.int v48]) dL_law_406 rfl rfl ml_L_39 mf_X8_feed rfl (Nat.le_of_ble_eq_true rfl) (Nat.le_of_ble_eq_true rfl) (c_X8_feed v48 r47.2 _ hr49) (fun hz => ?_)
                refine st_ic_eq g dL_law_409 (tgt := 1493) (by decide) H (fun q50 H => ?_) (fun q50 H => ?_)
                · refine st_iinc g dL_law_1493 rfl (ii_6 _) (Nat.le_of_ble_eq_true rfl) rfl (ls2 := [.ref 94, .ref 0, .ref 53, .int (s.1 + 6)]) rfl ?_
                  refine st_goto g dL_law_1496 (tgt := 18) (by decide) ?_
                  obtain rfl := Option.some.inj H
                  exact K
                · refine st_iconst g dL_law_412 ic_0 ?_
                  obtain rfl := Option.some.inj H
                  exact absurd K.1 (by decide)
              · rw [if_neg q45] at H
                by_cases q51 : (v2 &&& 63) = 6
                · rw [if_pos q51] at H
                  refine st_tsw g dL_law_33 (tgt := 414) q51 (by decide) (by decide) rfl (by decide) ?_
                  refine st_aload_n g dL_law_414 rfl ?_
                  obtain ⟨r52, hr52, H⟩ := bind_some H
                  refine st_callVI g (as := []) dL_law_415 rfl rfl ml_L_40 mf_X7_law rfl (Nat.le_of_ble_eq_true rfl) (Nat.le_of_ble_eq_true rfl) (c_X7_law s.2 _ hr52) (fun hz => ?_)
                  refine st_aload_n g dL_law_418 rfl ?_
                  obtain ⟨r53, hr53, H⟩ := bind_some H
                  refine st_callVI g (as := []) dL_law_419 rfl rfl ml_L_44 mf_X8_law rfl (Nat.le_of_ble_eq_true rfl) (Nat.le_of_ble_eq_true rfl) (c_X8_law r52.2 _ hr53) (fun hz => ?_)
                  refine st_ic_eq g dL_law_422 (tgt := 1493) (by decide) H (fun q54 H => ?_) (fun q54 H => ?_)
                  · refine st_iinc g dL_law_1493 rfl (ii_6 _) (Nat.le_of_ble_eq_true rfl) rfl (ls2 := [.ref 94, .ref 0, .ref 53, .int (s.1 + 6)]) rfl ?_
                    refine st_goto g dL_law_1496 (tgt := 18) (by decide) ?_
                    obtain rfl := Option.some.inj H
                    exact K
                  · refine st_iconst g dL_law_425 ic_0 ?_
                    obtain rfl := Option.some.inj H
                    exact absurd K.1 (by decide)
                · rw [if_neg q51] at H
                  by_cases q55 : (v2 &&& 63) = 7
                  · rw [if_pos q55] at H
                    refine st_tsw g dL_law_33 (tgt := 427) q55 (by decide) (by decide) rfl (by decide) ?_
                    refine st_aload_n g dL_law_427 rfl ?_
                    refine st_aload_n g dL_law_428 rfl ?_
                    refine st_iload_n g dL_law_429 rfl ?_
                    refine st_iconst g dL_law_430 ic_1 ?_
                    refine st_iadd g dL_law_431 ?_
                    refine st_sald g gs dL_law_432 H (fun v56 H => ?_)
                    refine st_aload_n g dL_law_433 rfl ?_
                    refine st_iload_n g dL_law_434 rfl ?_
                    refine st_iconst g dL_law_435 ic_2 ?_
                    refine st_iadd g dL_law_436 ?_
                    refine st_sald g gs dL_law_437 H (fun v57 H => ?_)
                    obtain ⟨r58, hr58, H⟩ := bind_some H
                    refine st_callVI g (as := [.int v56, .int v57]) dL_law_438 rfl rfl ml_L_45 mf_X7_counts rfl (Nat.le_of_ble_eq_true rfl) (Nat.le_of_ble_eq_true rfl) (c_X7_counts v56 v57 s.2 _ hr58) (fun hz => ?_)
                    refine st_aload_n g dL_law_441 rfl ?_
                    refine st_aload_n g dL_law_442 rfl ?_
                    refine st_iload_n g dL_law_443 rfl ?_
                    refine st_iconst g dL_law_444 ic_1 ?_
                    refine st_iadd g dL_law_445 ?_
                    refine st_sald g gs dL_law_446 H (fun v59 H => ?_)
                    refine st_aload_n g dL_law_447 rfl ?_
                    refine st_iload_n g dL_law_448 rfl ?_
                    refine st_iconst g dL_law_449 ic_2 ?_
                    refine st_iadd g dL_law_450 ?_
                    refine st_sald g gs dL_law_451 H (fun v60 H => ?_)
                    obtain ⟨r61, hr61, H⟩ := bind_some H
                    refine st_callVI g (as := [.int v59, .int v60]) dL_law_452 rfl rfl ml_L_48 mf_X8_counts rfl (Nat.le_of_ble_eq_true rfl) (Nat.le_of_ble_eq_true rfl) (c_X8_counts v59 v60 r58.2 _ hr61) (fun hz => ?_)
                    refine st_ic_eq g dL_law_455 (tgt := 1493) (by decide) H (fun q62 H => ?_) (fun q62 H => ?_)
                    · refine st_iinc g dL_law_1493 rfl (ii_6 _) (Nat.le_of_ble_eq_true rfl) rfl (ls2 := [.ref 94, .ref 0, .ref 53, .int (s.1 + 6)]) rfl ?_
                      refine st_goto g dL_law_1496 (tgt := 18) (by decide) ?_
                      obtain rfl := Option.some.inj H
                      exact K
                    · refine st_iconst g dL_law_458 ic_0 ?_
                      obtain rfl := Option.some.inj H
                      exact absurd K.1 (by decide)
                  · rw [if_neg q55] at H
                    by_cases q63 : (v2 &&& 63) = 8
                    · rw [if_pos q63] at H
                      refine st_tsw g dL_law_33 (tgt := 460) q63 (by decide) (by decide) rfl (by decide) ?_
                      refine st_aload_n g dL_law_460 rfl ?_
                      refine st_aload_n g dL_law_461 rfl ?_
                      refine st_iload_n g dL_law_462 rfl ?_
                      refine st_iconst g dL_law_463 ic_1 ?_
                      refine st_iadd g dL_law_464 ?_
                      refine st_sald g gs dL_law_465 H (fun v64 H => ?_)
                      refine st_aload_n g dL_law_466 rfl ?_
                      refine st_iload_n g dL_law_467 rfl ?_
                      refine st_iconst g dL_law_468 ic_2 ?_
                      refine st_iadd g dL_law_469 ?_
                      refine st_sald g gs dL_law_470 H (fun v65 H => ?_)
                      refine st_aload_n g dL_law_471 rfl ?_
                      refine st_iload_n g dL_law_472 rfl ?_
                      refine st_iconst g dL_law_473 ic_3 ?_
                      refine st_iadd g dL_law_474 ?_
                      refine st_sald g gs dL_law_475 H (fun v66 H => ?_)
                      obtain ⟨r67, hr67, H⟩ := bind_some H
                      refine st_callVI g (as := [.int v64, .int v65, .int v66]) dL_law_476 rfl rfl ml_L_49 mf_X7_later rfl (Nat.le_of_ble_eq_true rfl) (Nat.le_of_ble_eq_true rfl) (c_X7_later v64 v65 v66 s.2 _ hr67) (fun hz => ?_)
                      refine st_aload_n g dL_law_479 rfl ?_
                      refine st_aload_n g dL_law_480 rfl ?_
                      refine st_iload_n g dL_law_481 rfl ?_
                      refine st_iconst g dL_law_482 ic_1 ?_
                      refine st_iadd g dL_law_483 ?_
                      refine st_sald g gs dL_law_484 H (fun v68 H => ?_)
                      refine st_aload_n g dL_law_485 rfl ?_
                      refine st_iload_n g dL_law_486 rfl ?_
                      refine st_iconst g dL_law_487 ic_2 ?_
                      refine st_iadd g dL_law_488 ?_
                      refine st_sald g gs dL_law_489 H (fun v69 H => ?_)
                      refine st_aload_n g dL_law_490 rfl ?_
                      refine st_iload_n g dL_law_491 rfl ?_
                      refine st_iconst g dL_law_492 ic_3 ?_
                      refine st_iadd g dL_law_493 ?_
                      refine st_sald g gs dL_law_494 H (fun v70 H => ?_)
                      obtain ⟨r71, hr71, H⟩ := bind_some H
                      refine st_callVI g (as := [.int v68, .int v69, .int v70]) dL_law_495 rfl rfl ml_L_52 mf_X8_later rfl (Nat.le_of_ble_eq_true rfl) (Nat.le_of_ble_eq_true rfl) (c_X8_later v68 v69 v70 r67.2 _ hr71) (fun hz => ?_)
                      refine st_ic_eq g dL_law_498 (tgt := 1493) (by decide) H (fun q72 H => ?_) (fun q72 H => ?_)
                      · refine st_iinc g dL_law_1493 rfl (ii_6 _) (Nat.le_of_ble_eq_true rfl) rfl (ls2 := [.ref 94, .ref 0, .ref 53, .int (s.1 + 6)]) rfl ?_
                        refine st_goto g dL_law_1496 (tgt := 18) (by decide) ?_
                        obtain rfl := Option.some.inj H
                        exact K
                      · refine st_iconst g dL_law_501 ic_0 ?_
                        obtain rfl := Option.some.inj H
                        exact absurd K.1 (by decide)
                    · rw [if_neg q63] at H
                      by_cases q73 : (v2 &&& 63) = 9
                      · rw [if_pos q73] at H
                        refine st_tsw g dL_law_33 (tgt := 503) q73 (by decide) (by decide) rfl (by decide) ?_
                        refine st_aload_n g dL_law_503 rfl ?_
                        refine st_aload_n g dL_law_504 rfl ?_
                        refine st_iload_n g dL_law_505 rfl ?_
                        refine st_iconst g dL_law_506 ic_1 ?_
                        refine st_iadd g dL_law_507 ?_
                        refine st_sald g gs dL_law_508 H (fun v74 H => ?_)
                        refine st_aload_n g dL_law_509 rfl ?_
                        refine st_iload_n g dL_law_510 rfl ?_
                        refine st_iconst g dL_law_511 ic_2 ?_
                        refine st_iadd g dL_law_512 ?_
                        refine st_sald g gs dL_law_513 H (fun v75 H => ?_)
                        refine st_aload_n g dL_law_514 rfl ?_
                        refine st_iload_n g dL_law_515 rfl ?_
                        refine st_iconst g dL_law_516 ic_3 ?_
                        refine st_iadd g dL_law_517 ?_
                        refine st_sald g gs dL_law_518 H (fun v76 H => ?_)
                        obtain ⟨r77, hr77, H⟩ := bind_some H
                        refine st_callVI g (as := [.int v74, .int v75, .int v76]) dL_law_519 rfl rfl ml_L_53 mf_X7_street rfl (Nat.le_of_ble_eq_true rfl) (Nat.le_of_ble_eq_true rfl) (c_X7_street v74 v75 v76 s.2 _ hr77) (fun hz => ?_)
                        refine st_aload_n g dL_law_522 rfl ?_
                        refine st_aload_n g dL_law_523 rfl ?_
                        refine st_iload_n g dL_law_524 rfl ?_
                        refine st_iconst g dL_law_525 ic_1 ?_
                        refine st_iadd g dL_law_526 ?_
                        refine st_sald g gs dL_law_527 H (fun v78 H => ?_)
                        refine st_aload_n g dL_law_528 rfl ?_
                        refine st_iload_n g dL_law_529 rfl ?_
                        refine st_iconst g dL_law_530 ic_2 ?_
                        refine st_iadd g dL_law_531 ?_
                        refine st_sald g gs dL_law_532 H (fun v79 H => ?_)
                        refine st_aload_n g dL_law_533 rfl ?_
                        refine st_iload_n g dL_law_534 rfl ?_
                        refine st_iconst g dL_law_535 ic_3 ?_
                        refine st_iadd g dL_law_536 ?_
                        refine st_sald g gs dL_law_537 H (fun v80 H => ?_)
                        obtain ⟨r81, hr81, H⟩ := bind_some H
                        refine st_callVI g (as := [.int v78, .int v79, .int v80]) dL_law_538 rfl rfl ml_L_56 mf_X8_street rfl (Nat.le_of_ble_eq_true rfl) (Nat.le_of_ble_eq_true rfl) (c_X8_street v78 v79 v80 r77.2 _ hr81) (fun hz => ?_)
                        refine st_ic_eq g dL_law_541 (tgt := 1493) (by decide) H (fun q82 H => ?_) (fun q82 H => ?_)
                        · refine st_iinc g dL_law_1493 rfl (ii_6 _) (Nat.le_of_ble_eq_true rfl) rfl (ls2 := [.ref 94, .ref 0, .ref 53, .int (s.1 + 6)]) rfl ?_
                          refine st_goto g dL_law_1496 (tgt := 18) (by decide) ?_
                          obtain rfl := Option.some.inj H
                          exact K
                        · refine st_iconst g dL_law_544 ic_0 ?_
                          obtain rfl := Option.some.inj H
                          exact absurd K.1 (by decide)
                      · rw [if_neg q73] at H
                        by_cases q83 : (v2 &&& 63) = 10
                        · rw [if_pos q83] at H
                          refine st_tsw g dL_law_33 (tgt := 546) q83 (by decide) (by decide) rfl (by decide) ?_
                          refine st_aload_n g dL_law_546 rfl ?_
                          refine st_aload_n g dL_law_547 rfl ?_
                          refine st_iload_n g dL_law_548 rfl ?_
                          refine st_iconst g dL_law_549 ic_1 ?_
                          refine st_iadd g dL_law_550 ?_
                          refine st_sald g gs dL_law_551 H (fun v84 H => ?_)
                          obtain ⟨r85, hr85, H⟩ := bind_some H
                          refine st_callVI g (as := [.int v84]) dL_law_552 rfl rfl ml_L_57 mf_X7_run rfl (Nat.le_of_ble_eq_true rfl) (Nat.le_of_ble_eq_true rfl) (c_X7_run v84 s.2 _ hr85) (fun hz => ?_)
                          refine st_aload_n g dL_law_555 rfl ?_
                          refine st_aload_n g dL_law_556 rfl ?_
                          refine st_iload_n g dL_law_557 rfl ?_
                          refine st_iconst g dL_law_558 ic_1 ?_
                          refine st_iadd g dL_law_559 ?_
                          refine st_sald g gs dL_law_560 H (fun v86 H => ?_)
                          obtain ⟨r87, hr87, H⟩ := bind_some H
                          refine st_callVI g (as := [.int v86]) dL_law_561 rfl rfl ml_L_60 mf_X8_run rfl (Nat.le_of_ble_eq_true rfl) (Nat.le_of_ble_eq_true rfl) (c_X8_run v86 r85.2 _ hr87) (fun hz => ?_)
                          refine st_ic_eq g dL_law_564 (tgt := 1493) (by decide) H (fun q88 H => ?_) (fun q88 H => ?_)
                          · refine st_iinc g dL_law_1493 rfl (ii_6 _) (Nat.le_of_ble_eq_true rfl) rfl (ls2 := [.ref 94, .ref 0, .ref 53, .int (s.1 + 6)]) rfl ?_
                            refine st_goto g dL_law_1496 (tgt := 18) (by decide) ?_
                            obtain rfl := Option.some.inj H
                            exact K
                          · refine st_iconst g dL_law_567 ic_0 ?_
                            obtain rfl := Option.some.inj H
                            exact absurd K.1 (by decide)
                        · rw [if_neg q83] at H
                          by_cases q89 : (v2 &&& 63) = 11
                          · rw [if_pos q89] at H
                            refine st_tsw g dL_law_33 (tgt := 569) q89 (by decide) (by decide) rfl (by decide) ?_
                            refine st_aload_n g dL_law_569 rfl ?_
                            refine st_aload_n g dL_law_570 rfl ?_
                            refine st_iload_n g dL_law_571 rfl ?_
                            refine st_iconst g dL_law_572 ic_1 ?_
                            refine st_iadd g dL_law_573 ?_
                            refine st_sald g gs dL_law_574 H (fun v90 H => ?_)
                            obtain ⟨r91, hr91, H⟩ := bind_some H
                            refine st_callVI g (as := [.int v90]) dL_law_575 rfl rfl ml_L_61 mf_X7_fewest rfl (Nat.le_of_ble_eq_true rfl) (Nat.le_of_ble_eq_true rfl) (c_X7_fewest v90 s.2 _ hr91) (fun hz => ?_)
                            refine st_aload_n g dL_law_578 rfl ?_
                            refine st_aload_n g dL_law_579 rfl ?_
                            refine st_iload_n g dL_law_580 rfl ?_
                            refine st_iconst g dL_law_581 ic_1 ?_
                            refine st_iadd g dL_law_582 ?_
                            refine st_sald g gs dL_law_583 H (fun v92 H => ?_)
                            obtain ⟨r93, hr93, H⟩ := bind_some H
                            refine st_callVI g (as := [.int v92]) dL_law_584 rfl rfl ml_L_64 mf_X8_fewest rfl (Nat.le_of_ble_eq_true rfl) (Nat.le_of_ble_eq_true rfl) (c_X8_fewest v92 r91.2 _ hr93) (fun hz => ?_)
                            refine st_ic_eq g dL_law_587 (tgt := 1493) (by decide) H (fun q94 H => ?_) (fun q94 H => ?_)
                            · refine st_iinc g dL_law_1493 rfl (ii_6 _) (Nat.le_of_ble_eq_true rfl) rfl (ls2 := [.ref 94, .ref 0, .ref 53, .int (s.1 + 6)]) rfl ?_
                              refine st_goto g dL_law_1496 (tgt := 18) (by decide) ?_
                              obtain rfl := Option.some.inj H
                              exact K
                            · refine st_iconst g dL_law_590 ic_0 ?_
                              obtain rfl := Option.some.inj H
                              exact absurd K.1 (by decide)
                          · rw [if_neg q89] at H
                            by_cases q95 : (v2 &&& 63) = 12
                            · rw [if_pos q95] at H
                              refine st_tsw g dL_law_33 (tgt := 592) q95 (by decide) (by decide) rfl (by decide) ?_
                              refine st_aload_n g dL_law_592 rfl ?_
                              refine st_aload_n g dL_law_593 rfl ?_
                              refine st_iload_n g dL_law_594 rfl ?_
                              refine st_iconst g dL_law_595 ic_1 ?_
                              refine st_iadd g dL_law_596 ?_
                              refine st_sald g gs dL_law_597 H (fun v96 H => ?_)
                              obtain ⟨r97, hr97, H⟩ := bind_some H
                              refine st_callVI g (as := [.int v96]) dL_law_598 rfl rfl ml_L_65 mf_X7_all rfl (Nat.le_of_ble_eq_true rfl) (Nat.le_of_ble_eq_true rfl) (c_X7_all v96 s.2 _ hr97) (fun hz => ?_)
                              refine st_aload_n g dL_law_601 rfl ?_
                              refine st_aload_n g dL_law_602 rfl ?_
                              refine st_iload_n g dL_law_603 rfl ?_
                              refine st_iconst g dL_law_604 ic_1 ?_
                              refine st_iadd g dL_law_605 ?_
                              refine st_sald g gs dL_law_606 H (fun v98 H => ?_)
                              obtain ⟨r99, hr99, H⟩ := bind_some H
                              refine st_callVI g (as := [.int v98]) dL_law_607 rfl rfl ml_L_68 mf_X8_all rfl (Nat.le_of_ble_eq_true rfl) (Nat.le_of_ble_eq_true rfl) (c_X8_all v98 r97.2 _ hr99) (fun hz => ?_)
                              refine st_ic_eq g dL_law_610 (tgt := 1493) (by decide) H (fun q100 H => ?_) (fun q100 H => ?_)
                              · refine st_iinc g dL_law_1493 rfl (ii_6 _) (Nat.le_of_ble_eq_true rfl) rfl (ls2 := [.ref 94, .ref 0, .ref 53, .int (s.1 + 6)]) rfl ?_
                                refine st_goto g dL_law_1496 (tgt := 18) (by decide) ?_
                                obtain rfl := Option.some.inj H
                                exact K
                              · refine st_iconst g dL_law_613 ic_0 ?_
                                obtain rfl := Option.some.inj H
                                exact absurd K.1 (by decide)
                            · rw [if_neg q95] at H
                              by_cases q101 : (v2 &&& 63) = 13
                              · rw [if_pos q101] at H
                                refine st_tsw g dL_law_33 (tgt := 615) q101 (by decide) (by decide) rfl (by decide) ?_
                                refine st_aload_n g dL_law_615 rfl ?_
                                refine st_aload_n g dL_law_616 rfl ?_
                                refine st_iload_n g dL_law_617 rfl ?_
                                refine st_iconst g dL_law_618 ic_1 ?_
                                refine st_iadd g dL_law_619 ?_
                                refine st_sald g gs dL_law_620 H (fun v102 H => ?_)
                                obtain ⟨r103, hr103, H⟩ := bind_some H
                                refine st_callVI g (as := [.int v102]) dL_law_621 rfl rfl ml_L_69 mf_X7_evening rfl (Nat.le_of_ble_eq_true rfl) (Nat.le_of_ble_eq_true rfl) (c_X7_evening v102 s.2 _ hr103) (fun hz => ?_)
                                refine st_aload_n g dL_law_624 rfl ?_
                                refine st_aload_n g dL_law_625 rfl ?_
                                refine st_iload_n g dL_law_626 rfl ?_
                                refine st_iconst g dL_law_627 ic_1 ?_
                                refine st_iadd g dL_law_628 ?_
                                refine st_sald g gs dL_law_629 H (fun v104 H => ?_)
                                obtain ⟨r105, hr105, H⟩ := bind_some H
                                refine st_callVI g (as := [.int v104]) dL_law_630 rfl rfl ml_L_72 mf_X8_evening rfl (Nat.le_of_ble_eq_true rfl) (Nat.le_of_ble_eq_true rfl) (c_X8_evening v104 r103.2 _ hr105) (fun hz => ?_)
                                refine st_ic_eq g dL_law_633 (tgt := 1493) (by decide) H (fun q106 H => ?_) (fun q106 H => ?_)
                                · refine st_iinc g dL_law_1493 rfl (ii_6 _) (Nat.le_of_ble_eq_true rfl) rfl (ls2 := [.ref 94, .ref 0, .ref 53, .int (s.1 + 6)]) rfl ?_
                                  refine st_goto g dL_law_1496 (tgt := 18) (by decide) ?_
                                  obtain rfl := Option.some.inj H
                                  exact K
                                · refine st_iconst g dL_law_636 ic_0 ?_
                                  obtain rfl := Option.some.inj H
                                  exact absurd K.1 (by decide)
                              · rw [if_neg q101] at H
                                by_cases q107 : (v2 &&& 63) = 14
                                · rw [if_pos q107] at H
                                  refine st_tsw g dL_law_33 (tgt := 638) q107 (by decide) (by decide) rfl (by decide) ?_
                                  refine st_aload_n g dL_law_638 rfl ?_
                                  obtain ⟨r108, hr108, H⟩ := bind_some H
                                  refine st_callVI g (as := []) dL_law_639 rfl rfl ml_L_73 mf_X7_ring rfl (Nat.le_of_ble_eq_true rfl) (Nat.le_of_ble_eq_true rfl) (c_X7_ring s.2 _ hr108) (fun hz => ?_)
                                  refine st_aload_n g dL_law_642 rfl ?_
                                  obtain ⟨r109, hr109, H⟩ := bind_some H
                                  refine st_callVI g (as := []) dL_law_643 rfl rfl ml_L_76 mf_X8_ring rfl (Nat.le_of_ble_eq_true rfl) (Nat.le_of_ble_eq_true rfl) (c_X8_ring r108.2 _ hr109) (fun hz => ?_)
                                  refine st_ic_eq g dL_law_646 (tgt := 1493) (by decide) H (fun q110 H => ?_) (fun q110 H => ?_)
                                  · refine st_iinc g dL_law_1493 rfl (ii_6 _) (Nat.le_of_ble_eq_true rfl) rfl (ls2 := [.ref 94, .ref 0, .ref 53, .int (s.1 + 6)]) rfl ?_
                                    refine st_goto g dL_law_1496 (tgt := 18) (by decide) ?_
                                    obtain rfl := Option.some.inj H
                                    exact K
                                  · refine st_iconst g dL_law_649 ic_0 ?_
                                    obtain rfl := Option.some.inj H
                                    exact absurd K.1 (by decide)
                                · rw [if_neg q107] at H
                                  by_cases q111 : (v2 &&& 63) = 15
                                  · rw [if_pos q111] at H
                                    refine st_tsw g dL_law_33 (tgt := 651) q111 (by decide) (by decide) rfl (by decide) ?_
                                    refine st_aload_n g dL_law_651 rfl ?_
                                    refine st_aload_n g dL_law_652 rfl ?_
                                    refine st_iload_n g dL_law_653 rfl ?_
                                    refine st_iconst g dL_law_654 ic_1 ?_
                                    refine st_iadd g dL_law_655 ?_
                                    refine st_sald g gs dL_law_656 H (fun v112 H => ?_)
                                    obtain ⟨r113, hr113, H⟩ := bind_some H
                                    refine st_callVI g (as := [.int v112]) dL_law_657 rfl rfl ml_L_77 mf_X7_owes rfl (Nat.le_of_ble_eq_true rfl) (Nat.le_of_ble_eq_true rfl) (c_X7_owes v112 s.2 _ hr113) (fun hz => ?_)
                                    refine st_aload_n g dL_law_660 rfl ?_
                                    refine st_aload_n g dL_law_661 rfl ?_
                                    refine st_iload_n g dL_law_662 rfl ?_
                                    refine st_iconst g dL_law_663 ic_1 ?_
                                    refine st_iadd g dL_law_664 ?_
                                    refine st_sald g gs dL_law_665 H (fun v114 H => ?_)
                                    obtain ⟨r115, hr115, H⟩ := bind_some H
                                    refine st_callVI g (as := [.int v114]) dL_law_666 rfl rfl ml_L_80 mf_X8_owes rfl (Nat.le_of_ble_eq_true rfl) (Nat.le_of_ble_eq_true rfl) (c_X8_owes v114 s.2 _ hr115) (fun hz => ?_)
                                    refine st_ic_eq g dL_law_669 (tgt := 1493) (by decide) H (fun q116 H => ?_) (fun q116 H => ?_)
                                    · refine st_iinc g dL_law_1493 rfl (ii_6 _) (Nat.le_of_ble_eq_true rfl) rfl (ls2 := [.ref 94, .ref 0, .ref 53, .int (s.1 + 6)]) rfl ?_
                                      refine st_goto g dL_law_1496 (tgt := 18) (by decide) ?_
                                      obtain rfl := Option.some.inj H
                                      exact K
                                    · refine st_iconst g dL_law_672 ic_0 ?_
                                      obtain rfl := Option.some.inj H
                                      exact absurd K.1 (by decide)
                                  · rw [if_neg q111] at H
                                    by_cases q117 : (v2 &&& 63) = 16
                                    · rw [if_pos q117] at H
                                      refine st_tsw g dL_law_33 (tgt := 674) q117 (by decide) (by decide) rfl (by decide) ?_
                                      refine st_aload_n g dL_law_674 rfl ?_
                                      refine st_aload_n g dL_law_675 rfl ?_
                                      refine st_iload_n g dL_law_676 rfl ?_
                                      refine st_iconst g dL_law_677 ic_1 ?_
                                      refine st_iadd g dL_law_678 ?_
                                      refine st_sald g gs dL_law_679 H (fun v118 H => ?_)
                                      refine st_aload_n g dL_law_680 rfl ?_
                                      refine st_iload_n g dL_law_681 rfl ?_
                                      refine st_iconst g dL_law_682 ic_2 ?_
                                      refine st_iadd g dL_law_683 ?_
                                      refine st_sald g gs dL_law_684 H (fun v119 H => ?_)
                                      obtain ⟨r120, hr120, H⟩ := bind_some H
                                      refine st_callVI g (as := [.int v118, .int v119]) dL_law_685 rfl rfl ml_L_81 mf_X7_post rfl (Nat.le_of_ble_eq_true rfl) (Nat.le_of_ble_eq_true rfl) (c_X7_post v118 v119 s.2 _ hr120) (fun hz => ?_)
                                      refine st_aload_n g dL_law_688 rfl ?_
                                      refine st_aload_n g dL_law_689 rfl ?_
                                      refine st_iload_n g dL_law_690 rfl ?_
                                      refine st_iconst g dL_law_691 ic_1 ?_
                                      refine st_iadd g dL_law_692 ?_
                                      refine st_sald g gs dL_law_693 H (fun v121 H => ?_)
                                      refine st_aload_n g dL_law_694 rfl ?_
                                      refine st_iload_n g dL_law_695 rfl ?_
                                      refine st_iconst g dL_law_696 ic_2 ?_
                                      refine st_iadd g dL_law_697 ?_
                                      refine st_sald g gs dL_law_698 H (fun v122 H => ?_)
                                      obtain ⟨r123, hr123, H⟩ := bind_some H
                                      refine st_callVI g (as := [.int v121, .int v122]) dL_law_699 rfl rfl ml_L_84 mf_X8_post rfl (Nat.le_of_ble_eq_true rfl) (Nat.le_of_ble_eq_true rfl) (c_X8_post v121 v122 s.2 _ hr123) (fun hz => ?_)
                                      refine st_ic_eq g dL_law_702 (tgt := 1493) (by decide) H (fun q124 H => ?_) (fun q124 H => ?_)
                                      · refine st_iinc g dL_law_1493 rfl (ii_6 _) (Nat.le_of_ble_eq_true rfl) rfl (ls2 := [.ref 94, .ref 0, .ref 53, .int (s.1 + 6)]) rfl ?_
                                        refine st_goto g dL_law_1496 (tgt := 18) (by decide) ?_
                                        obtain rfl := Option.some.inj H
                                        exact K
                                      · refine st_iconst g dL_law_705 ic_0 ?_
                                        obtain rfl := Option.some.inj H
                                        exact absurd K.1 (by decide)
                                    · rw [if_neg q117] at H
                                      by_cases q125 : (v2 &&& 63) = 17
                                      · rw [if_pos q125] at H
                                        refine st_tsw g dL_law_33 (tgt := 707) q125 (by decide) (by decide) rfl (by decide) ?_
                                        refine st_aload_n g dL_law_707 rfl ?_
                                        refine st_aload_n g dL_law_708 rfl ?_
                                        refine st_iload_n g dL_law_709 rfl ?_
                                        refine st_iconst g dL_law_710 ic_1 ?_
                                        refine st_iadd g dL_law_711 ?_
                                        refine st_sald g gs dL_law_712 H (fun v126 H => ?_)
                                        obtain ⟨r127, hr127, H⟩ := bind_some H
                                        refine st_callVI g (as := [.int v126]) dL_law_713 rfl rfl ml_L_85 mf_X7_nearest rfl (Nat.le_of_ble_eq_true rfl) (Nat.le_of_ble_eq_true rfl) (c_X7_nearest v126 s.2 _ hr127) (fun hz => ?_)
                                        refine st_aload_n g dL_law_716 rfl ?_
                                        refine st_aload_n g dL_law_717 rfl ?_
                                        refine st_iload_n g dL_law_718 rfl ?_
                                        refine st_iconst g dL_law_719 ic_1 ?_
                                        refine st_iadd g dL_law_720 ?_
                                        refine st_sald g gs dL_law_721 H (fun v128 H => ?_)
                                        obtain ⟨r129, hr129, H⟩ := bind_some H
                                        refine st_callVI g (as := [.int v128]) dL_law_722 rfl rfl ml_L_88 mf_X8_nearest rfl (Nat.le_of_ble_eq_true rfl) (Nat.le_of_ble_eq_true rfl) (c_X8_nearest v128 s.2 _ hr129) (fun hz => ?_)
                                        refine st_ic_eq g dL_law_725 (tgt := 1493) (by decide) H (fun q130 H => ?_) (fun q130 H => ?_)
                                        · refine st_iinc g dL_law_1493 rfl (ii_6 _) (Nat.le_of_ble_eq_true rfl) rfl (ls2 := [.ref 94, .ref 0, .ref 53, .int (s.1 + 6)]) rfl ?_
                                          refine st_goto g dL_law_1496 (tgt := 18) (by decide) ?_
                                          obtain rfl := Option.some.inj H
                                          exact K
                                        · refine st_iconst g dL_law_728 ic_0 ?_
                                          obtain rfl := Option.some.inj H
                                          exact absurd K.1 (by decide)
                                      · rw [if_neg q125] at H
                                        by_cases q131 : (v2 &&& 63) = 18
                                        · rw [if_pos q131] at H
                                          refine st_tsw g dL_law_33 (tgt := 730) q131 (by decide) (by decide) rfl (by decide) ?_
                                          refine st_aload_n g dL_law_730 rfl ?_
                                          refine st_aload_n g dL_law_731 rfl ?_
                                          refine st_iload_n g dL_law_732 rfl ?_
                                          refine st_iconst g dL_law_733 ic_1 ?_
                                          refine st_iadd g dL_law_734 ?_
                                          refine st_sald g gs dL_law_735 H (fun v132 H => ?_)
                                          obtain ⟨r133, hr133, H⟩ := bind_some H
                                          refine st_callVI g (as := [.int v132]) dL_law_736 rfl rfl ml_L_89 mf_X7_chosen rfl (Nat.le_of_ble_eq_true rfl) (Nat.le_of_ble_eq_true rfl) (c_X7_chosen v132 s.2 _ hr133) (fun hz => ?_)
                                          refine st_aload_n g dL_law_739 rfl ?_
                                          refine st_aload_n g dL_law_740 rfl ?_
                                          refine st_iload_n g dL_law_741 rfl ?_
                                          refine st_iconst g dL_law_742 ic_1 ?_
                                          refine st_iadd g dL_law_743 ?_
                                          refine st_sald g gs dL_law_744 H (fun v134 H => ?_)
                                          obtain ⟨r135, hr135, H⟩ := bind_some H
                                          refine st_callVI g (as := [.int v134]) dL_law_745 rfl rfl ml_L_92 mf_X8_chosen rfl (Nat.le_of_ble_eq_true rfl) (Nat.le_of_ble_eq_true rfl) (c_X8_chosen v134 s.2 _ hr135) (fun hz => ?_)
                                          refine st_ic_eq g dL_law_748 (tgt := 1493) (by decide) H (fun q136 H => ?_) (fun q136 H => ?_)
                                          · refine st_iinc g dL_law_1493 rfl (ii_6 _) (Nat.le_of_ble_eq_true rfl) rfl (ls2 := [.ref 94, .ref 0, .ref 53, .int (s.1 + 6)]) rfl ?_
                                            refine st_goto g dL_law_1496 (tgt := 18) (by decide) ?_
                                            obtain rfl := Option.some.inj H
                                            exact K
                                          · refine st_iconst g dL_law_751 ic_0 ?_
                                            obtain rfl := Option.some.inj H
                                            exact absurd K.1 (by decide)
                                        · rw [if_neg q131] at H
                                          by_cases q137 : (v2 &&& 63) = 19
                                          · rw [if_pos q137] at H
                                            refine st_tsw g dL_law_33 (tgt := 753) q137 (by decide) (by decide) rfl (by decide) ?_
                                            refine st_aload_n g dL_law_753 rfl ?_
                                            refine st_aload_n g dL_law_754 rfl ?_
                                            refine st_iload_n g dL_law_755 rfl ?_
                                            refine st_iconst g dL_law_756 ic_1 ?_
                                            refine st_iadd g dL_law_757 ?_
                                            refine st_sald g gs dL_law_758 H (fun v138 H => ?_)
                                            refine st_aload_n g dL_law_759 rfl ?_
                                            refine st_iload_n g dL_law_760 rfl ?_
                                            refine st_iconst g dL_law_761 ic_2 ?_
                                            refine st_iadd g dL_law_762 ?_
                                            refine st_sald g gs dL_law_763 H (fun v139 H => ?_)
                                            obtain ⟨r140, hr140, H⟩ := bind_some H
                                            refine st_callVI g (as := [.int v138, .int v139]) dL_law_764 rfl rfl ml_L_93 mf_X7_judge rfl (Nat.le_of_ble_eq_true rfl) (Nat.le_of_ble_eq_true rfl) (c_X7_judge v138 v139 s.2 _ hr140) (fun hz => ?_)
                                            refine st_aload_n g dL_law_767 rfl ?_
                                            refine st_aload_n g dL_law_768 rfl ?_
                                            refine st_iload_n g dL_law_769 rfl ?_
                                            refine st_iconst g dL_law_770 ic_1 ?_
                                            refine st_iadd g dL_law_771 ?_
                                            refine st_sald g gs dL_law_772 H (fun v141 H => ?_)
                                            refine st_aload_n g dL_law_773 rfl ?_
                                            refine st_iload_n g dL_law_774 rfl ?_
                                            refine st_iconst g dL_law_775 ic_2 ?_
                                            refine st_iadd g dL_law_776 ?_
                                            refine st_sald g gs dL_law_777 H (fun v142 H => ?_)
                                            obtain ⟨r143, hr143, H⟩ := bind_some H
                                            refine st_callVI g (as := [.int v141, .int v142]) dL_law_778 rfl rfl ml_L_96 mf_X8_judge rfl (Nat.le_of_ble_eq_true rfl) (Nat.le_of_ble_eq_true rfl) (c_X8_judge v141 v142 r140.2 _ hr143) (fun hz => ?_)
                                            refine st_ic_eq g dL_law_781 (tgt := 1493) (by decide) H (fun q144 H => ?_) (fun q144 H => ?_)
                                            · refine st_iinc g dL_law_1493 rfl (ii_6 _) (Nat.le_of_ble_eq_true rfl) rfl (ls2 := [.ref 94, .ref 0, .ref 53, .int (s.1 + 6)]) rfl ?_
                                              refine st_goto g dL_law_1496 (tgt := 18) (by decide) ?_
                                              obtain rfl := Option.some.inj H
                                              exact K
                                            · refine st_iconst g dL_law_784 ic_0 ?_
                                              obtain rfl := Option.some.inj H
                                              exact absurd K.1 (by decide)
                                          · rw [if_neg q137] at H
                                            by_cases q145 : (v2 &&& 63) = 20
                                            · rw [if_pos q145] at H
                                              refine st_tsw g dL_law_33 (tgt := 786) q145 (by decide) (by decide) rfl (by decide) ?_
                                              refine st_aload_n g dL_law_786 rfl ?_
                                              refine st_aload_n g dL_law_787 rfl ?_
                                              refine st_iload_n g dL_law_788 rfl ?_
                                              refine st_iconst g dL_law_789 ic_1 ?_
                                              refine st_iadd g dL_law_790 ?_
                                              refine st_sald g gs dL_law_791 H (fun v146 H => ?_)
                                              refine st_aload_n g dL_law_792 rfl ?_
                                              refine st_iload_n g dL_law_793 rfl ?_
                                              refine st_iconst g dL_law_794 ic_2 ?_
                                              refine st_iadd g dL_law_795 ?_
                                              refine st_sald g gs dL_law_796 H (fun v147 H => ?_)
                                              refine st_aload_n g dL_law_797 rfl ?_
                                              refine st_iload_n g dL_law_798 rfl ?_
                                              refine st_iconst g dL_law_799 ic_3 ?_
                                              refine st_iadd g dL_law_800 ?_
                                              refine st_sald g gs dL_law_801 H (fun v148 H => ?_)
                                              refine st_aload_n g dL_law_802 rfl ?_
                                              refine st_iload_n g dL_law_803 rfl ?_
                                              refine st_iconst g dL_law_804 ic_4 ?_
                                              refine st_iadd g dL_law_805 ?_
                                              refine st_sald g gs dL_law_806 H (fun v149 H => ?_)
                                              obtain ⟨r150, hr150, H⟩ := bind_some H
                                              refine st_callVI g (as := [.int v146, .int v147, .int v148, .int v149]) dL_law_807 rfl rfl ml_L_97 mf_X7_fits rfl (Nat.le_of_ble_eq_true rfl) (Nat.le_of_ble_eq_true rfl) (c_X7_fits v146 v147 v148 v149 s.2 _ hr150) (fun hz => ?_)
                                              refine st_aload_n g dL_law_810 rfl ?_
                                              refine st_aload_n g dL_law_811 rfl ?_
                                              refine st_iload_n g dL_law_812 rfl ?_
                                              refine st_iconst g dL_law_813 ic_1 ?_
                                              refine st_iadd g dL_law_814 ?_
                                              refine st_sald g gs dL_law_815 H (fun v151 H => ?_)
                                              refine st_aload_n g dL_law_816 rfl ?_
                                              refine st_iload_n g dL_law_817 rfl ?_
                                              refine st_iconst g dL_law_818 ic_2 ?_
                                              refine st_iadd g dL_law_819 ?_
                                              refine st_sald g gs dL_law_820 H (fun v152 H => ?_)
                                              refine st_aload_n g dL_law_821 rfl ?_
                                              refine st_iload_n g dL_law_822 rfl ?_
                                              refine st_iconst g dL_law_823 ic_3 ?_
                                              refine st_iadd g dL_law_824 ?_
                                              refine st_sald g gs dL_law_825 H (fun v153 H => ?_)
                                              refine st_aload_n g dL_law_826 rfl ?_
                                              refine st_iload_n g dL_law_827 rfl ?_
                                              refine st_iconst g dL_law_828 ic_4 ?_
                                              refine st_iadd g dL_law_829 ?_
                                              refine st_sald g gs dL_law_830 H (fun v154 H => ?_)
                                              obtain ⟨r155, hr155, H⟩ := bind_some H
                                              refine st_callVI g (as := [.int v151, .int v152, .int v153, .int v154]) dL_law_831 rfl rfl ml_L_101 mf_X8_fits rfl (Nat.le_of_ble_eq_true rfl) (Nat.le_of_ble_eq_true rfl) (c_X8_fits v151 v152 v153 v154 r150.2 _ hr155) (fun hz => ?_)
                                              refine st_ic_eq g dL_law_834 (tgt := 1493) (by decide) H (fun q156 H => ?_) (fun q156 H => ?_)
                                              · refine st_iinc g dL_law_1493 rfl (ii_6 _) (Nat.le_of_ble_eq_true rfl) rfl (ls2 := [.ref 94, .ref 0, .ref 53, .int (s.1 + 6)]) rfl ?_
                                                refine st_goto g dL_law_1496 (tgt := 18) (by decide) ?_
                                                obtain rfl := Option.some.inj H
                                                exact K
                                              · refine st_iconst g dL_law_837 ic_0 ?_
                                                obtain rfl := Option.some.inj H
                                                exact absurd K.1 (by decide)
                                            · rw [if_neg q145] at H
                                              by_cases q157 : (v2 &&& 63) = 21
                                              · rw [if_pos q157] at H
                                                refine st_tsw g dL_law_33 (tgt := 839) q157 (by decide) (by decide) rfl (by decide) ?_
                                                refine st_aload_n g dL_law_839 rfl ?_
                                                refine st_aload_n g dL_law_840 rfl ?_
                                                refine st_iload_n g dL_law_841 rfl ?_
                                                refine st_iconst g dL_law_842 ic_1 ?_
                                                refine st_iadd g dL_law_843 ?_
                                                refine st_sald g gs dL_law_844 H (fun v158 H => ?_)
                                                refine st_aload_n g dL_law_845 rfl ?_
                                                refine st_iload_n g dL_law_846 rfl ?_
                                                refine st_iconst g dL_law_847 ic_2 ?_
                                                refine st_iadd g dL_law_848 ?_
                                                refine st_sald g gs dL_law_849 H (fun v159 H => ?_)
                                                refine st_aload_n g dL_law_850 rfl ?_
                                                refine st_iload_n g dL_law_851 rfl ?_
                                                refine st_iconst g dL_law_852 ic_3 ?_
                                                refine st_iadd g dL_law_853 ?_
                                                refine st_sald g gs dL_law_854 H (fun v160 H => ?_)
                                                obtain ⟨r161, hr161, H⟩ := bind_some H
                                                refine st_callVI g (as := [.int v158, .int v159, .int v160]) dL_law_855 rfl rfl ml_L_102 mf_X7_byTurns rfl (Nat.le_of_ble_eq_true rfl) (Nat.le_of_ble_eq_true rfl) (c_X7_byTurns v158 v159 v160 s.2 _ hr161) (fun hz => ?_)
                                                refine st_aload_n g dL_law_858 rfl ?_
                                                refine st_aload_n g dL_law_859 rfl ?_
                                                refine st_iload_n g dL_law_860 rfl ?_
                                                refine st_iconst g dL_law_861 ic_1 ?_
                                                refine st_iadd g dL_law_862 ?_
                                                refine st_sald g gs dL_law_863 H (fun v162 H => ?_)
                                                refine st_aload_n g dL_law_864 rfl ?_
                                                refine st_iload_n g dL_law_865 rfl ?_
                                                refine st_iconst g dL_law_866 ic_2 ?_
                                                refine st_iadd g dL_law_867 ?_
                                                refine st_sald g gs dL_law_868 H (fun v163 H => ?_)
                                                refine st_aload_n g dL_law_869 rfl ?_
                                                refine st_iload_n g dL_law_870 rfl ?_
                                                refine st_iconst g dL_law_871 ic_3 ?_
                                                refine st_iadd g dL_law_872 ?_
                                                refine st_sald g gs dL_law_873 H (fun v164 H => ?_)
                                                obtain ⟨r165, hr165, H⟩ := bind_some H
                                                refine st_callVI g (as := [.int v162, .int v163, .int v164]) dL_law_874 rfl rfl ml_L_105 mf_X8_byTurns rfl (Nat.le_of_ble_eq_true rfl) (Nat.le_of_ble_eq_true rfl) (c_X8_byTurns v162 v163 v164 r161.2 _ hr165) (fun hz => ?_)
                                                refine st_ic_eq g dL_law_877 (tgt := 1493) (by decide) H (fun q166 H => ?_) (fun q166 H => ?_)
                                                · refine st_iinc g dL_law_1493 rfl (ii_6 _) (Nat.le_of_ble_eq_true rfl) rfl (ls2 := [.ref 94, .ref 0, .ref 53, .int (s.1 + 6)]) rfl ?_
                                                  refine st_goto g dL_law_1496 (tgt := 18) (by decide) ?_
                                                  obtain rfl := Option.some.inj H
                                                  exact K
                                                · refine st_iconst g dL_law_880 ic_0 ?_
                                                  obtain rfl := Option.some.inj H
                                                  exact absurd K.1 (by decide)
                                              · rw [if_neg q157] at H
                                                by_cases q167 : (v2 &&& 63) = 22
                                                · rw [if_pos q167] at H
                                                  refine st_tsw g dL_law_33 (tgt := 882) q167 (by decide) (by decide) rfl (by decide) ?_
                                                  refine st_aload_n g dL_law_882 rfl ?_
                                                  refine st_aload_n g dL_law_883 rfl ?_
                                                  refine st_iload_n g dL_law_884 rfl ?_
                                                  refine st_iconst g dL_law_885 ic_1 ?_
                                                  refine st_iadd g dL_law_886 ?_
                                                  refine st_sald g gs dL_law_887 H (fun v168 H => ?_)
                                                  refine st_aload_n g dL_law_888 rfl ?_
                                                  refine st_iload_n g dL_law_889 rfl ?_
                                                  refine st_iconst g dL_law_890 ic_2 ?_
                                                  refine st_iadd g dL_law_891 ?_
                                                  refine st_sald g gs dL_law_892 H (fun v169 H => ?_)
                                                  refine st_aload_n g dL_law_893 rfl ?_
                                                  refine st_iload_n g dL_law_894 rfl ?_
                                                  refine st_iconst g dL_law_895 ic_3 ?_
                                                  refine st_iadd g dL_law_896 ?_
                                                  refine st_sald g gs dL_law_897 H (fun v170 H => ?_)
                                                  obtain ⟨r171, hr171, H⟩ := bind_some H
                                                  refine st_callVI g (as := [.int v168, .int v169, .int v170]) dL_law_898 rfl rfl ml_L_106 mf_X7_drawn rfl (Nat.le_of_ble_eq_true rfl) (Nat.le_of_ble_eq_true rfl) (c_X7_drawn v168 v169 v170 s.2 _ hr171) (fun hz => ?_)
                                                  refine st_aload_n g dL_law_901 rfl ?_
                                                  refine st_aload_n g dL_law_902 rfl ?_
                                                  refine st_iload_n g dL_law_903 rfl ?_
                                                  refine st_iconst g dL_law_904 ic_1 ?_
                                                  refine st_iadd g dL_law_905 ?_
                                                  refine st_sald g gs dL_law_906 H (fun v172 H => ?_)
                                                  refine st_aload_n g dL_law_907 rfl ?_
                                                  refine st_iload_n g dL_law_908 rfl ?_
                                                  refine st_iconst g dL_law_909 ic_2 ?_
                                                  refine st_iadd g dL_law_910 ?_
                                                  refine st_sald g gs dL_law_911 H (fun v173 H => ?_)
                                                  refine st_aload_n g dL_law_912 rfl ?_
                                                  refine st_iload_n g dL_law_913 rfl ?_
                                                  refine st_iconst g dL_law_914 ic_3 ?_
                                                  refine st_iadd g dL_law_915 ?_
                                                  refine st_sald g gs dL_law_916 H (fun v174 H => ?_)
                                                  obtain ⟨r175, hr175, H⟩ := bind_some H
                                                  refine st_callVI g (as := [.int v172, .int v173, .int v174]) dL_law_917 rfl rfl ml_L_109 mf_X8_drawn rfl (Nat.le_of_ble_eq_true rfl) (Nat.le_of_ble_eq_true rfl) (c_X8_drawn v172 v173 v174 r171.2 _ hr175) (fun hz => ?_)
                                                  refine st_ic_eq g dL_law_920 (tgt := 1493) (by decide) H (fun q176 H => ?_) (fun q176 H => ?_)
                                                  · refine st_iinc g dL_law_1493 rfl (ii_6 _) (Nat.le_of_ble_eq_true rfl) rfl (ls2 := [.ref 94, .ref 0, .ref 53, .int (s.1 + 6)]) rfl ?_
                                                    refine st_goto g dL_law_1496 (tgt := 18) (by decide) ?_
                                                    obtain rfl := Option.some.inj H
                                                    exact K
                                                  · refine st_iconst g dL_law_923 ic_0 ?_
                                                    obtain rfl := Option.some.inj H
                                                    exact absurd K.1 (by decide)
                                                · rw [if_neg q167] at H
                                                  by_cases q177 : (v2 &&& 63) = 23
                                                  · rw [if_pos q177] at H
                                                    refine st_tsw g dL_law_33 (tgt := 925) q177 (by decide) (by decide) rfl (by decide) ?_
                                                    refine st_aload_n g dL_law_925 rfl ?_
                                                    refine st_aload_n g dL_law_926 rfl ?_
                                                    refine st_iload_n g dL_law_927 rfl ?_
                                                    refine st_iconst g dL_law_928 ic_1 ?_
                                                    refine st_iadd g dL_law_929 ?_
                                                    refine st_sald g gs dL_law_930 H (fun v178 H => ?_)
                                                    refine st_aload_n g dL_law_931 rfl ?_
                                                    refine st_iload_n g dL_law_932 rfl ?_
                                                    refine st_iconst g dL_law_933 ic_2 ?_
                                                    refine st_iadd g dL_law_934 ?_
                                                    refine st_sald g gs dL_law_935 H (fun v179 H => ?_)
                                                    obtain ⟨r180, hr180, H⟩ := bind_some H
                                                    refine st_callVI g (as := [.int v178, .int v179]) dL_law_936 rfl rfl ml_L_110 mf_X7_call rfl (Nat.le_of_ble_eq_true rfl) (Nat.le_of_ble_eq_true rfl) (c_X7_call v178 v179 s.2 _ hr180) (fun hz => ?_)
                                                    refine st_aload_n g dL_law_939 rfl ?_
                                                    refine st_aload_n g dL_law_940 rfl ?_
                                                    refine st_iload_n g dL_law_941 rfl ?_
                                                    refine st_iconst g dL_law_942 ic_1 ?_
                                                    refine st_iadd g dL_law_943 ?_
                                                    refine st_sald g gs dL_law_944 H (fun v181 H => ?_)
                                                    refine st_aload_n g dL_law_945 rfl ?_
                                                    refine st_iload_n g dL_law_946 rfl ?_
                                                    refine st_iconst g dL_law_947 ic_2 ?_
                                                    refine st_iadd g dL_law_948 ?_
                                                    refine st_sald g gs dL_law_949 H (fun v182 H => ?_)
                                                    obtain ⟨r183, hr183, H⟩ := bind_some H
                                                    refine st_callVI g (as := [.int v181, .int v182]) dL_law_950 rfl rfl ml_L_113 mf_X8_call rfl (Nat.le_of_ble_eq_true rfl) (Nat.le_of_ble_eq_true rfl) (c_X8_call v181 v182 r180.2 _ hr183) (fun hz => ?_)
                                                    refine st_ic_eq g dL_law_953 (tgt := 1493) (by decide) H (fun q184 H => ?_) (fun q184 H => ?_)
                                                    · refine st_iinc g dL_law_1493 rfl (ii_6 _) (Nat.le_of_ble_eq_true rfl) rfl (ls2 := [.ref 94, .ref 0, .ref 53, .int (s.1 + 6)]) rfl ?_
                                                      refine st_goto g dL_law_1496 (tgt := 18) (by decide) ?_
                                                      obtain rfl := Option.some.inj H
                                                      exact K
                                                    · refine st_iconst g dL_law_956 ic_0 ?_
                                                      obtain rfl := Option.some.inj H
                                                      exact absurd K.1 (by decide)
                                                  · rw [if_neg q177] at H
                                                    by_cases q185 : (v2 &&& 63) = 24
                                                    · rw [if_pos q185] at H
                                                      refine st_tsw g dL_law_33 (tgt := 958) q185 (by decide) (by decide) rfl (by decide) ?_
                                                      refine st_aload_n g dL_law_958 rfl ?_
                                                      refine st_aload_n g dL_law_959 rfl ?_
                                                      refine st_iload_n g dL_law_960 rfl ?_
                                                      refine st_iconst g dL_law_961 ic_1 ?_
                                                      refine st_iadd g dL_law_962 ?_
                                                      refine st_sald g gs dL_law_963 H (fun v186 H => ?_)
                                                      obtain ⟨r187, hr187, H⟩ := bind_some H
                                                      refine st_callVI g (as := [.int v186]) dL_law_964 rfl rfl ml_L_114 mf_X7_again rfl (Nat.le_of_ble_eq_true rfl) (Nat.le_of_ble_eq_true rfl) (c_X7_again v186 s.2 _ hr187) (fun hz => ?_)
                                                      refine st_aload_n g dL_law_967 rfl ?_
                                                      refine st_aload_n g dL_law_968 rfl ?_
                                                      refine st_iload_n g dL_law_969 rfl ?_
                                                      refine st_iconst g dL_law_970 ic_1 ?_
                                                      refine st_iadd g dL_law_971 ?_
                                                      refine st_sald g gs dL_law_972 H (fun v188 H => ?_)
                                                      obtain ⟨r189, hr189, H⟩ := bind_some H
                                                      refine st_callVI g (as := [.int v188]) dL_law_973 rfl rfl ml_L_117 mf_X8_again rfl (Nat.le_of_ble_eq_true rfl) (Nat.le_of_ble_eq_true rfl) (c_X8_again v188 r187.2 _ hr189) (fun hz => ?_)
                                                      refine st_ic_eq g dL_law_976 (tgt := 1493) (by decide) H (fun q190 H => ?_) (fun q190 H => ?_)
                                                      · refine st_iinc g dL_law_1493 rfl (ii_6 _) (Nat.le_of_ble_eq_true rfl) rfl (ls2 := [.ref 94, .ref 0, .ref 53, .int (s.1 + 6)]) rfl ?_
                                                        refine st_goto g dL_law_1496 (tgt := 18) (by decide) ?_
                                                        obtain rfl := Option.some.inj H
                                                        exact K
                                                      · refine st_iconst g dL_law_979 ic_0 ?_
                                                        obtain rfl := Option.some.inj H
                                                        exact absurd K.1 (by decide)
                                                    · rw [if_neg q185] at H
                                                      by_cases q191 : (v2 &&& 63) = 25
                                                      · rw [if_pos q191] at H
                                                        refine st_tsw g dL_law_33 (tgt := 981) q191 (by decide) (by decide) rfl (by decide) ?_
                                                        refine st_aload_n g dL_law_981 rfl ?_
                                                        refine st_aload_n g dL_law_982 rfl ?_
                                                        refine st_iload_n g dL_law_983 rfl ?_
                                                        refine st_iconst g dL_law_984 ic_1 ?_
                                                        refine st_iadd g dL_law_985 ?_
                                                        refine st_sald g gs dL_law_986 H (fun v192 H => ?_)
                                                        obtain ⟨r193, hr193, H⟩ := bind_some H
                                                        refine st_callVI g (as := [.int v192]) dL_law_987 rfl rfl ml_L_118 mf_X7_days rfl (Nat.le_of_ble_eq_true rfl) (Nat.le_of_ble_eq_true rfl) (c_X7_days v192 s.2 _ hr193) (fun hz => ?_)
                                                        refine st_aload_n g dL_law_990 rfl ?_
                                                        refine st_aload_n g dL_law_991 rfl ?_
                                                        refine st_iload_n g dL_law_992 rfl ?_
                                                        refine st_iconst g dL_law_993 ic_1 ?_
                                                        refine st_iadd g dL_law_994 ?_
                                                        refine st_sald g gs dL_law_995 H (fun v194 H => ?_)
                                                        obtain ⟨r195, hr195, H⟩ := bind_some H
                                                        refine st_callVI g (as := [.int v194]) dL_law_996 rfl rfl ml_L_121 mf_X8_days rfl (Nat.le_of_ble_eq_true rfl) (Nat.le_of_ble_eq_true rfl) (c_X8_days v194 r193.2 _ hr195) (fun hz => ?_)
                                                        refine st_ic_eq g dL_law_999 (tgt := 1493) (by decide) H (fun q196 H => ?_) (fun q196 H => ?_)
                                                        · refine st_iinc g dL_law_1493 rfl (ii_6 _) (Nat.le_of_ble_eq_true rfl) rfl (ls2 := [.ref 94, .ref 0, .ref 53, .int (s.1 + 6)]) rfl ?_
                                                          refine st_goto g dL_law_1496 (tgt := 18) (by decide) ?_
                                                          obtain rfl := Option.some.inj H
                                                          exact K
                                                        · refine st_iconst g dL_law_1002 ic_0 ?_
                                                          obtain rfl := Option.some.inj H
                                                          exact absurd K.1 (by decide)
                                                      · rw [if_neg q191] at H
                                                        by_cases q197 : (v2 &&& 63) = 26
                                                        · rw [if_pos q197] at H
                                                          refine st_tsw g dL_law_33 (tgt := 1004) q197 (by decide) (by decide) rfl (by decide) ?_
                                                          refine st_aload_n g dL_law_1004 rfl ?_
                                                          refine st_aload_n g dL_law_1005 rfl ?_
                                                          refine st_iload_n g dL_law_1006 rfl ?_
                                                          refine st_iconst g dL_law_1007 ic_1 ?_
                                                          refine st_iadd g dL_law_1008 ?_
                                                          refine st_sald g gs dL_law_1009 H (fun v198 H => ?_)
                                                          obtain ⟨r199, hr199, H⟩ := bind_some H
                                                          refine st_callVI g (as := [.int v198]) dL_law_1010 rfl rfl ml_L_122 mf_X7_slam rfl (Nat.le_of_ble_eq_true rfl) (Nat.le_of_ble_eq_true rfl) (c_X7_slam v198 s.2 _ hr199) (fun hz => ?_)
                                                          refine st_aload_n g dL_law_1013 rfl ?_
                                                          refine st_aload_n g dL_law_1014 rfl ?_
                                                          refine st_iload_n g dL_law_1015 rfl ?_
                                                          refine st_iconst g dL_law_1016 ic_1 ?_
                                                          refine st_iadd g dL_law_1017 ?_
                                                          refine st_sald g gs dL_law_1018 H (fun v200 H => ?_)
                                                          obtain ⟨r201, hr201, H⟩ := bind_some H
                                                          refine st_callVI g (as := [.int v200]) dL_law_1019 rfl rfl ml_L_125 mf_X8_slam rfl (Nat.le_of_ble_eq_true rfl) (Nat.le_of_ble_eq_true rfl) (c_X8_slam v200 r199.2 _ hr201) (fun hz => ?_)
                                                          refine st_ic_eq g dL_law_1022 (tgt := 1493) (by decide) H (fun q202 H => ?_) (fun q202 H => ?_)
                                                          · refine st_iinc g dL_law_1493 rfl (ii_6 _) (Nat.le_of_ble_eq_true rfl) rfl (ls2 := [.ref 94, .ref 0, .ref 53, .int (s.1 + 6)]) rfl ?_
                                                            refine st_goto g dL_law_1496 (tgt := 18) (by decide) ?_
                                                            obtain rfl := Option.some.inj H
                                                            exact K
                                                          · refine st_iconst g dL_law_1025 ic_0 ?_
                                                            obtain rfl := Option.some.inj H
                                                            exact absurd K.1 (by decide)
                                                        · rw [if_neg q197] at H
                                                          by_cases q203 : (v2 &&& 63) = 27
                                                          · rw [if_pos q203] at H
                                                            refine st_tsw g dL_law_33 (tgt := 1027) q203 (by decide) (by decide) rfl (by decide) ?_
                                                            refine st_aload_n g dL_law_1027 rfl ?_
                                                            refine st_aload_n g dL_law_1028 rfl ?_
                                                            refine st_iload_n g dL_law_1029 rfl ?_
                                                            refine st_iconst g dL_law_1030 ic_1 ?_
                                                            refine st_iadd g dL_law_1031 ?_
                                                            refine st_sald g gs dL_law_1032 H (fun v204 H => ?_)
                                                            obtain ⟨r205, hr205, H⟩ := bind_some H
                                                            refine st_callVI g (as := [.int v204]) dL_law_1033 rfl rfl ml_L_126 mf_X7_led rfl (Nat.le_of_ble_eq_true rfl) (Nat.le_of_ble_eq_true rfl) (c_X7_led v204 s.2 _ hr205) (fun hz => ?_)
                                                            refine st_aload_n g dL_law_1036 rfl ?_
                                                            refine st_aload_n g dL_law_1037 rfl ?_
                                                            refine st_iload_n g dL_law_1038 rfl ?_
                                                            refine st_iconst g dL_law_1039 ic_1 ?_
                                                            refine st_iadd g dL_law_1040 ?_
                                                            refine st_sald g gs dL_law_1041 H (fun v206 H => ?_)
                                                            obtain ⟨r207, hr207, H⟩ := bind_some H
                                                            refine st_callVI g (as := [.int v206]) dL_law_1042 rfl rfl ml_L_129 mf_X8_led rfl (Nat.le_of_ble_eq_true rfl) (Nat.le_of_ble_eq_true rfl) (c_X8_led v206 s.2 _ hr207) (fun hz => ?_)
                                                            refine st_ic_eq g dL_law_1045 (tgt := 1493) (by decide) H (fun q208 H => ?_) (fun q208 H => ?_)
                                                            · refine st_iinc g dL_law_1493 rfl (ii_6 _) (Nat.le_of_ble_eq_true rfl) rfl (ls2 := [.ref 94, .ref 0, .ref 53, .int (s.1 + 6)]) rfl ?_
                                                              refine st_goto g dL_law_1496 (tgt := 18) (by decide) ?_
                                                              obtain rfl := Option.some.inj H
                                                              exact K
                                                            · refine st_iconst g dL_law_1048 ic_0 ?_
                                                              obtain rfl := Option.some.inj H
                                                              exact absurd K.1 (by decide)
                                                          · rw [if_neg q203] at H
                                                            by_cases q209 : (v2 &&& 63) = 28
                                                            · rw [if_pos q209] at H
                                                              refine st_tsw g dL_law_33 (tgt := 1050) q209 (by decide) (by decide) rfl (by decide) ?_
                                                              refine st_aload_n g dL_law_1050 rfl ?_
                                                              obtain ⟨r210, hr210, H⟩ := bind_some H
                                                              refine st_callVI g (as := []) dL_law_1051 rfl rfl ml_L_130 mf_X7_image rfl (Nat.le_of_ble_eq_true rfl) (Nat.le_of_ble_eq_true rfl) (c_X7_image s.2 _ hr210) (fun hz => ?_)
                                                              refine st_aload_n g dL_law_1054 rfl ?_
                                                              obtain ⟨r211, hr211, H⟩ := bind_some H
                                                              refine st_callVI g (as := []) dL_law_1055 rfl rfl ml_L_133 mf_X8_image rfl (Nat.le_of_ble_eq_true rfl) (Nat.le_of_ble_eq_true rfl) (c_X8_image r210.2 _ hr211) (fun hz => ?_)
                                                              refine st_ic_eq g dL_law_1058 (tgt := 1493) (by decide) H (fun q212 H => ?_) (fun q212 H => ?_)
                                                              · refine st_iinc g dL_law_1493 rfl (ii_6 _) (Nat.le_of_ble_eq_true rfl) rfl (ls2 := [.ref 94, .ref 0, .ref 53, .int (s.1 + 6)]) rfl ?_
                                                                refine st_goto g dL_law_1496 (tgt := 18) (by decide) ?_
                                                                obtain rfl := Option.some.inj H
                                                                exact K
                                                              · refine st_iconst g dL_law_1061 ic_0 ?_
                                                                obtain rfl := Option.some.inj H
                                                                exact absurd K.1 (by decide)
                                                            · rw [if_neg q209] at H
                                                              by_cases q213 : (v2 &&& 63) = 29
                                                              · rw [if_pos q213] at H
                                                                refine st_tsw g dL_law_33 (tgt := 1063) q213 (by decide) (by decide) rfl (by decide) ?_
                                                                refine st_aload_n g dL_law_1063 rfl ?_
                                                                obtain ⟨r214, hr214, H⟩ := bind_some H
                                                                refine st_callVI g (as := []) dL_law_1064 rfl rfl ml_L_134 mf_X7_back rfl (Nat.le_of_ble_eq_true rfl) (Nat.le_of_ble_eq_true rfl) (c_X7_back s.2 _ hr214) (fun hz => ?_)
                                                                refine st_aload_n g dL_law_1067 rfl ?_
                                                                obtain ⟨r215, hr215, H⟩ := bind_some H
                                                                refine st_callVI g (as := []) dL_law_1068 rfl rfl ml_L_137 mf_X8_back rfl (Nat.le_of_ble_eq_true rfl) (Nat.le_of_ble_eq_true rfl) (c_X8_back r214.2 _ hr215) (fun hz => ?_)
                                                                refine st_ic_eq g dL_law_1071 (tgt := 1493) (by decide) H (fun q216 H => ?_) (fun q216 H => ?_)
                                                                · refine st_iinc g dL_law_1493 rfl (ii_6 _) (Nat.le_of_ble_eq_true rfl) rfl (ls2 := [.ref 94, .ref 0, .ref 53, .int (s.1 + 6)]) rfl ?_
                                                                  refine st_goto g dL_law_1496 (tgt := 18) (by decide) ?_
                                                                  obtain rfl := Option.some.inj H
                                                                  exact K
                                                                · refine st_iconst g dL_law_1074 ic_0 ?_
                                                                  obtain rfl := Option.some.inj H
                                                                  exact absurd K.1 (by decide)
                                                              · rw [if_neg q213] at H
                                                                by_cases q217 : (v2 &&& 63) = 30
                                                                · rw [if_pos q217] at H
                                                                  refine st_tsw g dL_law_33 (tgt := 1076) q217 (by decide) (by decide) rfl (by decide) ?_
                                                                  refine st_aload_n g dL_law_1076 rfl ?_
                                                                  obtain ⟨r218, hr218, H⟩ := bind_some H
                                                                  refine st_callVI g (as := []) dL_law_1077 rfl rfl ml_L_138 mf_X7_undo rfl (Nat.le_of_ble_eq_true rfl) (Nat.le_of_ble_eq_true rfl) (c_X7_undo s.2 _ hr218) (fun hz => ?_)
                                                                  refine st_aload_n g dL_law_1080 rfl ?_
                                                                  obtain ⟨r219, hr219, H⟩ := bind_some H
                                                                  refine st_callVI g (as := []) dL_law_1081 rfl rfl ml_L_141 mf_X8_undo rfl (Nat.le_of_ble_eq_true rfl) (Nat.le_of_ble_eq_true rfl) (c_X8_undo r218.2 _ hr219) (fun hz => ?_)
                                                                  refine st_ic_eq g dL_law_1084 (tgt := 1493) (by decide) H (fun q220 H => ?_) (fun q220 H => ?_)
                                                                  · refine st_iinc g dL_law_1493 rfl (ii_6 _) (Nat.le_of_ble_eq_true rfl) rfl (ls2 := [.ref 94, .ref 0, .ref 53, .int (s.1 + 6)]) rfl ?_
                                                                    refine st_goto g dL_law_1496 (tgt := 18) (by decide) ?_
                                                                    obtain rfl := Option.some.inj H
                                                                    exact K
                                                                  · refine st_iconst g dL_law_1087 ic_0 ?_
                                                                    obtain rfl := Option.some.inj H
                                                                    exact absurd K.1 (by decide)
                                                                · rw [if_neg q217] at H
                                                                  by_cases q221 : (v2 &&& 63) = 31
                                                                  · rw [if_pos q221] at H
                                                                    refine st_tsw g dL_law_33 (tgt := 1089) q221 (by decide) (by decide) rfl (by decide) ?_
                                                                    refine st_aload_n g dL_law_1089 rfl ?_
                                                                    obtain ⟨r222, hr222, H⟩ := bind_some H
                                                                    refine st_callVI g (as := []) dL_law_1090 rfl rfl ml_L_142 mf_X7_redo rfl (Nat.le_of_ble_eq_true rfl) (Nat.le_of_ble_eq_true rfl) (c_X7_redo s.2 _ hr222) (fun hz => ?_)
                                                                    refine st_aload_n g dL_law_1093 rfl ?_
                                                                    obtain ⟨r223, hr223, H⟩ := bind_some H
                                                                    refine st_callVI g (as := []) dL_law_1094 rfl rfl ml_L_145 mf_X8_redo rfl (Nat.le_of_ble_eq_true rfl) (Nat.le_of_ble_eq_true rfl) (c_X8_redo r222.2 _ hr223) (fun hz => ?_)
                                                                    refine st_ic_eq g dL_law_1097 (tgt := 1493) (by decide) H (fun q224 H => ?_) (fun q224 H => ?_)
                                                                    · refine st_iinc g dL_law_1493 rfl (ii_6 _) (Nat.le_of_ble_eq_true rfl) rfl (ls2 := [.ref 94, .ref 0, .ref 53, .int (s.1 + 6)]) rfl ?_
                                                                      refine st_goto g dL_law_1496 (tgt := 18) (by decide) ?_
                                                                      obtain rfl := Option.some.inj H
                                                                      exact K
                                                                    · refine st_iconst g dL_law_1100 ic_0 ?_
                                                                      obtain rfl := Option.some.inj H
                                                                      exact absurd K.1 (by decide)
                                                                  · rw [if_neg q221] at H
                                                                    by_cases q225 : (v2 &&& 63) = 32
                                                                    · rw [if_pos q225] at H
                                                                      refine st_tsw g dL_law_33 (tgt := 1102) q225 (by decide) (by decide) rfl (by decide) ?_
                                                                      refine st_aload_n g dL_law_1102 rfl ?_
                                                                      refine st_aload_n g dL_law_1103 rfl ?_
                                                                      refine st_iload_n g dL_law_1104 rfl ?_
                                                                      refine st_iconst g dL_law_1105 ic_1 ?_
                                                                      refine st_iadd g dL_law_1106 ?_
                                                                      refine st_sald g gs dL_law_1107 H (fun v226 H => ?_)
                                                                      obtain ⟨r227, hr227, H⟩ := bind_some H
                                                                      refine st_callVI g (as := [.int v226]) dL_law_1108 rfl rfl ml_L_146 mf_X7_body rfl (Nat.le_of_ble_eq_true rfl) (Nat.le_of_ble_eq_true rfl) (c_X7_body v226 s.2 _ hr227) (fun hz => ?_)
                                                                      refine st_aload_n g dL_law_1111 rfl ?_
                                                                      refine st_aload_n g dL_law_1112 rfl ?_
                                                                      refine st_iload_n g dL_law_1113 rfl ?_
                                                                      refine st_iconst g dL_law_1114 ic_1 ?_
                                                                      refine st_iadd g dL_law_1115 ?_
                                                                      refine st_sald g gs dL_law_1116 H (fun v228 H => ?_)
                                                                      obtain ⟨r229, hr229, H⟩ := bind_some H
                                                                      refine st_callVI g (as := [.int v228]) dL_law_1117 rfl rfl ml_L_149 mf_X8_body rfl (Nat.le_of_ble_eq_true rfl) (Nat.le_of_ble_eq_true rfl) (c_X8_body v228 r227.2 _ hr229) (fun hz => ?_)
                                                                      refine st_ic_eq g dL_law_1120 (tgt := 1493) (by decide) H (fun q230 H => ?_) (fun q230 H => ?_)
                                                                      · refine st_iinc g dL_law_1493 rfl (ii_6 _) (Nat.le_of_ble_eq_true rfl) rfl (ls2 := [.ref 94, .ref 0, .ref 53, .int (s.1 + 6)]) rfl ?_
                                                                        refine st_goto g dL_law_1496 (tgt := 18) (by decide) ?_
                                                                        obtain rfl := Option.some.inj H
                                                                        exact K
                                                                      · refine st_iconst g dL_law_1123 ic_0 ?_
                                                                        obtain rfl := Option.some.inj H
                                                                        exact absurd K.1 (by decide)
                                                                    · rw [if_neg q225] at H
                                                                      by_cases q231 : (v2 &&& 63) = 33
                                                                      · rw [if_pos q231] at H
                                                                        refine st_tsw g dL_law_33 (tgt := 1125) q231 (by decide) (by decide) rfl (by decide) ?_
                                                                        refine st_aload_n g dL_law_1125 rfl ?_
                                                                        refine st_aload_n g dL_law_1126 rfl ?_
                                                                        refine st_iload_n g dL_law_1127 rfl ?_
                                                                        refine st_iconst g dL_law_1128 ic_1 ?_
                                                                        refine st_iadd g dL_law_1129 ?_
                                                                        refine st_sald g gs dL_law_1130 H (fun v232 H => ?_)
                                                                        refine st_aload_n g dL_law_1131 rfl ?_
                                                                        refine st_iload_n g dL_law_1132 rfl ?_
                                                                        refine st_iconst g dL_law_1133 ic_2 ?_
                                                                        refine st_iadd g dL_law_1134 ?_
                                                                        refine st_sald g gs dL_law_1135 H (fun v233 H => ?_)
                                                                        refine st_aload_n g dL_law_1136 rfl ?_
                                                                        refine st_iload_n g dL_law_1137 rfl ?_
                                                                        refine st_iconst g dL_law_1138 ic_3 ?_
                                                                        refine st_iadd g dL_law_1139 ?_
                                                                        refine st_sald g gs dL_law_1140 H (fun v234 H => ?_)
                                                                        obtain ⟨r235, hr235, H⟩ := bind_some H
                                                                        refine st_callVI g (as := [.int v232, .int v233, .int v234]) dL_law_1141 rfl rfl ml_L_150 mf_X7_act rfl (Nat.le_of_ble_eq_true rfl) (Nat.le_of_ble_eq_true rfl) (c_X7_act v232 v233 v234 s.2 _ hr235) (fun hz => ?_)
                                                                        refine st_aload_n g dL_law_1144 rfl ?_
                                                                        refine st_aload_n g dL_law_1145 rfl ?_
                                                                        refine st_iload_n g dL_law_1146 rfl ?_
                                                                        refine st_iconst g dL_law_1147 ic_1 ?_
                                                                        refine st_iadd g dL_law_1148 ?_
                                                                        refine st_sald g gs dL_law_1149 H (fun v236 H => ?_)
                                                                        refine st_aload_n g dL_law_1150 rfl ?_
                                                                        refine st_iload_n g dL_law_1151 rfl ?_
                                                                        refine st_iconst g dL_law_1152 ic_2 ?_
                                                                        refine st_iadd g dL_law_1153 ?_
                                                                        refine st_sald g gs dL_law_1154 H (fun v237 H => ?_)
                                                                        refine st_aload_n g dL_law_1155 rfl ?_
                                                                        refine st_iload_n g dL_law_1156 rfl ?_
                                                                        refine st_iconst g dL_law_1157 ic_3 ?_
                                                                        refine st_iadd g dL_law_1158 ?_
                                                                        refine st_sald g gs dL_law_1159 H (fun v238 H => ?_)
                                                                        obtain ⟨r239, hr239, H⟩ := bind_some H
                                                                        refine st_callVI g (as := [.int v236, .int v237, .int v238]) dL_law_1160 rfl rfl ml_L_153 mf_X8_act rfl (Nat.le_of_ble_eq_true rfl) (Nat.le_of_ble_eq_true rfl) (c_X8_act v236 v237 v238 r235.2 _ hr239) (fun hz => ?_)
                                                                        refine st_ic_eq g dL_law_1163 (tgt := 1493) (by decide) H (fun q240 H => ?_) (fun q240 H => ?_)
                                                                        · refine st_iinc g dL_law_1493 rfl (ii_6 _) (Nat.le_of_ble_eq_true rfl) rfl (ls2 := [.ref 94, .ref 0, .ref 53, .int (s.1 + 6)]) rfl ?_
                                                                          refine st_goto g dL_law_1496 (tgt := 18) (by decide) ?_
                                                                          obtain rfl := Option.some.inj H
                                                                          exact K
                                                                        · refine st_iconst g dL_law_1166 ic_0 ?_
                                                                          obtain rfl := Option.some.inj H
                                                                          exact absurd K.1 (by decide)
                                                                      · rw [if_neg q231] at H
                                                                        by_cases q241 : (v2 &&& 63) = 34
                                                                        · rw [if_pos q241] at H
                                                                          refine st_tsw g dL_law_33 (tgt := 1168) q241 (by decide) (by decide) rfl (by decide) ?_
                                                                          refine st_aload_n g dL_law_1168 rfl ?_
                                                                          refine st_aload_n g dL_law_1169 rfl ?_
                                                                          refine st_iload_n g dL_law_1170 rfl ?_
                                                                          refine st_iconst g dL_law_1171 ic_1 ?_
                                                                          refine st_iadd g dL_law_1172 ?_
                                                                          refine st_sald g gs dL_law_1173 H (fun v242 H => ?_)
                                                                          obtain ⟨r243, hr243, H⟩ := bind_some H
                                                                          refine st_callVI g (as := [.int v242]) dL_law_1174 rfl rfl ml_L_154 mf_X7_trace rfl (Nat.le_of_ble_eq_true rfl) (Nat.le_of_ble_eq_true rfl) (c_X7_trace v242 s.2 _ hr243) (fun hz => ?_)
                                                                          refine st_aload_n g dL_law_1177 rfl ?_
                                                                          refine st_aload_n g dL_law_1178 rfl ?_
                                                                          refine st_iload_n g dL_law_1179 rfl ?_
                                                                          refine st_iconst g dL_law_1180 ic_1 ?_
                                                                          refine st_iadd g dL_law_1181 ?_
                                                                          refine st_sald g gs dL_law_1182 H (fun v244 H => ?_)
                                                                          obtain ⟨r245, hr245, H⟩ := bind_some H
                                                                          refine st_callVI g (as := [.int v244]) dL_law_1183 rfl rfl ml_L_157 mf_X8_trace rfl (Nat.le_of_ble_eq_true rfl) (Nat.le_of_ble_eq_true rfl) (c_X8_trace v244 s.2 _ hr245) (fun hz => ?_)
                                                                          refine st_ic_eq g dL_law_1186 (tgt := 1493) (by decide) H (fun q246 H => ?_) (fun q246 H => ?_)
                                                                          · refine st_iinc g dL_law_1493 rfl (ii_6 _) (Nat.le_of_ble_eq_true rfl) rfl (ls2 := [.ref 94, .ref 0, .ref 53, .int (s.1 + 6)]) rfl ?_
                                                                            refine st_goto g dL_law_1496 (tgt := 18) (by decide) ?_
                                                                            obtain rfl := Option.some.inj H
                                                                            exact K
                                                                          · refine st_iconst g dL_law_1189 ic_0 ?_
                                                                            obtain rfl := Option.some.inj H
                                                                            exact absurd K.1 (by decide)
                                                                        · rw [if_neg q241] at H
                                                                          by_cases q247 : (v2 &&& 63) = 35
                                                                          · rw [if_pos q247] at H
                                                                            refine st_tsw g dL_law_33 (tgt := 1191) q247 (by decide) (by decide) rfl (by decide) ?_
                                                                            refine st_aload_n g dL_law_1191 rfl ?_
                                                                            refine st_aload_n g dL_law_1192 rfl ?_
                                                                            refine st_iload_n g dL_law_1193 rfl ?_
                                                                            refine st_iconst g dL_law_1194 ic_1 ?_
                                                                            refine st_iadd g dL_law_1195 ?_
                                                                            refine st_sald g gs dL_law_1196 H (fun v248 H => ?_)
                                                                            refine st_aload_n g dL_law_1197 rfl ?_
                                                                            refine st_iload_n g dL_law_1198 rfl ?_
                                                                            refine st_iconst g dL_law_1199 ic_2 ?_
                                                                            refine st_iadd g dL_law_1200 ?_
                                                                            refine st_sald g gs dL_law_1201 H (fun v249 H => ?_)
                                                                            obtain ⟨r250, hr250, H⟩ := bind_some H
                                                                            refine st_callVI g (as := [.int v248, .int v249]) dL_law_1202 rfl rfl ml_L_158 mf_X7_keep rfl (Nat.le_of_ble_eq_true rfl) (Nat.le_of_ble_eq_true rfl) (c_X7_keep v248 v249 s.2 _ hr250) (fun hz => ?_)
                                                                            refine st_aload_n g dL_law_1205 rfl ?_
                                                                            refine st_aload_n g dL_law_1206 rfl ?_
                                                                            refine st_iload_n g dL_law_1207 rfl ?_
                                                                            refine st_iconst g dL_law_1208 ic_1 ?_
                                                                            refine st_iadd g dL_law_1209 ?_
                                                                            refine st_sald g gs dL_law_1210 H (fun v251 H => ?_)
                                                                            refine st_aload_n g dL_law_1211 rfl ?_
                                                                            refine st_iload_n g dL_law_1212 rfl ?_
                                                                            refine st_iconst g dL_law_1213 ic_2 ?_
                                                                            refine st_iadd g dL_law_1214 ?_
                                                                            refine st_sald g gs dL_law_1215 H (fun v252 H => ?_)
                                                                            obtain ⟨r253, hr253, H⟩ := bind_some H
                                                                            refine st_callVI g (as := [.int v251, .int v252]) dL_law_1216 rfl rfl ml_L_161 mf_X8_keep rfl (Nat.le_of_ble_eq_true rfl) (Nat.le_of_ble_eq_true rfl) (c_X8_keep v251 v252 r250.2 _ hr253) (fun hz => ?_)
                                                                            refine st_ic_eq g dL_law_1219 (tgt := 1493) (by decide) H (fun q254 H => ?_) (fun q254 H => ?_)
                                                                            · refine st_iinc g dL_law_1493 rfl (ii_6 _) (Nat.le_of_ble_eq_true rfl) rfl (ls2 := [.ref 94, .ref 0, .ref 53, .int (s.1 + 6)]) rfl ?_
                                                                              refine st_goto g dL_law_1496 (tgt := 18) (by decide) ?_
                                                                              obtain rfl := Option.some.inj H
                                                                              exact K
                                                                            · refine st_iconst g dL_law_1222 ic_0 ?_
                                                                              obtain rfl := Option.some.inj H
                                                                              exact absurd K.1 (by decide)
                                                                          · rw [if_neg q247] at H
                                                                            by_cases q255 : (v2 &&& 63) = 36
                                                                            · rw [if_pos q255] at H
                                                                              refine st_tsw g dL_law_33 (tgt := 1224) q255 (by decide) (by decide) rfl (by decide) ?_
                                                                              refine st_aload_n g dL_law_1224 rfl ?_
                                                                              refine st_aload_n g dL_law_1225 rfl ?_
                                                                              refine st_iload_n g dL_law_1226 rfl ?_
                                                                              refine st_iconst g dL_law_1227 ic_1 ?_
                                                                              refine st_iadd g dL_law_1228 ?_
                                                                              refine st_sald g gs dL_law_1229 H (fun v256 H => ?_)
                                                                              refine st_aload_n g dL_law_1230 rfl ?_
                                                                              refine st_iload_n g dL_law_1231 rfl ?_
                                                                              refine st_iconst g dL_law_1232 ic_2 ?_
                                                                              refine st_iadd g dL_law_1233 ?_
                                                                              refine st_sald g gs dL_law_1234 H (fun v257 H => ?_)
                                                                              refine st_aload_n g dL_law_1235 rfl ?_
                                                                              refine st_iload_n g dL_law_1236 rfl ?_
                                                                              refine st_iconst g dL_law_1237 ic_3 ?_
                                                                              refine st_iadd g dL_law_1238 ?_
                                                                              refine st_sald g gs dL_law_1239 H (fun v258 H => ?_)
                                                                              obtain ⟨r259, hr259, H⟩ := bind_some H
                                                                              refine st_callVI g (as := [.int v256, .int v257, .int v258]) dL_law_1240 rfl rfl ml_L_162 mf_X7_row rfl (Nat.le_of_ble_eq_true rfl) (Nat.le_of_ble_eq_true rfl) (c_X7_row v256 v257 v258 s.2 _ hr259) (fun hz => ?_)
                                                                              refine st_aload_n g dL_law_1243 rfl ?_
                                                                              refine st_aload_n g dL_law_1244 rfl ?_
                                                                              refine st_iload_n g dL_law_1245 rfl ?_
                                                                              refine st_iconst g dL_law_1246 ic_1 ?_
                                                                              refine st_iadd g dL_law_1247 ?_
                                                                              refine st_sald g gs dL_law_1248 H (fun v260 H => ?_)
                                                                              refine st_aload_n g dL_law_1249 rfl ?_
                                                                              refine st_iload_n g dL_law_1250 rfl ?_
                                                                              refine st_iconst g dL_law_1251 ic_2 ?_
                                                                              refine st_iadd g dL_law_1252 ?_
                                                                              refine st_sald g gs dL_law_1253 H (fun v261 H => ?_)
                                                                              refine st_aload_n g dL_law_1254 rfl ?_
                                                                              refine st_iload_n g dL_law_1255 rfl ?_
                                                                              refine st_iconst g dL_law_1256 ic_3 ?_
                                                                              refine st_iadd g dL_law_1257 ?_
                                                                              refine st_sald g gs dL_law_1258 H (fun v262 H => ?_)
                                                                              obtain ⟨r263, hr263, H⟩ := bind_some H
                                                                              refine st_callVI g (as := [.int v260, .int v261, .int v262]) dL_law_1259 rfl rfl ml_L_165 mf_X8_row rfl (Nat.le_of_ble_eq_true rfl) (Nat.le_of_ble_eq_true rfl) (c_X8_row v260 v261 v262 r259.2 _ hr263) (fun hz => ?_)
                                                                              refine st_ic_eq g dL_law_1262 (tgt := 1493) (by decide) H (fun q264 H => ?_) (fun q264 H => ?_)
                                                                              · refine st_iinc g dL_law_1493 rfl (ii_6 _) (Nat.le_of_ble_eq_true rfl) rfl (ls2 := [.ref 94, .ref 0, .ref 53, .int (s.1 + 6)]) rfl ?_
                                                                                refine st_goto g dL_law_1496 (tgt := 18) (by decide) ?_
                                                                                obtain rfl := Option.some.inj H
                                                                                exact K
                                                                              · refine st_iconst g dL_law_1265 ic_0 ?_
                                                                                obtain rfl := Option.some.inj H
                                                                                exact absurd K.1 (by decide)
                                                                            · rw [if_neg q255] at H
                                                                              by_cases q265 : (v2 &&& 63) = 37
                                                                              · rw [if_pos q265] at H
                                                                                refine st_tsw g dL_law_33 (tgt := 1267) q265 (by decide) (by decide) rfl (by decide) ?_
                                                                                refine st_aload_n g dL_law_1267 rfl ?_
                                                                                refine st_aload_n g dL_law_1268 rfl ?_
                                                                                refine st_iload_n g dL_law_1269 rfl ?_
                                                                                refine st_iconst g dL_law_1270 ic_1 ?_
                                                                                refine st_iadd g dL_law_1271 ?_
                                                                                refine st_sald g gs dL_law_1272 H (fun v266 H => ?_)
                                                                                refine st_aload_n g dL_law_1273 rfl ?_
                                                                                refine st_iload_n g dL_law_1274 rfl ?_
                                                                                refine st_iconst g dL_law_1275 ic_2 ?_
                                                                                refine st_iadd g dL_law_1276 ?_
                                                                                refine st_sald g gs dL_law_1277 H (fun v267 H => ?_)
                                                                                refine st_aload_n g dL_law_1278 rfl ?_
                                                                                refine st_iload_n g dL_law_1279 rfl ?_
                                                                                refine st_iconst g dL_law_1280 ic_3 ?_
                                                                                refine st_iadd g dL_law_1281 ?_
                                                                                refine st_sald g gs dL_law_1282 H (fun v268 H => ?_)
                                                                                refine st_i2l g dL_law_1283 ?_
                                                                                refine st_bipush g dL_law_1284 bi_32 ?_
                                                                                refine st_lshl g dL_law_1286 ?_
                                                                                refine st_aload_n g dL_law_1287 rfl ?_
                                                                                refine st_iload_n g dL_law_1288 rfl ?_
                                                                                refine st_iconst g dL_law_1289 ic_4 ?_
                                                                                refine st_iadd g dL_law_1290 ?_
                                                                                refine st_sald g gs dL_law_1291 H (fun v269 H => ?_)
                                                                                refine st_i2l g dL_law_1292 ?_
                                                                                refine st_ldc2 g dL_law_1293 kn_L_166 ?_
                                                                                refine st_land g dL_law_1296 ?_
                                                                                refine st_lor g dL_law_1297 ?_
                                                                                obtain ⟨r270, hr270, H⟩ := bind_some H
                                                                                refine st_callVI g (as := [.int v266, .int v267, .long ((v268.toInt64 <<< (((32 : Int32)).toInt64 &&& 63)) ||| (v269.toInt64 &&& 4294967295))]) dL_law_1298 rfl rfl ml_L_168 mf_X7_put rfl (Nat.le_of_ble_eq_true rfl) (Nat.le_of_ble_eq_true rfl) (c_X7_put v266 v267 ((v268.toInt64 <<< (((32 : Int32)).toInt64 &&& 63)) ||| (v269.toInt64 &&& 4294967295)) s.2 _ hr270) (fun hz => ?_)
                                                                                refine st_aload_n g dL_law_1301 rfl ?_
                                                                                refine st_aload_n g dL_law_1302 rfl ?_
                                                                                refine st_iload_n g dL_law_1303 rfl ?_
                                                                                refine st_iconst g dL_law_1304 ic_1 ?_
                                                                                refine st_iadd g dL_law_1305 ?_
                                                                                refine st_sald g gs dL_law_1306 H (fun v271 H => ?_)
                                                                                refine st_aload_n g dL_law_1307 rfl ?_
                                                                                refine st_iload_n g dL_law_1308 rfl ?_
                                                                                refine st_iconst g dL_law_1309 ic_2 ?_
                                                                                refine st_iadd g dL_law_1310 ?_
                                                                                refine st_sald g gs dL_law_1311 H (fun v272 H => ?_)
                                                                                refine st_aload_n g dL_law_1312 rfl ?_
                                                                                refine st_iload_n g dL_law_1313 rfl ?_
                                                                                refine st_iconst g dL_law_1314 ic_3 ?_
                                                                                refine st_iadd g dL_law_1315 ?_
                                                                                refine st_sald g gs dL_law_1316 H (fun v273 H => ?_)
                                                                                refine st_i2l g dL_law_1317 ?_
                                                                                refine st_bipush g dL_law_1318 bi_32 ?_
                                                                                refine st_lshl g dL_law_1320 ?_
                                                                                refine st_aload_n g dL_law_1321 rfl ?_
                                                                                refine st_iload_n g dL_law_1322 rfl ?_
                                                                                refine st_iconst g dL_law_1323 ic_4 ?_
                                                                                refine st_iadd g dL_law_1324 ?_
                                                                                refine st_sald g gs dL_law_1325 H (fun v274 H => ?_)
                                                                                refine st_i2l g dL_law_1326 ?_
                                                                                refine st_ldc2 g dL_law_1327 kn_L_166 ?_
                                                                                refine st_land g dL_law_1330 ?_
                                                                                refine st_lor g dL_law_1331 ?_
                                                                                obtain ⟨r275, hr275, H⟩ := bind_some H
                                                                                refine st_callVI g (as := [.int v271, .int v272, .long ((v273.toInt64 <<< (((32 : Int32)).toInt64 &&& 63)) ||| (v274.toInt64 &&& 4294967295))]) dL_law_1332 rfl rfl ml_L_172 mf_X8_put rfl (Nat.le_of_ble_eq_true rfl) (Nat.le_of_ble_eq_true rfl) (c_X8_put v271 v272 ((v273.toInt64 <<< (((32 : Int32)).toInt64 &&& 63)) ||| (v274.toInt64 &&& 4294967295)) r270.2 _ hr275) (fun hz => ?_)
                                                                                refine st_ic_eq g dL_law_1335 (tgt := 1493) (by decide) H (fun q276 H => ?_) (fun q276 H => ?_)
                                                                                · refine st_iinc g dL_law_1493 rfl (ii_6 _) (Nat.le_of_ble_eq_true rfl) rfl (ls2 := [.ref 94, .ref 0, .ref 53, .int (s.1 + 6)]) rfl ?_
                                                                                  refine st_goto g dL_law_1496 (tgt := 18) (by decide) ?_
                                                                                  obtain rfl := Option.some.inj H
                                                                                  exact K
                                                                                · refine st_iconst g dL_law_1338 ic_0 ?_
                                                                                  obtain rfl := Option.some.inj H
                                                                                  exact absurd K.1 (by decide)
                                                                              · rw [if_neg q265] at H
                                                                                by_cases q277 : (v2 &&& 63) = 38
                                                                                · rw [if_pos q277] at H
                                                                                  refine st_tsw g dL_law_33 (tgt := 1340) q277 (by decide) (by decide) rfl (by decide) ?_
                                                                                  refine st_aload_n g dL_law_1340 rfl ?_
                                                                                  refine st_aload_n g dL_law_1341 rfl ?_
                                                                                  refine st_iload_n g dL_law_1342 rfl ?_
                                                                                  refine st_iconst g dL_law_1343 ic_1 ?_
                                                                                  refine st_iadd g dL_law_1344 ?_
                                                                                  refine st_sald g gs dL_law_1345 H (fun v278 H => ?_)
                                                                                  refine st_aload_n g dL_law_1346 rfl ?_
                                                                                  refine st_iload_n g dL_law_1347 rfl ?_
                                                                                  refine st_iconst g dL_law_1348 ic_2 ?_
                                                                                  refine st_iadd g dL_law_1349 ?_
                                                                                  refine st_sald g gs dL_law_1350 H (fun v279 H => ?_)
                                                                                  obtain ⟨r280, hr280, H⟩ := bind_some H
                                                                                  refine st_callVL g (as := [.int v278, .int v279]) dL_law_1351 rfl rfl ml_L_173 mf_X7_element rfl (Nat.le_of_ble_eq_true rfl) (Nat.le_of_ble_eq_true rfl) (c_X7_element v278 v279 s.2 _ hr280) ?_
                                                                                  refine st_aload_n g dL_law_1354 rfl ?_
                                                                                  refine st_aload_n g dL_law_1355 rfl ?_
                                                                                  refine st_iload_n g dL_law_1356 rfl ?_
                                                                                  refine st_iconst g dL_law_1357 ic_1 ?_
                                                                                  refine st_iadd g dL_law_1358 ?_
                                                                                  refine st_sald g gs dL_law_1359 H (fun v281 H => ?_)
                                                                                  refine st_aload_n g dL_law_1360 rfl ?_
                                                                                  refine st_iload_n g dL_law_1361 rfl ?_
                                                                                  refine st_iconst g dL_law_1362 ic_2 ?_
                                                                                  refine st_iadd g dL_law_1363 ?_
                                                                                  refine st_sald g gs dL_law_1364 H (fun v282 H => ?_)
                                                                                  obtain ⟨r283, hr283, H⟩ := bind_some H
                                                                                  refine st_callVL g (as := [.int v281, .int v282]) dL_law_1365 rfl rfl ml_L_177 mf_X8_element rfl (Nat.le_of_ble_eq_true rfl) (Nat.le_of_ble_eq_true rfl) (c_X8_element v281 v282 s.2 _ hr283) ?_
                                                                                  refine st_lcmp g dL_law_1368 ?_
                                                                                  refine st_if_eq g dL_law_1369 (tgt := 1493) (by decide) H (fun q284 H => ?_) (fun q284 H => ?_)
                                                                                  · refine st_iinc g dL_law_1493 rfl (ii_6 _) (Nat.le_of_ble_eq_true rfl) rfl (ls2 := [.ref 94, .ref 0, .ref 53, .int (s.1 + 6)]) rfl ?_
                                                                                    refine st_goto g dL_law_1496 (tgt := 18) (by decide) ?_
                                                                                    obtain rfl := Option.some.inj H
                                                                                    exact K
                                                                                  · refine st_iconst g dL_law_1372 ic_0 ?_
                                                                                    obtain rfl := Option.some.inj H
                                                                                    exact absurd K.1 (by decide)
                                                                                · rw [if_neg q277] at H
                                                                                  by_cases q285 : (v2 &&& 63) = 39
                                                                                  · rw [if_pos q285] at H
                                                                                    refine st_tsw g dL_law_33 (tgt := 1374) q285 (by decide) (by decide) rfl (by decide) ?_
                                                                                    refine st_aload_n g dL_law_1374 rfl ?_
                                                                                    refine st_aload_n g dL_law_1375 rfl ?_
                                                                                    refine st_iload_n g dL_law_1376 rfl ?_
                                                                                    refine st_iconst g dL_law_1377 ic_1 ?_
                                                                                    refine st_iadd g dL_law_1378 ?_
                                                                                    refine st_sald g gs dL_law_1379 H (fun v286 H => ?_)
                                                                                    refine st_aload_n g dL_law_1380 rfl ?_
                                                                                    refine st_iload_n g dL_law_1381 rfl ?_
                                                                                    refine st_iconst g dL_law_1382 ic_2 ?_
                                                                                    refine st_iadd g dL_law_1383 ?_
                                                                                    refine st_sald g gs dL_law_1384 H (fun v287 H => ?_)
                                                                                    refine st_aload_n g dL_law_1385 rfl ?_
                                                                                    refine st_iload_n g dL_law_1386 rfl ?_
                                                                                    refine st_iconst g dL_law_1387 ic_3 ?_
                                                                                    refine st_iadd g dL_law_1388 ?_
                                                                                    refine st_sald g gs dL_law_1389 H (fun v288 H => ?_)
                                                                                    refine st_aload_n g dL_law_1390 rfl ?_
                                                                                    refine st_iload_n g dL_law_1391 rfl ?_
                                                                                    refine st_iconst g dL_law_1392 ic_4 ?_
                                                                                    refine st_iadd g dL_law_1393 ?_
                                                                                    refine st_sald g gs dL_law_1394 H (fun v289 H => ?_)
                                                                                    refine st_aload_n g dL_law_1395 rfl ?_
                                                                                    refine st_iload_n g dL_law_1396 rfl ?_
                                                                                    refine st_iconst g dL_law_1397 ic_5 ?_
                                                                                    refine st_iadd g dL_law_1398 ?_
                                                                                    refine st_sald g gs dL_law_1399 H (fun v290 H => ?_)
                                                                                    obtain ⟨r291, hr291, H⟩ := bind_some H
                                                                                    refine st_callVI g (as := [.int v286, .int v287, .int v288, .int v289, .int v290]) dL_law_1400 rfl rfl ml_L_178 mf_X7_shift rfl (Nat.le_of_ble_eq_true rfl) (Nat.le_of_ble_eq_true rfl) (c_X7_shift v286 v287 v288 v289 v290 s.2 _ hr291) (fun hz => ?_)
                                                                                    refine st_aload_n g dL_law_1403 rfl ?_
                                                                                    refine st_aload_n g dL_law_1404 rfl ?_
                                                                                    refine st_iload_n g dL_law_1405 rfl ?_
                                                                                    refine st_iconst g dL_law_1406 ic_1 ?_
                                                                                    refine st_iadd g dL_law_1407 ?_
                                                                                    refine st_sald g gs dL_law_1408 H (fun v292 H => ?_)
                                                                                    refine st_aload_n g dL_law_1409 rfl ?_
                                                                                    refine st_iload_n g dL_law_1410 rfl ?_
                                                                                    refine st_iconst g dL_law_1411 ic_2 ?_
                                                                                    refine st_iadd g dL_law_1412 ?_
                                                                                    refine st_sald g gs dL_law_1413 H (fun v293 H => ?_)
                                                                                    refine st_aload_n g dL_law_1414 rfl ?_
                                                                                    refine st_iload_n g dL_law_1415 rfl ?_
                                                                                    refine st_iconst g dL_law_1416 ic_3 ?_
                                                                                    refine st_iadd g dL_law_1417 ?_
                                                                                    refine st_sald g gs dL_law_1418 H (fun v294 H => ?_)
                                                                                    refine st_aload_n g dL_law_1419 rfl ?_
                                                                                    refine st_iload_n g dL_law_1420 rfl ?_
                                                                                    refine st_iconst g dL_law_1421 ic_4 ?_
                                                                                    refine st_iadd g dL_law_1422 ?_
                                                                                    refine st_sald g gs dL_law_1423 H (fun v295 H => ?_)
                                                                                    refine st_aload_n g dL_law_1424 rfl ?_
                                                                                    refine st_iload_n g dL_law_1425 rfl ?_
                                                                                    refine st_iconst g dL_law_1426 ic_5 ?_
                                                                                    refine st_iadd g dL_law_1427 ?_
                                                                                    refine st_sald g gs dL_law_1428 H (fun v296 H => ?_)
                                                                                    obtain ⟨r297, hr297, H⟩ := bind_some H
                                                                                    refine st_callVI g (as := [.int v292, .int v293, .int v294, .int v295, .int v296]) dL_law_1429 rfl rfl ml_L_182 mf_X8_shift rfl (Nat.le_of_ble_eq_true rfl) (Nat.le_of_ble_eq_true rfl) (c_X8_shift v292 v293 v294 v295 v296 r291.2 _ hr297) (fun hz => ?_)
                                                                                    refine st_ic_eq g dL_law_1432 (tgt := 1493) (by decide) H (fun q298 H => ?_) (fun q298 H => ?_)
                                                                                    · refine st_iinc g dL_law_1493 rfl (ii_6 _) (Nat.le_of_ble_eq_true rfl) rfl (ls2 := [.ref 94, .ref 0, .ref 53, .int (s.1 + 6)]) rfl ?_
                                                                                      refine st_goto g dL_law_1496 (tgt := 18) (by decide) ?_
                                                                                      obtain rfl := Option.some.inj H
                                                                                      exact K
                                                                                    · refine st_iconst g dL_law_1435 ic_0 ?_
                                                                                      obtain rfl := Option.some.inj H
                                                                                      exact absurd K.1 (by decide)
                                                                                  · rw [if_neg q285] at H
                                                                                    by_cases q299 : (v2 &&& 63) = 40
                                                                                    · rw [if_pos q299] at H
                                                                                      refine st_tsw g dL_law_33 (tgt := 1437) q299 (by decide) (by decide) rfl (by decide) ?_
                                                                                      refine st_aload_n g dL_law_1437 rfl ?_
                                                                                      refine st_aload_n g dL_law_1438 rfl ?_
                                                                                      refine st_iload_n g dL_law_1439 rfl ?_
                                                                                      refine st_iconst g dL_law_1440 ic_1 ?_
                                                                                      refine st_iadd g dL_law_1441 ?_
                                                                                      refine st_sald g gs dL_law_1442 H (fun v300 H => ?_)
                                                                                      refine st_aload_n g dL_law_1443 rfl ?_
                                                                                      refine st_iload_n g dL_law_1444 rfl ?_
                                                                                      refine st_iconst g dL_law_1445 ic_2 ?_
                                                                                      refine st_iadd g dL_law_1446 ?_
                                                                                      refine st_sald g gs dL_law_1447 H (fun v301 H => ?_)
                                                                                      obtain ⟨r302, hr302, H⟩ := bind_some H
                                                                                      refine st_callVI g (as := [.int v300, .int v301]) dL_law_1448 rfl rfl ml_L_183 mf_X7_taken rfl (Nat.le_of_ble_eq_true rfl) (Nat.le_of_ble_eq_true rfl) (c_X7_taken v300 v301 s.2 _ hr302) (fun hz => ?_)
                                                                                      refine st_aload_n g dL_law_1451 rfl ?_
                                                                                      refine st_aload_n g dL_law_1452 rfl ?_
                                                                                      refine st_iload_n g dL_law_1453 rfl ?_
                                                                                      refine st_iconst g dL_law_1454 ic_1 ?_
                                                                                      refine st_iadd g dL_law_1455 ?_
                                                                                      refine st_sald g gs dL_law_1456 H (fun v303 H => ?_)
                                                                                      refine st_aload_n g dL_law_1457 rfl ?_
                                                                                      refine st_iload_n g dL_law_1458 rfl ?_
                                                                                      refine st_iconst g dL_law_1459 ic_2 ?_
                                                                                      refine st_iadd g dL_law_1460 ?_
                                                                                      refine st_sald g gs dL_law_1461 H (fun v304 H => ?_)
                                                                                      obtain ⟨r305, hr305, H⟩ := bind_some H
                                                                                      refine st_callVI g (as := [.int v303, .int v304]) dL_law_1462 rfl rfl ml_L_186 mf_X8_taken rfl (Nat.le_of_ble_eq_true rfl) (Nat.le_of_ble_eq_true rfl) (c_X8_taken v303 v304 s.2 _ hr305) (fun hz => ?_)
                                                                                      refine st_ic_eq g dL_law_1465 (tgt := 1493) (by decide) H (fun q306 H => ?_) (fun q306 H => ?_)
                                                                                      · refine st_iinc g dL_law_1493 rfl (ii_6 _) (Nat.le_of_ble_eq_true rfl) rfl (ls2 := [.ref 94, .ref 0, .ref 53, .int (s.1 + 6)]) rfl ?_
                                                                                        refine st_goto g dL_law_1496 (tgt := 18) (by decide) ?_
                                                                                        obtain rfl := Option.some.inj H
                                                                                        exact K
                                                                                      · refine st_iconst g dL_law_1468 ic_0 ?_
                                                                                        obtain rfl := Option.some.inj H
                                                                                        exact absurd K.1 (by decide)
                                                                                    · rw [if_neg q299] at H
                                                                                      by_cases q307 : (v2 &&& 63) = 41
                                                                                      · rw [if_pos q307] at H
                                                                                        refine st_tsw g dL_law_33 (tgt := 1470) q307 (by decide) (by decide) rfl (by decide) ?_
                                                                                        refine st_aload_n g dL_law_1470 rfl ?_
                                                                                        refine st_aload_n g dL_law_1471 rfl ?_
                                                                                        refine st_iload_n g dL_law_1472 rfl ?_
                                                                                        refine st_iconst g dL_law_1473 ic_1 ?_
                                                                                        refine st_iadd g dL_law_1474 ?_
                                                                                        refine st_sald g gs dL_law_1475 H (fun v308 H => ?_)
                                                                                        obtain ⟨r309, hr309, H⟩ := bind_some H
                                                                                        refine st_callVI g (as := [.int v308]) dL_law_1476 rfl rfl ml_L_187 mf_X7_count rfl (Nat.le_of_ble_eq_true rfl) (Nat.le_of_ble_eq_true rfl) (c_X7_count v308 s.2 _ hr309) (fun hz => ?_)
                                                                                        refine st_aload_n g dL_law_1479 rfl ?_
                                                                                        refine st_aload_n g dL_law_1480 rfl ?_
                                                                                        refine st_iload_n g dL_law_1481 rfl ?_
                                                                                        refine st_iconst g dL_law_1482 ic_1 ?_
                                                                                        refine st_iadd g dL_law_1483 ?_
                                                                                        refine st_sald g gs dL_law_1484 H (fun v310 H => ?_)
                                                                                        obtain ⟨r311, hr311, H⟩ := bind_some H
                                                                                        refine st_callVI g (as := [.int v310]) dL_law_1485 rfl rfl ml_L_190 mf_X8_count rfl (Nat.le_of_ble_eq_true rfl) (Nat.le_of_ble_eq_true rfl) (c_X8_count v310 s.2 _ hr311) (fun hz => ?_)
                                                                                        refine st_ic_eq g dL_law_1488 (tgt := 1493) (by decide) H (fun q312 H => ?_) (fun q312 H => ?_)
                                                                                        · refine st_iinc g dL_law_1493 rfl (ii_6 _) (Nat.le_of_ble_eq_true rfl) rfl (ls2 := [.ref 94, .ref 0, .ref 53, .int (s.1 + 6)]) rfl ?_
                                                                                          refine st_goto g dL_law_1496 (tgt := 18) (by decide) ?_
                                                                                          obtain rfl := Option.some.inj H
                                                                                          exact K
                                                                                        · refine st_iconst g dL_law_1491 ic_0 ?_
                                                                                          obtain rfl := Option.some.inj H
                                                                                          exact absurd K.1 (by decide)
                                                                                      · rw [if_neg q307] at H
                                                                                        have zq3 := lv_neT q3 (show (0 : Int32).toInt = 0 by decide)
                                                                                        have zq9 := lv_neT q9 (show (1 : Int32).toInt = 1 by decide)
                                                                                        have zq17 := lv_neT q17 (show (2 : Int32).toInt = 2 by decide)
                                                                                        have zq27 := lv_neT q27 (show (3 : Int32).toInt = 3 by decide)
                                                                                        have zq37 := lv_neT q37 (show (4 : Int32).toInt = 4 by decide)
                                                                                        have zq45 := lv_neT q45 (show (5 : Int32).toInt = 5 by decide)
                                                                                        have zq51 := lv_neT q51 (show (6 : Int32).toInt = 6 by decide)
                                                                                        have zq55 := lv_neT q55 (show (7 : Int32).toInt = 7 by decide)
                                                                                        have zq63 := lv_neT q63 (show (8 : Int32).toInt = 8 by decide)
                                                                                        have zq73 := lv_neT q73 (show (9 : Int32).toInt = 9 by decide)
                                                                                        have zq83 := lv_neT q83 (show (10 : Int32).toInt = 10 by decide)
                                                                                        have zq89 := lv_neT q89 (show (11 : Int32).toInt = 11 by decide)
                                                                                        have zq95 := lv_neT q95 (show (12 : Int32).toInt = 12 by decide)
                                                                                        have zq101 := lv_neT q101 (show (13 : Int32).toInt = 13 by decide)
                                                                                        have zq107 := lv_neT q107 (show (14 : Int32).toInt = 14 by decide)
                                                                                        have zq111 := lv_neT q111 (show (15 : Int32).toInt = 15 by decide)
                                                                                        have zq117 := lv_neT q117 (show (16 : Int32).toInt = 16 by decide)
                                                                                        have zq125 := lv_neT q125 (show (17 : Int32).toInt = 17 by decide)
                                                                                        have zq131 := lv_neT q131 (show (18 : Int32).toInt = 18 by decide)
                                                                                        have zq137 := lv_neT q137 (show (19 : Int32).toInt = 19 by decide)
                                                                                        have zq145 := lv_neT q145 (show (20 : Int32).toInt = 20 by decide)
                                                                                        have zq157 := lv_neT q157 (show (21 : Int32).toInt = 21 by decide)
                                                                                        have zq167 := lv_neT q167 (show (22 : Int32).toInt = 22 by decide)
                                                                                        have zq177 := lv_neT q177 (show (23 : Int32).toInt = 23 by decide)
                                                                                        have zq185 := lv_neT q185 (show (24 : Int32).toInt = 24 by decide)
                                                                                        have zq191 := lv_neT q191 (show (25 : Int32).toInt = 25 by decide)
                                                                                        have zq197 := lv_neT q197 (show (26 : Int32).toInt = 26 by decide)
                                                                                        have zq203 := lv_neT q203 (show (27 : Int32).toInt = 27 by decide)
                                                                                        have zq209 := lv_neT q209 (show (28 : Int32).toInt = 28 by decide)
                                                                                        have zq213 := lv_neT q213 (show (29 : Int32).toInt = 29 by decide)
                                                                                        have zq217 := lv_neT q217 (show (30 : Int32).toInt = 30 by decide)
                                                                                        have zq221 := lv_neT q221 (show (31 : Int32).toInt = 31 by decide)
                                                                                        have zq225 := lv_neT q225 (show (32 : Int32).toInt = 32 by decide)
                                                                                        have zq231 := lv_neT q231 (show (33 : Int32).toInt = 33 by decide)
                                                                                        have zq241 := lv_neT q241 (show (34 : Int32).toInt = 34 by decide)
                                                                                        have zq247 := lv_neT q247 (show (35 : Int32).toInt = 35 by decide)
                                                                                        have zq255 := lv_neT q255 (show (36 : Int32).toInt = 36 by decide)
                                                                                        have zq265 := lv_neT q265 (show (37 : Int32).toInt = 37 by decide)
                                                                                        have zq277 := lv_neT q277 (show (38 : Int32).toInt = 38 by decide)
                                                                                        have zq285 := lv_neT q285 (show (39 : Int32).toInt = 39 by decide)
                                                                                        have zq299 := lv_neT q299 (show (40 : Int32).toInt = 40 by decide)
                                                                                        have zq307 := lv_neT q307 (show (41 : Int32).toInt = 41 by decide)
                                                                                        refine st_tswD g dL_law_33 (tgt := 1493) (by omega) (by decide) ?_
                                                                                        refine st_iinc g dL_law_1493 rfl (ii_6 _) (Nat.le_of_ble_eq_true rfl) rfl (ls2 := [.ref 94, .ref 0, .ref 53, .int (s.1 + 6)]) rfl ?_
                                                                                        refine st_goto g dL_law_1496 (tgt := 18) (by decide) ?_
                                                                                        obtain rfl := Option.some.inj H
                                                                                        exact K
def f_L_law (L : Nat) (xs : Nat → Int32) (h : Hp) : Option Int32 :=
  (iter (b_L_law_18 L xs) FU (0, h)).bind (Sum.elim (fun a313 =>
    some 1) (fun r => some r))
theorem t_L_law {x : Cx} {L : Nat} {xs : Nat → Int32} (g : Gx x RL cL_law 4 1000) (gs : Gs x L xs) (h : Hp) (out : Int32) (H : f_L_law L xs h = some out) (K : RtW x out) : WA x 18 [.ref 94, .ref 0, .ref 53, .int 0] [] h := by
  unfold f_L_law at H
  show P_L_law_18 x L xs (0, h)
  obtain ⟨a313o, ha313, hca313⟩ := it_R H
  refine iter_W (P := P_L_law_18 x L xs) (E := E_L_law_18 x L xs) (fun s9 o9 ho9 hK9 => tb_L_law_18 g L xs gs s9 o9 ho9 hK9) FU _ a313o ha313 ?_
  rcases hca313 with ⟨a313, rfl, H⟩ | ⟨r, rfl, H⟩
  · show WA x 1499 [.null, .null, .null, .null] [] a313.2
    refine st_iconst g dL_law_1499 ic_1 ?_
    obtain rfl := Option.some.inj H
    exact st_lawret g dL_law_1500 K
  · obtain rfl := Option.some.inj H
    exact K
