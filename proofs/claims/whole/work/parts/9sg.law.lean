noncomputable def fL_law_L18 (S : sk_S) (L0 : Nat) (S4 : sk_S) (xs : Nat → Int32) (s1 : Int32 × sk_S × sk_D) : Option ((Int32 × sk_S × sk_D) ⊕ (Bool × sk_S × sk_D)) :=
  if ((Int32.ofNat L0) - (6 : Int32)) < s1.1 then (some (.inr (true, s1.2.1, s1.2.2))) else ((sk_scr xs L0 s1.1).bind fun v15 => if (v15 &&& (63 : Int32)) = (0 : Int32) then ((sk_scr xs L0 (s1.1 + (1 : Int32))).bind fun v18 => (sk_scr xs L0 (s1.1 + (2 : Int32))).bind fun v20 => (sk_scr xs L0 (s1.1 + (3 : Int32))).bind fun v22 => (sk_scr xs L0 (s1.1 + (4 : Int32))).bind fun v24 => (sk_scr xs L0 (s1.1 + (5 : Int32))).bind fun v26 => if s1.2.1.2.1 (S.1.1 + 1) = (9, 0) then ((fX10_feed s1.2.1 s1.2.2 (S.1.1 + 1) v18 v20 v22 v24 v26).bind fun b32 => (sk_scr xs L0 (s1.1 + (1 : Int32))).bind fun v33 => (sk_scr xs L0 (s1.1 + (2 : Int32))).bind fun v35 => (sk_scr xs L0 (s1.1 + (3 : Int32))).bind fun v37 => (sk_scr xs L0 (s1.1 + (4 : Int32))).bind fun v39 => (sk_scr xs L0 (s1.1 + (5 : Int32))).bind fun v41 => if s1.2.1.2.1 (S4.1.1 + 1) = (10, 0) then ((fX11_feed s1.2.1 b32.2 (S4.1.1 + 1) v33 v35 v37 v39 v41).bind fun b47 => if b32.1 = b47.1 then (some (.inl (s1.1 + 6, s1.2.1, b47.2))) else (some (.inr (false, s1.2.1, b47.2)))) else none) else none) else (if (v15 &&& (63 : Int32)) = (1 : Int32) then ((sk_scr xs L0 (s1.1 + (1 : Int32))).bind fun v51 => if s1.2.1.2.1 (S.1.1 + 1) = (9, 0) then ((fX10_life s1.2.1 s1.2.2 (S.1.1 + 1) v51).bind fun b57 => (sk_scr xs L0 (s1.1 + (1 : Int32))).bind fun v58 => if s1.2.1.2.1 (S4.1.1 + 1) = (10, 0) then ((fX11_life s1.2.1 b57.2 (S4.1.1 + 1) v58).bind fun b64 => if b57.1 = b64.1 then (some (.inl (s1.1 + 6, s1.2.1, b64.2))) else (some (.inr (false, s1.2.1, b64.2)))) else none) else none) else (if (v15 &&& (63 : Int32)) = (2 : Int32) then ((sk_scr xs L0 (s1.1 + (1 : Int32))).bind fun v68 => if s1.2.1.2.1 (S.1.1 + 1) = (9, 0) then ((fX10_fault s1.2.1 s1.2.2 (S.1.1 + 1) v68).bind fun v70 => (sk_scr xs L0 (s1.1 + (1 : Int32))).bind fun v73 => if s1.2.1.2.1 (S4.1.1 + 1) = (10, 0) then ((fX11_fault s1.2.1 s1.2.2 (S4.1.1 + 1) v73).bind fun b79 => if v70 = b79.1 then (some (.inl (s1.1 + 6, s1.2.1, b79.2))) else (some (.inr (false, s1.2.1, b79.2)))) else none) else none) else (if (v15 &&& (63 : Int32)) = (3 : Int32) then ((sk_scr xs L0 (s1.1 + (1 : Int32))).bind fun v83 => (sk_scr xs L0 (s1.1 + (2 : Int32))).bind fun v85 => if s1.2.1.2.1 (S.1.1 + 1) = (9, 0) then ((fX10_doing s1.2.1 s1.2.2 (S.1.1 + 1) v83 v85).bind fun v87 => (sk_scr xs L0 (s1.1 + (1 : Int32))).bind fun v90 => (sk_scr xs L0 (s1.1 + (2 : Int32))).bind fun v92 => if s1.2.1.2.1 (S4.1.1 + 1) = (10, 0) then ((fX11_doing s1.2.1 s1.2.2 (S4.1.1 + 1) v90 v92).bind fun b98 => if v87 = b98.1 then (some (.inl (s1.1 + 6, s1.2.1, b98.2))) else (some (.inr (false, s1.2.1, b98.2)))) else none) else none) else (if (v15 &&& (63 : Int32)) = (4 : Int32) then ((sk_scr xs L0 (s1.1 + (1 : Int32))).bind fun v102 => if s1.2.1.2.1 (S.1.1 + 1) = (9, 0) then ((fX10_door s1.2.1 s1.2.2 (S.1.1 + 1) v102).bind fun v104 => (sk_scr xs L0 (s1.1 + (1 : Int32))).bind fun v107 => if s1.2.1.2.1 (S4.1.1 + 1) = (10, 0) then ((fX11_door s1.2.1 s1.2.2 (S4.1.1 + 1) v107).bind fun b113 => if v104 = b113.1 then (some (.inl (s1.1 + 6, s1.2.1, b113.2))) else (some (.inr (false, s1.2.1, b113.2)))) else none) else none) else (if (v15 &&& (63 : Int32)) = (5 : Int32) then ((sk_scr xs L0 (s1.1 + (1 : Int32))).bind fun v117 => if s1.2.1.2.1 (S.1.1 + 1) = (9, 0) then ((fX10_putBack s1.2.1 s1.2.2 (S.1.1 + 1) v117).bind fun v119 => (sk_scr xs L0 (s1.1 + (1 : Int32))).bind fun v122 => if s1.2.1.2.1 (S4.1.1 + 1) = (10, 0) then ((fX11_putBack s1.2.1 s1.2.2 (S4.1.1 + 1) v122).bind fun b128 => if v119 = b128.1 then (some (.inl (s1.1 + 6, s1.2.1, b128.2))) else (some (.inr (false, s1.2.1, b128.2)))) else none) else none) else (if (v15 &&& (63 : Int32)) = (6 : Int32) then (if s1.2.1.2.1 (S.1.1 + 1) = (9, 0) then ((fX10_open s1.2.1 s1.2.2 (S.1.1 + 1)).bind fun v132 => if s1.2.1.2.1 (S4.1.1 + 1) = (10, 0) then ((fX11_open s1.2.1 s1.2.2 (S4.1.1 + 1)).bind fun b139 => if v132 = b139.1 then (some (.inl (s1.1 + 6, s1.2.1, b139.2))) else (some (.inr (false, s1.2.1, b139.2)))) else none) else none) else (if (v15 &&& (63 : Int32)) = (7 : Int32) then ((sk_scr xs L0 (s1.1 + (1 : Int32))).bind fun v143 => if s1.2.1.2.1 (S.1.1 + 1) = (9, 0) then ((fX10_does s1.2.1 s1.2.2 (S.1.1 + 1) v143).bind fun b149 => (sk_scr xs L0 (s1.1 + (1 : Int32))).bind fun v150 => if s1.2.1.2.1 (S4.1.1 + 1) = (10, 0) then ((fX11_does s1.2.1 b149.2 (S4.1.1 + 1) v150).bind fun b156 => if b149.1 = b156.1 then (some (.inl (s1.1 + 6, s1.2.1, b156.2))) else (some (.inr (false, s1.2.1, b156.2)))) else none) else none) else (if (v15 &&& (63 : Int32)) = (8 : Int32) then ((sk_scr xs L0 (s1.1 + (1 : Int32))).bind fun v160 => if s1.2.1.2.1 (S.1.1 + 1) = (9, 0) then ((fX10_drop s1.2.1 s1.2.2 (S.1.1 + 1) v160).bind fun b166 => (sk_scr xs L0 (s1.1 + (1 : Int32))).bind fun v167 => if s1.2.1.2.1 (S4.1.1 + 1) = (10, 0) then ((fX11_drop s1.2.1 b166.2 (S4.1.1 + 1) v167).bind fun b173 => if b166.1 = b173.1 then (some (.inl (s1.1 + 6, s1.2.1, b173.2))) else (some (.inr (false, s1.2.1, b173.2)))) else none) else none) else (if (v15 &&& (63 : Int32)) = (9 : Int32) then ((sk_scr xs L0 (s1.1 + (1 : Int32))).bind fun v177 => if s1.2.1.2.1 (S.1.1 + 1) = (9, 0) then ((fX10_forge s1.2.1 s1.2.2 (S.1.1 + 1) v177).bind fun b183 => (sk_scr xs L0 (s1.1 + (1 : Int32))).bind fun v184 => if s1.2.1.2.1 (S4.1.1 + 1) = (10, 0) then ((fX11_forge s1.2.1 b183.2 (S4.1.1 + 1) v184).bind fun b190 => if b183.1 = b190.1 then (some (.inl (s1.1 + 6, s1.2.1, b190.2))) else (some (.inr (false, s1.2.1, b190.2)))) else none) else none) else (if (v15 &&& (63 : Int32)) = (10 : Int32) then ((sk_scr xs L0 (s1.1 + (1 : Int32))).bind fun v194 => if s1.2.1.2.1 (S.1.1 + 1) = (9, 0) then ((fX10_ask s1.2.1 s1.2.2 (S.1.1 + 1) v194).bind fun b200 => (sk_scr xs L0 (s1.1 + (1 : Int32))).bind fun v201 => if s1.2.1.2.1 (S4.1.1 + 1) = (10, 0) then ((fX11_ask s1.2.1 b200.2 (S4.1.1 + 1) v201).bind fun b207 => if b200.1 = b207.1 then (some (.inl (s1.1 + 6, s1.2.1, b207.2))) else (some (.inr (false, s1.2.1, b207.2)))) else none) else none) else (if (v15 &&& (63 : Int32)) = (11 : Int32) then ((sk_scr xs L0 (s1.1 + (1 : Int32))).bind fun v211 => if s1.2.1.2.1 (S.1.1 + 1) = (9, 0) then ((fX10_slip s1.2.1 s1.2.2 (S.1.1 + 1) v211).bind fun b217 => (sk_scr xs L0 (s1.1 + (1 : Int32))).bind fun v218 => if s1.2.1.2.1 (S4.1.1 + 1) = (10, 0) then ((fX11_slip s1.2.1 b217.2 (S4.1.1 + 1) v218).bind fun b224 => if b217.1 = b224.1 then (some (.inl (s1.1 + 6, s1.2.1, b224.2))) else (some (.inr (false, s1.2.1, b224.2)))) else none) else none) else (if (v15 &&& (63 : Int32)) = (12 : Int32) then ((sk_scr xs L0 (s1.1 + (1 : Int32))).bind fun v228 => if s1.2.1.2.1 (S.1.1 + 1) = (9, 0) then ((fX10_undo s1.2.1 s1.2.2 (S.1.1 + 1) v228).bind fun b234 => (sk_scr xs L0 (s1.1 + (1 : Int32))).bind fun v235 => if s1.2.1.2.1 (S4.1.1 + 1) = (10, 0) then ((fX11_undo s1.2.1 b234.2 (S4.1.1 + 1) v235).bind fun b241 => if b234.1 = b241.1 then (some (.inl (s1.1 + 6, s1.2.1, b241.2))) else (some (.inr (false, s1.2.1, b241.2)))) else none) else none) else (if (v15 &&& (63 : Int32)) = (13 : Int32) then ((sk_scr xs L0 (s1.1 + (1 : Int32))).bind fun v245 => (sk_scr xs L0 (s1.1 + (2 : Int32))).bind fun v247 => if s1.2.1.2.1 (S.1.1 + 1) = (9, 0) then ((fX10_judge s1.2.1 s1.2.2 (S.1.1 + 1) v245 v247).bind fun b253 => (sk_scr xs L0 (s1.1 + (1 : Int32))).bind fun v254 => (sk_scr xs L0 (s1.1 + (2 : Int32))).bind fun v256 => if s1.2.1.2.1 (S4.1.1 + 1) = (10, 0) then ((fX11_judge s1.2.1 b253.2 (S4.1.1 + 1) v254 v256).bind fun b262 => if b253.1 = b262.1 then (some (.inl (s1.1 + 6, s1.2.1, b262.2))) else (some (.inr (false, s1.2.1, b262.2)))) else none) else none) else (if (v15 &&& (63 : Int32)) = (14 : Int32) then ((sk_scr xs L0 (s1.1 + (1 : Int32))).bind fun v266 => if s1.2.1.2.1 (S.1.1 + 1) = (9, 0) then ((fX10_perform s1.2.1 s1.2.2 (S.1.1 + 1) v266).bind fun b272 => (sk_scr xs L0 (s1.1 + (1 : Int32))).bind fun v273 => if s1.2.1.2.1 (S4.1.1 + 1) = (10, 0) then ((fX11_perform s1.2.1 b272.2 (S4.1.1 + 1) v273).bind fun b279 => if b272.1 = b279.1 then (some (.inl (s1.1 + 6, s1.2.1, b279.2))) else (some (.inr (false, s1.2.1, b279.2)))) else none) else none) else (if (v15 &&& (63 : Int32)) = (15 : Int32) then ((sk_scr xs L0 (s1.1 + (1 : Int32))).bind fun v283 => (sk_scr xs L0 (s1.1 + (2 : Int32))).bind fun v285 => if s1.2.1.2.1 (S.1.1 + 1) = (9, 0) then ((fX10_year s1.2.1 s1.2.2 (S.1.1 + 1) v283 v285).bind fun b291 => (sk_scr xs L0 (s1.1 + (1 : Int32))).bind fun v292 => (sk_scr xs L0 (s1.1 + (2 : Int32))).bind fun v294 => if s1.2.1.2.1 (S4.1.1 + 1) = (10, 0) then ((fX11_year s1.2.1 b291.2 (S4.1.1 + 1) v292 v294).bind fun b300 => if b291.1 = b300.1 then (some (.inl (s1.1 + 6, s1.2.1, b300.2))) else (some (.inr (false, s1.2.1, b300.2)))) else none) else none) else (if (v15 &&& (63 : Int32)) = (16 : Int32) then ((sk_scr xs L0 (s1.1 + (1 : Int32))).bind fun v304 => if s1.2.1.2.1 (S.1.1 + 1) = (9, 0) then ((fX10_soonest s1.2.1 s1.2.2 (S.1.1 + 1) v304).bind fun b311 => (sk_scr xs L0 (s1.1 + (1 : Int32))).bind fun v312 => if b311.2.1.2.1 (S4.1.1 + 1) = (10, 0) then ((fX11_soonest b311.2.1 b311.2.2 (S4.1.1 + 1) v312).bind fun b318 => if b311.1 = b318.1 then (some (.inl (s1.1 + 6, b311.2.1, b318.2))) else (some (.inr (false, b311.2.1, b318.2)))) else none) else none) else (if (v15 &&& (63 : Int32)) = (17 : Int32) then ((sk_scr xs L0 (s1.1 + (1 : Int32))).bind fun v322 => (sk_scr xs L0 (s1.1 + (2 : Int32))).bind fun v324 => if s1.2.1.2.1 (S.1.1 + 1) = (9, 0) then ((fX10_way s1.2.1 s1.2.2 (S.1.1 + 1) v322 v324).bind fun b331 => (sk_scr xs L0 (s1.1 + (1 : Int32))).bind fun v332 => (sk_scr xs L0 (s1.1 + (2 : Int32))).bind fun v334 => if b331.2.1.2.1 (S4.1.1 + 1) = (10, 0) then ((fX11_way b331.2.1 b331.2.2 (S4.1.1 + 1) v332 v334).bind fun b340 => if b331.1 = b340.1 then (some (.inl (s1.1 + 6, b331.2.1, b340.2))) else (some (.inr (false, b331.2.1, b340.2)))) else none) else none) else (if (v15 &&& (63 : Int32)) = (18 : Int32) then ((sk_scr xs L0 (s1.1 + (1 : Int32))).bind fun v344 => if s1.2.1.2.1 (S.1.1 + 1) = (9, 0) then ((fX10_shown s1.2.1 s1.2.2 (S.1.1 + 1) v344).bind fun b351 => (sk_scr xs L0 (s1.1 + (1 : Int32))).bind fun v352 => if b351.2.1.2.1 (S4.1.1 + 1) = (10, 0) then ((fX11_shown b351.2.1 b351.2.2 (S4.1.1 + 1) v352).bind fun b358 => if b351.1 = b358.1 then (some (.inl (s1.1 + 6, b351.2.1, b358.2))) else (some (.inr (false, b351.2.1, b358.2)))) else none) else none) else (if (v15 &&& (63 : Int32)) = (19 : Int32) then ((sk_scr xs L0 (s1.1 + (1 : Int32))).bind fun v362 => (sk_scr xs L0 (s1.1 + (2 : Int32))).bind fun v364 => if s1.2.1.2.1 (S.1.1 + 1) = (9, 0) then ((fX10_shownBy s1.2.1 s1.2.2 (S.1.1 + 1) v362 v364).bind fun b371 => (sk_scr xs L0 (s1.1 + (1 : Int32))).bind fun v372 => (sk_scr xs L0 (s1.1 + (2 : Int32))).bind fun v374 => if b371.2.1.2.1 (S4.1.1 + 1) = (10, 0) then ((fX11_shownBy b371.2.1 b371.2.2 (S4.1.1 + 1) v372 v374).bind fun b380 => if b371.1 = b380.1 then (some (.inl (s1.1 + 6, b371.2.1, b380.2))) else (some (.inr (false, b371.2.1, b380.2)))) else none) else none) else (if (v15 &&& (63 : Int32)) = (20 : Int32) then ((sk_scr xs L0 (s1.1 + (1 : Int32))).bind fun v384 => (sk_scr xs L0 (s1.1 + (2 : Int32))).bind fun v386 => if s1.2.1.2.1 (S.1.1 + 1) = (9, 0) then ((fX10_rows s1.2.1 s1.2.2 (S.1.1 + 1) v384 v386).bind fun b393 => (sk_scr xs L0 (s1.1 + (1 : Int32))).bind fun v394 => (sk_scr xs L0 (s1.1 + (2 : Int32))).bind fun v396 => if b393.2.1.2.1 (S4.1.1 + 1) = (10, 0) then ((fX11_rows b393.2.1 b393.2.2 (S4.1.1 + 1) v394 v396).bind fun b402 => if b393.1 = b402.1 then (some (.inl (s1.1 + 6, b393.2.1, b402.2))) else (some (.inr (false, b393.2.1, b402.2)))) else none) else none) else (if (v15 &&& (63 : Int32)) = (21 : Int32) then (if s1.2.1.2.1 (S.1.1 + 1) = (9, 0) then ((fX10_most s1.2.1 s1.2.2 (S.1.1 + 1)).bind fun b411 => if b411.2.1.2.1 (S4.1.1 + 1) = (10, 0) then ((fX11_most b411.2.1 b411.2.2 (S4.1.1 + 1)).bind fun b416 => if b411.1 = b416.1 then (some (.inl (s1.1 + 6, b411.2.1, b416.2))) else (some (.inr (false, b411.2.1, b416.2)))) else none) else none) else (if (v15 &&& (63 : Int32)) = (22 : Int32) then (if s1.2.1.2.1 (S.1.1 + 1) = (9, 0) then ((fX10_stands s1.2.1 s1.2.2 (S.1.1 + 1)).bind fun b425 => if b425.2.1.2.1 (S4.1.1 + 1) = (10, 0) then ((fX11_stands b425.2.1 b425.2.2 (S4.1.1 + 1)).bind fun b430 => if b425.1 = b430.1 then (some (.inl (s1.1 + 6, b425.2.1, b430.2))) else (some (.inr (false, b425.2.1, b430.2)))) else none) else none) else (if (v15 &&& (63 : Int32)) = (23 : Int32) then ((sk_scr xs L0 (s1.1 + (1 : Int32))).bind fun v434 => if s1.2.1.2.1 (S.1.1 + 1) = (9, 0) then ((fX10_gain s1.2.1 s1.2.2 (S.1.1 + 1) v434).bind fun v436 => (sk_scr xs L0 (s1.1 + (1 : Int32))).bind fun v439 => if s1.2.1.2.1 (S4.1.1 + 1) = (10, 0) then ((fX11_gain s1.2.1 s1.2.2 (S4.1.1 + 1) v439).bind fun b445 => if v436 = b445.1 then (some (.inl (s1.1 + 6, s1.2.1, b445.2))) else (some (.inr (false, s1.2.1, b445.2)))) else none) else none) else (if (v15 &&& (63 : Int32)) = (24 : Int32) then ((sk_scr xs L0 (s1.1 + (1 : Int32))).bind fun v449 => if s1.2.1.2.1 (S.1.1 + 1) = (9, 0) then ((fX10_pack s1.2.1 s1.2.2 (S.1.1 + 1) v449).bind fun v451 => (sk_scr xs L0 (s1.1 + (1 : Int32))).bind fun v454 => if s1.2.1.2.1 (S4.1.1 + 1) = (10, 0) then ((fX11_pack s1.2.1 s1.2.2 (S4.1.1 + 1) v454).bind fun b460 => if v451 = b460.1 then (some (.inl (s1.1 + 6, s1.2.1, b460.2))) else (some (.inr (false, s1.2.1, b460.2)))) else none) else none) else (if (v15 &&& (63 : Int32)) = (25 : Int32) then ((sk_scr xs L0 (s1.1 + (1 : Int32))).bind fun v464 => if s1.2.1.2.1 (S.1.1 + 1) = (9, 0) then ((fX10_orders s1.2.1 s1.2.2 (S.1.1 + 1) v464).bind fun b470 => (sk_scr xs L0 (s1.1 + (1 : Int32))).bind fun v471 => if s1.2.1.2.1 (S4.1.1 + 1) = (10, 0) then ((fX11_orders s1.2.1 b470.2 (S4.1.1 + 1) v471).bind fun b477 => if b470.1 = b477.1 then (some (.inl (s1.1 + 6, s1.2.1, b477.2))) else (some (.inr (false, s1.2.1, b477.2)))) else none) else none) else (if (v15 &&& (63 : Int32)) = (26 : Int32) then ((sk_scr xs L0 (s1.1 + (1 : Int32))).bind fun v481 => (sk_scr xs L0 (s1.1 + (2 : Int32))).bind fun v483 => if s1.2.1.2.1 (S.1.1 + 1) = (9, 0) then ((fX10_order s1.2.1 s1.2.2 (S.1.1 + 1) v481 v483).bind fun b489 => (sk_scr xs L0 (s1.1 + (1 : Int32))).bind fun v490 => (sk_scr xs L0 (s1.1 + (2 : Int32))).bind fun v492 => if s1.2.1.2.1 (S4.1.1 + 1) = (10, 0) then ((fX11_order s1.2.1 b489.2 (S4.1.1 + 1) v490 v492).bind fun b498 => if b489.1 = b498.1 then (some (.inl (s1.1 + 6, s1.2.1, b498.2))) else (some (.inr (false, s1.2.1, b498.2)))) else none) else none) else (if (v15 &&& (63 : Int32)) = (27 : Int32) then ((sk_scr xs L0 (s1.1 + (1 : Int32))).bind fun v502 => (sk_scr xs L0 (s1.1 + (2 : Int32))).bind fun v504 => (sk_scr xs L0 (s1.1 + (3 : Int32))).bind fun v506 => if s1.2.1.2.1 (S.1.1 + 1) = (9, 0) then ((fX10_ahead s1.2.1 s1.2.2 (S.1.1 + 1) v502 v504 v506).bind fun b512 => (sk_scr xs L0 (s1.1 + (1 : Int32))).bind fun v513 => (sk_scr xs L0 (s1.1 + (2 : Int32))).bind fun v515 => (sk_scr xs L0 (s1.1 + (3 : Int32))).bind fun v517 => if s1.2.1.2.1 (S4.1.1 + 1) = (10, 0) then ((fX11_ahead s1.2.1 b512.2 (S4.1.1 + 1) v513 v515 v517).bind fun b523 => if b512.1 = b523.1 then (some (.inl (s1.1 + 6, s1.2.1, b523.2))) else (some (.inr (false, s1.2.1, b523.2)))) else none) else none) else (if (v15 &&& (63 : Int32)) = (28 : Int32) then ((sk_scr xs L0 (s1.1 + (1 : Int32))).bind fun v527 => if s1.2.1.2.1 (S.1.1 + 1) = (9, 0) then ((fX10_join s1.2.1 s1.2.2 (S.1.1 + 1) v527).bind fun v529 => (sk_scr xs L0 (s1.1 + (1 : Int32))).bind fun v532 => if s1.2.1.2.1 (S4.1.1 + 1) = (10, 0) then ((fX11_join s1.2.1 s1.2.2 (S4.1.1 + 1) v532).bind fun b538 => if v529 = b538.1 then (some (.inl (s1.1 + 6, s1.2.1, b538.2))) else (some (.inr (false, s1.2.1, b538.2)))) else none) else none) else (if (v15 &&& (63 : Int32)) = (29 : Int32) then (if s1.2.1.2.1 (S.1.1 + 1) = (9, 0) then ((fX10_over s1.2.1 s1.2.2 (S.1.1 + 1)).bind fun v542 => if s1.2.1.2.1 (S4.1.1 + 1) = (10, 0) then ((fX11_over s1.2.1 s1.2.2 (S4.1.1 + 1)).bind fun b549 => if v542 = b549.1 then (some (.inl (s1.1 + 6, s1.2.1, b549.2))) else (some (.inr (false, s1.2.1, b549.2)))) else none) else none) else (if (v15 &&& (63 : Int32)) = (30 : Int32) then ((sk_scr xs L0 (s1.1 + (1 : Int32))).bind fun v553 => if s1.2.1.2.1 (S.1.1 + 1) = (9, 0) then ((fX10_slips s1.2.1 s1.2.2 (S.1.1 + 1) v553).bind fun b559 => (sk_scr xs L0 (s1.1 + (1 : Int32))).bind fun v560 => if s1.2.1.2.1 (S4.1.1 + 1) = (10, 0) then ((fX11_slips s1.2.1 b559.2 (S4.1.1 + 1) v560).bind fun b566 => if b559.1 = b566.1 then (some (.inl (s1.1 + 6, s1.2.1, b566.2))) else (some (.inr (false, s1.2.1, b566.2)))) else none) else none) else (if (v15 &&& (63 : Int32)) = (31 : Int32) then ((sk_scr xs L0 (s1.1 + (1 : Int32))).bind fun v570 => if s1.2.1.2.1 (S.1.1 + 1) = (9, 0) then ((fX10_attempt s1.2.1 s1.2.2 (S.1.1 + 1) v570).bind fun b576 => (sk_scr xs L0 (s1.1 + (1 : Int32))).bind fun v577 => if s1.2.1.2.1 (S4.1.1 + 1) = (10, 0) then ((fX11_attempt s1.2.1 b576.2 (S4.1.1 + 1) v577).bind fun b583 => if b576.1 = b583.1 then (some (.inl (s1.1 + 6, s1.2.1, b583.2))) else (some (.inr (false, s1.2.1, b583.2)))) else none) else none) else (if (v15 &&& (63 : Int32)) = (32 : Int32) then ((sk_scr xs L0 (s1.1 + (1 : Int32))).bind fun v587 => if s1.2.1.2.1 (S.1.1 + 1) = (9, 0) then ((fX10_linings s1.2.1 s1.2.2 (S.1.1 + 1) v587).bind fun b593 => (sk_scr xs L0 (s1.1 + (1 : Int32))).bind fun v594 => if s1.2.1.2.1 (S4.1.1 + 1) = (10, 0) then ((fX11_linings s1.2.1 b593.2 (S4.1.1 + 1) v594).bind fun b600 => if b593.1 = b600.1 then (some (.inl (s1.1 + 6, s1.2.1, b600.2))) else (some (.inr (false, s1.2.1, b600.2)))) else none) else none) else (if (v15 &&& (63 : Int32)) = (33 : Int32) then (if s1.2.1.2.1 (S.1.1 + 1) = (9, 0) then ((fX10_clique s1.2.1 s1.2.2 (S.1.1 + 1)).bind fun v604 => if s1.2.1.2.1 (S4.1.1 + 1) = (10, 0) then ((fX11_clique s1.2.1 s1.2.2 (S4.1.1 + 1)).bind fun b611 => if v604 = b611.1 then (some (.inl (s1.1 + 6, s1.2.1, b611.2))) else (some (.inr (false, s1.2.1, b611.2)))) else none) else none) else (if (v15 &&& (63 : Int32)) = (34 : Int32) then ((sk_scr xs L0 (s1.1 + (1 : Int32))).bind fun v615 => if s1.2.1.2.1 (S.1.1 + 1) = (9, 0) then ((fX10_forces s1.2.1 s1.2.2 (S.1.1 + 1) v615).bind fun b621 => (sk_scr xs L0 (s1.1 + (1 : Int32))).bind fun v622 => if s1.2.1.2.1 (S4.1.1 + 1) = (10, 0) then ((fX11_forces s1.2.1 b621.2 (S4.1.1 + 1) v622).bind fun b628 => if b621.1 = b628.1 then (some (.inl (s1.1 + 6, s1.2.1, b628.2))) else (some (.inr (false, s1.2.1, b628.2)))) else none) else none) else (if (v15 &&& (63 : Int32)) = (35 : Int32) then ((sk_scr xs L0 (s1.1 + (1 : Int32))).bind fun v632 => if s1.2.1.2.1 (S.1.1 + 1) = (9, 0) then ((fX10_best s1.2.1 s1.2.2 (S.1.1 + 1) v632).bind fun b638 => (sk_scr xs L0 (s1.1 + (1 : Int32))).bind fun v639 => if s1.2.1.2.1 (S4.1.1 + 1) = (10, 0) then ((fX11_best s1.2.1 b638.2 (S4.1.1 + 1) v639).bind fun b645 => if b638.1 = b645.1 then (some (.inl (s1.1 + 6, s1.2.1, b645.2))) else (some (.inr (false, s1.2.1, b645.2)))) else none) else none) else (if (v15 &&& (63 : Int32)) = (36 : Int32) then ((sk_scr xs L0 (s1.1 + (1 : Int32))).bind fun v649 => (sk_scr xs L0 (s1.1 + (2 : Int32))).bind fun v651 => if s1.2.1.2.1 (S.1.1 + 1) = (9, 0) then ((fX10_chance s1.2.1 s1.2.2 (S.1.1 + 1) v649 v651).bind fun v653 => (sk_scr xs L0 (s1.1 + (1 : Int32))).bind fun v656 => (sk_scr xs L0 (s1.1 + (2 : Int32))).bind fun v658 => if s1.2.1.2.1 (S4.1.1 + 1) = (10, 0) then ((fX11_chance s1.2.1 s1.2.2 (S4.1.1 + 1) v656 v658).bind fun b664 => if v653 = b664.1 then (some (.inl (s1.1 + 6, s1.2.1, b664.2))) else (some (.inr (false, s1.2.1, b664.2)))) else none) else none) else (if (v15 &&& (63 : Int32)) = (37 : Int32) then ((sk_scr xs L0 (s1.1 + (1 : Int32))).bind fun v668 => if s1.2.1.2.1 (S.1.1 + 1) = (9, 0) then ((fX10_mean s1.2.1 s1.2.2 (S.1.1 + 1) v668).bind fun v670 => (sk_scr xs L0 (s1.1 + (1 : Int32))).bind fun v673 => if s1.2.1.2.1 (S4.1.1 + 1) = (10, 0) then ((fX11_mean s1.2.1 s1.2.2 (S4.1.1 + 1) v673).bind fun b679 => if v670 = b679.1 then (some (.inl (s1.1 + 6, s1.2.1, b679.2))) else (some (.inr (false, s1.2.1, b679.2)))) else none) else none) else (if (v15 &&& (63 : Int32)) = (38 : Int32) then (if s1.2.1.2.1 (S.1.1 + 1) = (9, 0) then ((fX10_wanted s1.2.1 s1.2.2 (S.1.1 + 1)).bind fun v683 => if s1.2.1.2.1 (S4.1.1 + 1) = (10, 0) then ((fX11_wanted s1.2.1 s1.2.2 (S4.1.1 + 1)).bind fun b690 => if v683 = b690.1 then (some (.inl (s1.1 + 6, s1.2.1, b690.2))) else (some (.inr (false, s1.2.1, b690.2)))) else none) else none) else (if (v15 &&& (63 : Int32)) = (39 : Int32) then ((sk_scr xs L0 (s1.1 + (1 : Int32))).bind fun v694 => (sk_scr xs L0 (s1.1 + (2 : Int32))).bind fun v696 => (sk_scr xs L0 (s1.1 + (3 : Int32))).bind fun v698 => if s1.2.1.2.1 (S.1.1 + 1) = (9, 0) then ((fX10_numbers s1.2.1 s1.2.2 (S.1.1 + 1) v694 v696 v698).bind fun b704 => (sk_scr xs L0 (s1.1 + (1 : Int32))).bind fun v705 => (sk_scr xs L0 (s1.1 + (2 : Int32))).bind fun v707 => (sk_scr xs L0 (s1.1 + (3 : Int32))).bind fun v709 => if s1.2.1.2.1 (S4.1.1 + 1) = (10, 0) then ((fX11_numbers s1.2.1 b704.2 (S4.1.1 + 1) v705 v707 v709).bind fun b715 => if b704.1 = b715.1 then (some (.inl (s1.1 + 6, s1.2.1, b715.2))) else (some (.inr (false, s1.2.1, b715.2)))) else none) else none) else (if (v15 &&& (63 : Int32)) = (40 : Int32) then ((sk_scr xs L0 (s1.1 + (1 : Int32))).bind fun v719 => (sk_scr xs L0 (s1.1 + (2 : Int32))).bind fun v721 => (sk_scr xs L0 (s1.1 + (3 : Int32))).bind fun v723 => (sk_scr xs L0 (s1.1 + (4 : Int32))).bind fun v725 => if s1.2.1.2.1 (S.1.1 + 1) = (9, 0) then ((fX10_write s1.2.1 s1.2.2 (S.1.1 + 1) v719 v721 ((v723.toInt64 <<< ((32 : Int32).toInt64 &&& 63)) ||| (v725.toInt64 &&& (4294967295 : Int64)))).bind fun b731 => (sk_scr xs L0 (s1.1 + (1 : Int32))).bind fun v732 => (sk_scr xs L0 (s1.1 + (2 : Int32))).bind fun v734 => (sk_scr xs L0 (s1.1 + (3 : Int32))).bind fun v736 => (sk_scr xs L0 (s1.1 + (4 : Int32))).bind fun v738 => if s1.2.1.2.1 (S4.1.1 + 1) = (10, 0) then ((fX11_write s1.2.1 b731.2 (S4.1.1 + 1) v732 v734 ((v736.toInt64 <<< ((32 : Int32).toInt64 &&& 63)) ||| (v738.toInt64 &&& (4294967295 : Int64)))).bind fun b744 => if b731.1 = b744.1 then (some (.inl (s1.1 + 6, s1.2.1, b744.2))) else (some (.inr (false, s1.2.1, b744.2)))) else none) else none) else (if (v15 &&& (63 : Int32)) = (41 : Int32) then ((sk_scr xs L0 (s1.1 + (1 : Int32))).bind fun v748 => (sk_scr xs L0 (s1.1 + (2 : Int32))).bind fun v750 => if s1.2.1.2.1 (S.1.1 + 1) = (9, 0) then ((fX10_lists s1.2.1 s1.2.2 (S.1.1 + 1) v748 v750).bind fun b757 => (sk_scr xs L0 (s1.1 + (1 : Int32))).bind fun v758 => (sk_scr xs L0 (s1.1 + (2 : Int32))).bind fun v760 => if b757.2.1.2.1 (S4.1.1 + 1) = (10, 0) then ((fX11_lists b757.2.1 b757.2.2 (S4.1.1 + 1) v758 v760).bind fun b766 => if b757.1 = b766.1 then (some (.inl (s1.1 + 6, b757.2.1, b766.2))) else (some (.inr (false, b757.2.1, b766.2)))) else none) else none) else (if (v15 &&& (63 : Int32)) = (42 : Int32) then ((sk_scr xs L0 (s1.1 + (1 : Int32))).bind fun v770 => if s1.2.1.2.1 (S.1.1 + 1) = (9, 0) then ((fX10_image s1.2.1 s1.2.2 (S.1.1 + 1) v770).bind fun b776 => (sk_scr xs L0 (s1.1 + (1 : Int32))).bind fun v777 => if s1.2.1.2.1 (S4.1.1 + 1) = (10, 0) then ((fX11_image s1.2.1 b776.2 (S4.1.1 + 1) v777).bind fun b783 => if b776.1 = b783.1 then (some (.inl (s1.1 + 6, s1.2.1, b783.2))) else (some (.inr (false, s1.2.1, b783.2)))) else none) else none) else (if (v15 &&& (63 : Int32)) = (43 : Int32) then ((sk_scr xs L0 (s1.1 + (1 : Int32))).bind fun v787 => if s1.2.1.2.1 (S.1.1 + 1) = (9, 0) then ((fX10_restore s1.2.1 s1.2.2 (S.1.1 + 1) v787).bind fun b793 => (sk_scr xs L0 (s1.1 + (1 : Int32))).bind fun v794 => if s1.2.1.2.1 (S4.1.1 + 1) = (10, 0) then ((fX11_restore s1.2.1 b793.2 (S4.1.1 + 1) v794).bind fun b800 => if b793.1 = b800.1 then (some (.inl (s1.1 + 6, s1.2.1, b800.2))) else (some (.inr (false, s1.2.1, b800.2)))) else none) else none) else (if (v15 &&& (63 : Int32)) = (44 : Int32) then ((sk_scr xs L0 (s1.1 + (1 : Int32))).bind fun v804 => if s1.2.1.2.1 (S.1.1 + 1) = (9, 0) then ((fX10_count s1.2.1 s1.2.2 (S.1.1 + 1) v804).bind fun v806 => (sk_scr xs L0 (s1.1 + (1 : Int32))).bind fun v809 => if s1.2.1.2.1 (S4.1.1 + 1) = (10, 0) then ((fX11_count s1.2.1 s1.2.2 (S4.1.1 + 1) v809).bind fun b815 => if v806 = b815.1 then (some (.inl (s1.1 + 6, s1.2.1, b815.2))) else (some (.inr (false, s1.2.1, b815.2)))) else none) else none) else (some (.inl (s1.1 + 6, s1.2.1, s1.2.2))))))))))))))))))))))))))))))))))))))))))))))))
set_option maxHeartbeats 40000000 in
theorem mono_fL_law_L18 (S : sk_S) (L0 : Nat) (S4 : sk_S) (xs : Nat → Int32) : ∀ z, sk_Mo ((fun (z : Int32 × sk_S × sk_D) => z.2.1.1) z) (Sum.elim (fun (z : Int32 × sk_S × sk_D) => z.2.1.1) (fun (z : Bool × sk_S × sk_D) => z.2.1.1)) (fL_law_L18 S L0 S4 xs z) := by
  intro z
  show sk_Mo z.2.1.1 _ _
  unfold fL_law_L18
  refine mo_ite ?_ ?_
  · exact mo_some ⟨Nat.le_refl _, Nat.le_refl _⟩
  refine mo_bind (fun _ => ?_)
  refine mo_ite ?_ ?_
  · refine mo_bind (fun _ => ?_)
    refine mo_bind (fun _ => ?_)
    refine mo_bind (fun _ => ?_)
    refine mo_bind (fun _ => ?_)
    refine mo_bind (fun _ => ?_)
    refine mo_ite ?_ ?_
    · refine mo_bind (fun _ => ?_)
      refine mo_bind (fun _ => ?_)
      refine mo_bind (fun _ => ?_)
      refine mo_bind (fun _ => ?_)
      refine mo_bind (fun _ => ?_)
      refine mo_bind (fun _ => ?_)
      refine mo_ite ?_ ?_
      · refine mo_bind (fun _ => ?_)
        refine mo_ite ?_ ?_
        · exact mo_some ⟨Nat.le_refl _, Nat.le_refl _⟩
        exact mo_some ⟨Nat.le_refl _, Nat.le_refl _⟩
      exact mo_none
    exact mo_none
  refine mo_ite ?_ ?_
  · refine mo_bind (fun _ => ?_)
    refine mo_ite ?_ ?_
    · refine mo_bind (fun _ => ?_)
      refine mo_bind (fun _ => ?_)
      refine mo_ite ?_ ?_
      · refine mo_bind (fun _ => ?_)
        refine mo_ite ?_ ?_
        · exact mo_some ⟨Nat.le_refl _, Nat.le_refl _⟩
        exact mo_some ⟨Nat.le_refl _, Nat.le_refl _⟩
      exact mo_none
    exact mo_none
  refine mo_ite ?_ ?_
  · refine mo_bind (fun _ => ?_)
    refine mo_ite ?_ ?_
    · refine mo_bind (fun _ => ?_)
      refine mo_bind (fun _ => ?_)
      refine mo_ite ?_ ?_
      · refine mo_bind (fun _ => ?_)
        refine mo_ite ?_ ?_
        · exact mo_some ⟨Nat.le_refl _, Nat.le_refl _⟩
        exact mo_some ⟨Nat.le_refl _, Nat.le_refl _⟩
      exact mo_none
    exact mo_none
  refine mo_ite ?_ ?_
  · refine mo_bind (fun _ => ?_)
    refine mo_bind (fun _ => ?_)
    refine mo_ite ?_ ?_
    · refine mo_bind (fun _ => ?_)
      refine mo_bind (fun _ => ?_)
      refine mo_bind (fun _ => ?_)
      refine mo_ite ?_ ?_
      · refine mo_bind (fun _ => ?_)
        refine mo_ite ?_ ?_
        · exact mo_some ⟨Nat.le_refl _, Nat.le_refl _⟩
        exact mo_some ⟨Nat.le_refl _, Nat.le_refl _⟩
      exact mo_none
    exact mo_none
  refine mo_ite ?_ ?_
  · refine mo_bind (fun _ => ?_)
    refine mo_ite ?_ ?_
    · refine mo_bind (fun _ => ?_)
      refine mo_bind (fun _ => ?_)
      refine mo_ite ?_ ?_
      · refine mo_bind (fun _ => ?_)
        refine mo_ite ?_ ?_
        · exact mo_some ⟨Nat.le_refl _, Nat.le_refl _⟩
        exact mo_some ⟨Nat.le_refl _, Nat.le_refl _⟩
      exact mo_none
    exact mo_none
  refine mo_ite ?_ ?_
  · refine mo_bind (fun _ => ?_)
    refine mo_ite ?_ ?_
    · refine mo_bind (fun _ => ?_)
      refine mo_bind (fun _ => ?_)
      refine mo_ite ?_ ?_
      · refine mo_bind (fun _ => ?_)
        refine mo_ite ?_ ?_
        · exact mo_some ⟨Nat.le_refl _, Nat.le_refl _⟩
        exact mo_some ⟨Nat.le_refl _, Nat.le_refl _⟩
      exact mo_none
    exact mo_none
  refine mo_ite ?_ ?_
  · refine mo_ite ?_ ?_
    · refine mo_bind (fun _ => ?_)
      refine mo_ite ?_ ?_
      · refine mo_bind (fun _ => ?_)
        refine mo_ite ?_ ?_
        · exact mo_some ⟨Nat.le_refl _, Nat.le_refl _⟩
        exact mo_some ⟨Nat.le_refl _, Nat.le_refl _⟩
      exact mo_none
    exact mo_none
  refine mo_ite ?_ ?_
  · refine mo_bind (fun _ => ?_)
    refine mo_ite ?_ ?_
    · refine mo_bind (fun _ => ?_)
      refine mo_bind (fun _ => ?_)
      refine mo_ite ?_ ?_
      · refine mo_bind (fun _ => ?_)
        refine mo_ite ?_ ?_
        · exact mo_some ⟨Nat.le_refl _, Nat.le_refl _⟩
        exact mo_some ⟨Nat.le_refl _, Nat.le_refl _⟩
      exact mo_none
    exact mo_none
  refine mo_ite ?_ ?_
  · refine mo_bind (fun _ => ?_)
    refine mo_ite ?_ ?_
    · refine mo_bind (fun _ => ?_)
      refine mo_bind (fun _ => ?_)
      refine mo_ite ?_ ?_
      · refine mo_bind (fun _ => ?_)
        refine mo_ite ?_ ?_
        · exact mo_some ⟨Nat.le_refl _, Nat.le_refl _⟩
        exact mo_some ⟨Nat.le_refl _, Nat.le_refl _⟩
      exact mo_none
    exact mo_none
  refine mo_ite ?_ ?_
  · refine mo_bind (fun _ => ?_)
    refine mo_ite ?_ ?_
    · refine mo_bind (fun _ => ?_)
      refine mo_bind (fun _ => ?_)
      refine mo_ite ?_ ?_
      · refine mo_bind (fun _ => ?_)
        refine mo_ite ?_ ?_
        · exact mo_some ⟨Nat.le_refl _, Nat.le_refl _⟩
        exact mo_some ⟨Nat.le_refl _, Nat.le_refl _⟩
      exact mo_none
    exact mo_none
  refine mo_ite ?_ ?_
  · refine mo_bind (fun _ => ?_)
    refine mo_ite ?_ ?_
    · refine mo_bind (fun _ => ?_)
      refine mo_bind (fun _ => ?_)
      refine mo_ite ?_ ?_
      · refine mo_bind (fun _ => ?_)
        refine mo_ite ?_ ?_
        · exact mo_some ⟨Nat.le_refl _, Nat.le_refl _⟩
        exact mo_some ⟨Nat.le_refl _, Nat.le_refl _⟩
      exact mo_none
    exact mo_none
  refine mo_ite ?_ ?_
  · refine mo_bind (fun _ => ?_)
    refine mo_ite ?_ ?_
    · refine mo_bind (fun _ => ?_)
      refine mo_bind (fun _ => ?_)
      refine mo_ite ?_ ?_
      · refine mo_bind (fun _ => ?_)
        refine mo_ite ?_ ?_
        · exact mo_some ⟨Nat.le_refl _, Nat.le_refl _⟩
        exact mo_some ⟨Nat.le_refl _, Nat.le_refl _⟩
      exact mo_none
    exact mo_none
  refine mo_ite ?_ ?_
  · refine mo_bind (fun _ => ?_)
    refine mo_ite ?_ ?_
    · refine mo_bind (fun _ => ?_)
      refine mo_bind (fun _ => ?_)
      refine mo_ite ?_ ?_
      · refine mo_bind (fun _ => ?_)
        refine mo_ite ?_ ?_
        · exact mo_some ⟨Nat.le_refl _, Nat.le_refl _⟩
        exact mo_some ⟨Nat.le_refl _, Nat.le_refl _⟩
      exact mo_none
    exact mo_none
  refine mo_ite ?_ ?_
  · refine mo_bind (fun _ => ?_)
    refine mo_bind (fun _ => ?_)
    refine mo_ite ?_ ?_
    · refine mo_bind (fun _ => ?_)
      refine mo_bind (fun _ => ?_)
      refine mo_bind (fun _ => ?_)
      refine mo_ite ?_ ?_
      · refine mo_bind (fun _ => ?_)
        refine mo_ite ?_ ?_
        · exact mo_some ⟨Nat.le_refl _, Nat.le_refl _⟩
        exact mo_some ⟨Nat.le_refl _, Nat.le_refl _⟩
      exact mo_none
    exact mo_none
  refine mo_ite ?_ ?_
  · refine mo_bind (fun _ => ?_)
    refine mo_ite ?_ ?_
    · refine mo_bind (fun _ => ?_)
      refine mo_bind (fun _ => ?_)
      refine mo_ite ?_ ?_
      · refine mo_bind (fun _ => ?_)
        refine mo_ite ?_ ?_
        · exact mo_some ⟨Nat.le_refl _, Nat.le_refl _⟩
        exact mo_some ⟨Nat.le_refl _, Nat.le_refl _⟩
      exact mo_none
    exact mo_none
  refine mo_ite ?_ ?_
  · refine mo_bind (fun _ => ?_)
    refine mo_bind (fun _ => ?_)
    refine mo_ite ?_ ?_
    · refine mo_bind (fun _ => ?_)
      refine mo_bind (fun _ => ?_)
      refine mo_bind (fun _ => ?_)
      refine mo_ite ?_ ?_
      · refine mo_bind (fun _ => ?_)
        refine mo_ite ?_ ?_
        · exact mo_some ⟨Nat.le_refl _, Nat.le_refl _⟩
        exact mo_some ⟨Nat.le_refl _, Nat.le_refl _⟩
      exact mo_none
    exact mo_none
  refine mo_ite ?_ ?_
  · refine mo_bind (fun _ => ?_)
    refine mo_ite ?_ ?_
    · refine mo_A (S1 := z.2.1) ⟨Nat.le_refl _, Nat.le_refl _⟩ (monoX10_soonest _ _ _ _) (fun _ => ?_)
      refine mo_bind (fun _ => ?_)
      refine mo_ite ?_ ?_
      · refine mo_bind (fun _ => ?_)
        refine mo_ite ?_ ?_
        · exact mo_some ⟨Nat.le_refl _, Nat.le_refl _⟩
        exact mo_some ⟨Nat.le_refl _, Nat.le_refl _⟩
      exact mo_none
    exact mo_none
  refine mo_ite ?_ ?_
  · refine mo_bind (fun _ => ?_)
    refine mo_bind (fun _ => ?_)
    refine mo_ite ?_ ?_
    · refine mo_A (S1 := z.2.1) ⟨Nat.le_refl _, Nat.le_refl _⟩ (monoX10_way _ _ _ _ _) (fun _ => ?_)
      refine mo_bind (fun _ => ?_)
      refine mo_bind (fun _ => ?_)
      refine mo_ite ?_ ?_
      · refine mo_bind (fun _ => ?_)
        refine mo_ite ?_ ?_
        · exact mo_some ⟨Nat.le_refl _, Nat.le_refl _⟩
        exact mo_some ⟨Nat.le_refl _, Nat.le_refl _⟩
      exact mo_none
    exact mo_none
  refine mo_ite ?_ ?_
  · refine mo_bind (fun _ => ?_)
    refine mo_ite ?_ ?_
    · refine mo_A (S1 := z.2.1) ⟨Nat.le_refl _, Nat.le_refl _⟩ (monoX10_shown _ _ _ _) (fun _ => ?_)
      refine mo_bind (fun _ => ?_)
      refine mo_ite ?_ ?_
      · refine mo_bind (fun _ => ?_)
        refine mo_ite ?_ ?_
        · exact mo_some ⟨Nat.le_refl _, Nat.le_refl _⟩
        exact mo_some ⟨Nat.le_refl _, Nat.le_refl _⟩
      exact mo_none
    exact mo_none
  refine mo_ite ?_ ?_
  · refine mo_bind (fun _ => ?_)
    refine mo_bind (fun _ => ?_)
    refine mo_ite ?_ ?_
    · refine mo_A (S1 := z.2.1) ⟨Nat.le_refl _, Nat.le_refl _⟩ (monoX10_shownBy _ _ _ _ _) (fun _ => ?_)
      refine mo_bind (fun _ => ?_)
      refine mo_bind (fun _ => ?_)
      refine mo_ite ?_ ?_
      · refine mo_bind (fun _ => ?_)
        refine mo_ite ?_ ?_
        · exact mo_some ⟨Nat.le_refl _, Nat.le_refl _⟩
        exact mo_some ⟨Nat.le_refl _, Nat.le_refl _⟩
      exact mo_none
    exact mo_none
  refine mo_ite ?_ ?_
  · refine mo_bind (fun _ => ?_)
    refine mo_bind (fun _ => ?_)
    refine mo_ite ?_ ?_
    · refine mo_A (S1 := z.2.1) ⟨Nat.le_refl _, Nat.le_refl _⟩ (monoX10_rows _ _ _ _ _) (fun _ => ?_)
      refine mo_bind (fun _ => ?_)
      refine mo_bind (fun _ => ?_)
      refine mo_ite ?_ ?_
      · refine mo_bind (fun _ => ?_)
        refine mo_ite ?_ ?_
        · exact mo_some ⟨Nat.le_refl _, Nat.le_refl _⟩
        exact mo_some ⟨Nat.le_refl _, Nat.le_refl _⟩
      exact mo_none
    exact mo_none
  refine mo_ite ?_ ?_
  · refine mo_ite ?_ ?_
    · refine mo_A (S1 := z.2.1) ⟨Nat.le_refl _, Nat.le_refl _⟩ (monoX10_most _ _ _) (fun _ => ?_)
      refine mo_ite ?_ ?_
      · refine mo_bind (fun _ => ?_)
        refine mo_ite ?_ ?_
        · exact mo_some ⟨Nat.le_refl _, Nat.le_refl _⟩
        exact mo_some ⟨Nat.le_refl _, Nat.le_refl _⟩
      exact mo_none
    exact mo_none
  refine mo_ite ?_ ?_
  · refine mo_ite ?_ ?_
    · refine mo_A (S1 := z.2.1) ⟨Nat.le_refl _, Nat.le_refl _⟩ (monoX10_stands _ _ _) (fun _ => ?_)
      refine mo_ite ?_ ?_
      · refine mo_bind (fun _ => ?_)
        refine mo_ite ?_ ?_
        · exact mo_some ⟨Nat.le_refl _, Nat.le_refl _⟩
        exact mo_some ⟨Nat.le_refl _, Nat.le_refl _⟩
      exact mo_none
    exact mo_none
  refine mo_ite ?_ ?_
  · refine mo_bind (fun _ => ?_)
    refine mo_ite ?_ ?_
    · refine mo_bind (fun _ => ?_)
      refine mo_bind (fun _ => ?_)
      refine mo_ite ?_ ?_
      · refine mo_bind (fun _ => ?_)
        refine mo_ite ?_ ?_
        · exact mo_some ⟨Nat.le_refl _, Nat.le_refl _⟩
        exact mo_some ⟨Nat.le_refl _, Nat.le_refl _⟩
      exact mo_none
    exact mo_none
  refine mo_ite ?_ ?_
  · refine mo_bind (fun _ => ?_)
    refine mo_ite ?_ ?_
    · refine mo_bind (fun _ => ?_)
      refine mo_bind (fun _ => ?_)
      refine mo_ite ?_ ?_
      · refine mo_bind (fun _ => ?_)
        refine mo_ite ?_ ?_
        · exact mo_some ⟨Nat.le_refl _, Nat.le_refl _⟩
        exact mo_some ⟨Nat.le_refl _, Nat.le_refl _⟩
      exact mo_none
    exact mo_none
  refine mo_ite ?_ ?_
  · refine mo_bind (fun _ => ?_)
    refine mo_ite ?_ ?_
    · refine mo_bind (fun _ => ?_)
      refine mo_bind (fun _ => ?_)
      refine mo_ite ?_ ?_
      · refine mo_bind (fun _ => ?_)
        refine mo_ite ?_ ?_
        · exact mo_some ⟨Nat.le_refl _, Nat.le_refl _⟩
        exact mo_some ⟨Nat.le_refl _, Nat.le_refl _⟩
      exact mo_none
    exact mo_none
  refine mo_ite ?_ ?_
  · refine mo_bind (fun _ => ?_)
    refine mo_bind (fun _ => ?_)
    refine mo_ite ?_ ?_
    · refine mo_bind (fun _ => ?_)
      refine mo_bind (fun _ => ?_)
      refine mo_bind (fun _ => ?_)
      refine mo_ite ?_ ?_
      · refine mo_bind (fun _ => ?_)
        refine mo_ite ?_ ?_
        · exact mo_some ⟨Nat.le_refl _, Nat.le_refl _⟩
        exact mo_some ⟨Nat.le_refl _, Nat.le_refl _⟩
      exact mo_none
    exact mo_none
  refine mo_ite ?_ ?_
  · refine mo_bind (fun _ => ?_)
    refine mo_bind (fun _ => ?_)
    refine mo_bind (fun _ => ?_)
    refine mo_ite ?_ ?_
    · refine mo_bind (fun _ => ?_)
      refine mo_bind (fun _ => ?_)
      refine mo_bind (fun _ => ?_)
      refine mo_bind (fun _ => ?_)
      refine mo_ite ?_ ?_
      · refine mo_bind (fun _ => ?_)
        refine mo_ite ?_ ?_
        · exact mo_some ⟨Nat.le_refl _, Nat.le_refl _⟩
        exact mo_some ⟨Nat.le_refl _, Nat.le_refl _⟩
      exact mo_none
    exact mo_none
  refine mo_ite ?_ ?_
  · refine mo_bind (fun _ => ?_)
    refine mo_ite ?_ ?_
    · refine mo_bind (fun _ => ?_)
      refine mo_bind (fun _ => ?_)
      refine mo_ite ?_ ?_
      · refine mo_bind (fun _ => ?_)
        refine mo_ite ?_ ?_
        · exact mo_some ⟨Nat.le_refl _, Nat.le_refl _⟩
        exact mo_some ⟨Nat.le_refl _, Nat.le_refl _⟩
      exact mo_none
    exact mo_none
  refine mo_ite ?_ ?_
  · refine mo_ite ?_ ?_
    · refine mo_bind (fun _ => ?_)
      refine mo_ite ?_ ?_
      · refine mo_bind (fun _ => ?_)
        refine mo_ite ?_ ?_
        · exact mo_some ⟨Nat.le_refl _, Nat.le_refl _⟩
        exact mo_some ⟨Nat.le_refl _, Nat.le_refl _⟩
      exact mo_none
    exact mo_none
  refine mo_ite ?_ ?_
  · refine mo_bind (fun _ => ?_)
    refine mo_ite ?_ ?_
    · refine mo_bind (fun _ => ?_)
      refine mo_bind (fun _ => ?_)
      refine mo_ite ?_ ?_
      · refine mo_bind (fun _ => ?_)
        refine mo_ite ?_ ?_
        · exact mo_some ⟨Nat.le_refl _, Nat.le_refl _⟩
        exact mo_some ⟨Nat.le_refl _, Nat.le_refl _⟩
      exact mo_none
    exact mo_none
  refine mo_ite ?_ ?_
  · refine mo_bind (fun _ => ?_)
    refine mo_ite ?_ ?_
    · refine mo_bind (fun _ => ?_)
      refine mo_bind (fun _ => ?_)
      refine mo_ite ?_ ?_
      · refine mo_bind (fun _ => ?_)
        refine mo_ite ?_ ?_
        · exact mo_some ⟨Nat.le_refl _, Nat.le_refl _⟩
        exact mo_some ⟨Nat.le_refl _, Nat.le_refl _⟩
      exact mo_none
    exact mo_none
  refine mo_ite ?_ ?_
  · refine mo_bind (fun _ => ?_)
    refine mo_ite ?_ ?_
    · refine mo_bind (fun _ => ?_)
      refine mo_bind (fun _ => ?_)
      refine mo_ite ?_ ?_
      · refine mo_bind (fun _ => ?_)
        refine mo_ite ?_ ?_
        · exact mo_some ⟨Nat.le_refl _, Nat.le_refl _⟩
        exact mo_some ⟨Nat.le_refl _, Nat.le_refl _⟩
      exact mo_none
    exact mo_none
  refine mo_ite ?_ ?_
  · refine mo_ite ?_ ?_
    · refine mo_bind (fun _ => ?_)
      refine mo_ite ?_ ?_
      · refine mo_bind (fun _ => ?_)
        refine mo_ite ?_ ?_
        · exact mo_some ⟨Nat.le_refl _, Nat.le_refl _⟩
        exact mo_some ⟨Nat.le_refl _, Nat.le_refl _⟩
      exact mo_none
    exact mo_none
  refine mo_ite ?_ ?_
  · refine mo_bind (fun _ => ?_)
    refine mo_ite ?_ ?_
    · refine mo_bind (fun _ => ?_)
      refine mo_bind (fun _ => ?_)
      refine mo_ite ?_ ?_
      · refine mo_bind (fun _ => ?_)
        refine mo_ite ?_ ?_
        · exact mo_some ⟨Nat.le_refl _, Nat.le_refl _⟩
        exact mo_some ⟨Nat.le_refl _, Nat.le_refl _⟩
      exact mo_none
    exact mo_none
  refine mo_ite ?_ ?_
  · refine mo_bind (fun _ => ?_)
    refine mo_ite ?_ ?_
    · refine mo_bind (fun _ => ?_)
      refine mo_bind (fun _ => ?_)
      refine mo_ite ?_ ?_
      · refine mo_bind (fun _ => ?_)
        refine mo_ite ?_ ?_
        · exact mo_some ⟨Nat.le_refl _, Nat.le_refl _⟩
        exact mo_some ⟨Nat.le_refl _, Nat.le_refl _⟩
      exact mo_none
    exact mo_none
  refine mo_ite ?_ ?_
  · refine mo_bind (fun _ => ?_)
    refine mo_bind (fun _ => ?_)
    refine mo_ite ?_ ?_
    · refine mo_bind (fun _ => ?_)
      refine mo_bind (fun _ => ?_)
      refine mo_bind (fun _ => ?_)
      refine mo_ite ?_ ?_
      · refine mo_bind (fun _ => ?_)
        refine mo_ite ?_ ?_
        · exact mo_some ⟨Nat.le_refl _, Nat.le_refl _⟩
        exact mo_some ⟨Nat.le_refl _, Nat.le_refl _⟩
      exact mo_none
    exact mo_none
  refine mo_ite ?_ ?_
  · refine mo_bind (fun _ => ?_)
    refine mo_ite ?_ ?_
    · refine mo_bind (fun _ => ?_)
      refine mo_bind (fun _ => ?_)
      refine mo_ite ?_ ?_
      · refine mo_bind (fun _ => ?_)
        refine mo_ite ?_ ?_
        · exact mo_some ⟨Nat.le_refl _, Nat.le_refl _⟩
        exact mo_some ⟨Nat.le_refl _, Nat.le_refl _⟩
      exact mo_none
    exact mo_none
  refine mo_ite ?_ ?_
  · refine mo_ite ?_ ?_
    · refine mo_bind (fun _ => ?_)
      refine mo_ite ?_ ?_
      · refine mo_bind (fun _ => ?_)
        refine mo_ite ?_ ?_
        · exact mo_some ⟨Nat.le_refl _, Nat.le_refl _⟩
        exact mo_some ⟨Nat.le_refl _, Nat.le_refl _⟩
      exact mo_none
    exact mo_none
  refine mo_ite ?_ ?_
  · refine mo_bind (fun _ => ?_)
    refine mo_bind (fun _ => ?_)
    refine mo_bind (fun _ => ?_)
    refine mo_ite ?_ ?_
    · refine mo_bind (fun _ => ?_)
      refine mo_bind (fun _ => ?_)
      refine mo_bind (fun _ => ?_)
      refine mo_bind (fun _ => ?_)
      refine mo_ite ?_ ?_
      · refine mo_bind (fun _ => ?_)
        refine mo_ite ?_ ?_
        · exact mo_some ⟨Nat.le_refl _, Nat.le_refl _⟩
        exact mo_some ⟨Nat.le_refl _, Nat.le_refl _⟩
      exact mo_none
    exact mo_none
  refine mo_ite ?_ ?_
  · refine mo_bind (fun _ => ?_)
    refine mo_bind (fun _ => ?_)
    refine mo_bind (fun _ => ?_)
    refine mo_bind (fun _ => ?_)
    refine mo_ite ?_ ?_
    · refine mo_bind (fun _ => ?_)
      refine mo_bind (fun _ => ?_)
      refine mo_bind (fun _ => ?_)
      refine mo_bind (fun _ => ?_)
      refine mo_bind (fun _ => ?_)
      refine mo_ite ?_ ?_
      · refine mo_bind (fun _ => ?_)
        refine mo_ite ?_ ?_
        · exact mo_some ⟨Nat.le_refl _, Nat.le_refl _⟩
        exact mo_some ⟨Nat.le_refl _, Nat.le_refl _⟩
      exact mo_none
    exact mo_none
  refine mo_ite ?_ ?_
  · refine mo_bind (fun _ => ?_)
    refine mo_bind (fun _ => ?_)
    refine mo_ite ?_ ?_
    · refine mo_A (S1 := z.2.1) ⟨Nat.le_refl _, Nat.le_refl _⟩ (monoX10_lists _ _ _ _ _) (fun _ => ?_)
      refine mo_bind (fun _ => ?_)
      refine mo_bind (fun _ => ?_)
      refine mo_ite ?_ ?_
      · refine mo_bind (fun _ => ?_)
        refine mo_ite ?_ ?_
        · exact mo_some ⟨Nat.le_refl _, Nat.le_refl _⟩
        exact mo_some ⟨Nat.le_refl _, Nat.le_refl _⟩
      exact mo_none
    exact mo_none
  refine mo_ite ?_ ?_
  · refine mo_bind (fun _ => ?_)
    refine mo_ite ?_ ?_
    · refine mo_bind (fun _ => ?_)
      refine mo_bind (fun _ => ?_)
      refine mo_ite ?_ ?_
      · refine mo_bind (fun _ => ?_)
        refine mo_ite ?_ ?_
        · exact mo_some ⟨Nat.le_refl _, Nat.le_refl _⟩
        exact mo_some ⟨Nat.le_refl _, Nat.le_refl _⟩
      exact mo_none
    exact mo_none
  refine mo_ite ?_ ?_
  · refine mo_bind (fun _ => ?_)
    refine mo_ite ?_ ?_
    · refine mo_bind (fun _ => ?_)
      refine mo_bind (fun _ => ?_)
      refine mo_ite ?_ ?_
      · refine mo_bind (fun _ => ?_)
        refine mo_ite ?_ ?_
        · exact mo_some ⟨Nat.le_refl _, Nat.le_refl _⟩
        exact mo_some ⟨Nat.le_refl _, Nat.le_refl _⟩
      exact mo_none
    exact mo_none
  refine mo_ite ?_ ?_
  · refine mo_bind (fun _ => ?_)
    refine mo_ite ?_ ?_
    · refine mo_bind (fun _ => ?_)
      refine mo_bind (fun _ => ?_)
      refine mo_ite ?_ ?_
      · refine mo_bind (fun _ => ?_)
        refine mo_ite ?_ ?_
        · exact mo_some ⟨Nat.le_refl _, Nat.le_refl _⟩
        exact mo_some ⟨Nat.le_refl _, Nat.le_refl _⟩
      exact mo_none
    exact mo_none
  exact mo_some ⟨Nat.le_refl _, Nat.le_refl _⟩
noncomputable def fL_law (xs : Nat → Int32) (L0 : Nat) (S : sk_S) (d : sk_D) : Option (Bool × sk_S × sk_D) :=
  (fX10_init (sk_nS S 9 0 (sk_N 9)) (sk_nD S d) (S.1.1 + 1)).bind fun b6 => (fX11_init (sk_nS b6.1 10 0 (sk_N 10)) (sk_nD b6.1 b6.2) (b6.1.1.1 + 1)).bind fun b12 => (sk_itr (fL_law_L18 S L0 b6.1 xs) ((0 : Int32), b12.1, b12.2)).bind fun x1 => some x1
set_option maxHeartbeats 40000000 in
theorem monoL_law (xs : Nat → Int32) (L0 : Nat) (S : sk_S) (d : sk_D) : sk_Mo S.1 (fun (z : Bool × sk_S × sk_D) => z.2.1.1) (fL_law xs L0 S d) := by
  unfold fL_law
  repeat' (first | exact mo_none | exact mo_some ⟨Nat.le_refl _, Nat.le_refl _⟩ | refine mo_pR (fun _ => ?_) | refine mo_mk (fun _ => ?_) | refine mo_sR24 (fun _ => ?_) | refine mo_sR25 (fun _ => ?_) | refine mo_A ⟨Nat.le_refl _, Nat.le_refl _⟩ (monoX10_init _ _ _) (fun _ => ?_) | refine mo_A (sk_nS_le _ _ _ _) (monoX10_init _ _ _) (fun _ => ?_) | refine mo_A ⟨Nat.le_refl _, Nat.le_refl _⟩ (monoX11_init _ _ _) (fun _ => ?_) | refine mo_A (sk_nS_le _ _ _ _) (monoX11_init _ _ _) (fun _ => ?_) | refine mo_A ⟨Nat.le_refl _, Nat.le_refl _⟩ (monoX10_soonest _ _ _ _) (fun _ => ?_) | refine mo_A (sk_nS_le _ _ _ _) (monoX10_soonest _ _ _ _) (fun _ => ?_) | refine mo_A ⟨Nat.le_refl _, Nat.le_refl _⟩ (monoX10_way _ _ _ _ _) (fun _ => ?_) | refine mo_A (sk_nS_le _ _ _ _) (monoX10_way _ _ _ _ _) (fun _ => ?_) | refine mo_A ⟨Nat.le_refl _, Nat.le_refl _⟩ (monoX10_shown _ _ _ _) (fun _ => ?_) | refine mo_A (sk_nS_le _ _ _ _) (monoX10_shown _ _ _ _) (fun _ => ?_) | refine mo_A ⟨Nat.le_refl _, Nat.le_refl _⟩ (monoX10_shownBy _ _ _ _ _) (fun _ => ?_) | refine mo_A (sk_nS_le _ _ _ _) (monoX10_shownBy _ _ _ _ _) (fun _ => ?_) | refine mo_A ⟨Nat.le_refl _, Nat.le_refl _⟩ (monoX10_rows _ _ _ _ _) (fun _ => ?_) | refine mo_A (sk_nS_le _ _ _ _) (monoX10_rows _ _ _ _ _) (fun _ => ?_) | refine mo_A ⟨Nat.le_refl _, Nat.le_refl _⟩ (monoX10_most _ _ _) (fun _ => ?_) | refine mo_A (sk_nS_le _ _ _ _) (monoX10_most _ _ _) (fun _ => ?_) | refine mo_A ⟨Nat.le_refl _, Nat.le_refl _⟩ (monoX10_stands _ _ _) (fun _ => ?_) | refine mo_A (sk_nS_le _ _ _ _) (monoX10_stands _ _ _) (fun _ => ?_) | refine mo_A ⟨Nat.le_refl _, Nat.le_refl _⟩ (monoX10_lists _ _ _ _ _) (fun _ => ?_) | refine mo_A (sk_nS_le _ _ _ _) (monoX10_lists _ _ _ _ _) (fun _ => ?_) | refine mo_bindQ (q := (fun (z : Bool × sk_S × sk_D) => z.2.1.1)) (mo_itr (μ := (fun (z : Int32 × sk_S × sk_D) => z.2.1.1)) (mono_fL_law_L18 _ _ _ _) _) (fun _ => ?_) | refine mo_ite ?_ ?_ | refine mo_bind (fun _ => ?_) | dsimp only | split)
