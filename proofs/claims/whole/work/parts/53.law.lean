section LW
variable {p : Program} {l : Launch} {e : Env} {s : State} {m : MethodId} {args : Array Value} {below : List Frame} {meth : Method} {c : Code} {H : Heap} {locs : List Loc} {cells slots : Nat} {Q : State → Prop} {ls : Array Slot} {E : m_E} {A : Nat → Prop} {b L ax am : Nat} {xs : Nat → Int32} {f g : Nat → Nat} {N : Nat} {Rel : T_S → T_R → Prop}
set_option maxHeartbeats 4000000 in
set_option maxRecDepth 100000 in
theorem lw_c5 (X : m_X p s m args c cL_law 4 RL E A) (hA : ∀ q, s.heap.size ≤ q → A q) (hX : va_X b L xs s s.heap) (hbl : b < s.heap.size) (hbA : ¬ A b) (P : P_sees N Rel) {x : T_S} {y : T_R} (hR : Rel x y) {i : Int32} (i1 : vp_in (i + 1) L) (i2 : vp_in (i + 2) L) (i3 : vp_in (i + 3) L) (i4 : vp_in (i + 4) L) (hc1 : cells ≤ 600000) (hc2 : slots ≤ 7302250) (hW : m_H E A (wL E ax am f g x y) s.heap H locs) (hl : lv_has ls 4 [(0, .ref b), (1, .ref ax), (2, .ref am), (3, .int i)]) (kk : ∀ (x : T_S) (y : T_R) (H : Heap) (locs : List Loc), Rel x y → m_H E A (wL E ax am f g x y) s.heap H locs → W p l e room_1 s m args below meth c H locs cells slots Q (F0 m 1455 ls [])) : W p l e room_1 s m args below meth c H locs cells slots Q (F0 m 383 ls []) := by
  obtain ⟨hx, hb, -, hown, hts, hK, hN, hG⟩ := id X
  refine lv_aload_n hx hb dL_law_383 rfl (lv_at hl 1 rfl) ?_
  refine lv_aload_n hx hb dL_law_384 rfl (lv_at hl 0 rfl) ?_
  refine lv_iload_n hx hb dL_law_385 rfl (lv_at hl 3 rfl) ?_
  refine lv_iconst (v := (1 : Int32)) hx hb dL_law_386 (by decide) ?_
  refine lv_iadd hx hb dL_law_387 ?_
  refine va_sld hx hb hX hbl hbA hW.2.2 i1 dL_law_388 ?_
  refine lv_aload_n hx hb dL_law_389 rfl (lv_at hl 0 rfl) ?_
  refine lv_iload_n hx hb dL_law_390 rfl (lv_at hl 3 rfl) ?_
  refine lv_iconst (v := (2 : Int32)) hx hb dL_law_391 (by decide) ?_
  refine lv_iadd hx hb dL_law_392 ?_
  refine va_sld hx hb hX hbl hbA hW.2.2 i2 dL_law_393 ?_
  refine lv_aload_n hx hb dL_law_394 rfl (lv_at hl 0 rfl) ?_
  refine lv_iload_n hx hb dL_law_395 rfl (lv_at hl 3 rfl) ?_
  refine lv_iconst (v := (3 : Int32)) hx hb dL_law_396 (by decide) ?_
  refine lv_iadd hx hb dL_law_397 ?_
  refine va_sld hx hb hX hbl hbA hW.2.2 i3 dL_law_398 ?_
  obtain ⟨u, v, hu, hv, huv, hR2⟩ := P x y (xs (i + (1 : Int32)).toNatClampNeg) (xs (i + (2 : Int32)).toNatClampNeg) (xs (i + (3 : Int32)).toNatClampNeg) hR
  refine m_callV X hW hA hl.1 lkL_36 (c_S_sees l E _ N ax (f 21) (f 42) (f 63) (f 84) (f 88) (f 92) (f 97) (f 159) (f 165) (f 204) (f 0) (f 7) (f 11) (f 19) (f 20) (f 1) (f 4) (f 5) (f 2) (f 3) (f 6) (Shed_clearness (S_now x)) (Shed_isKept (S_now x)) (Floor_pillars (Shed_floor (S_now x))) (Floor_weavers (Shed_floor (S_now x))) (Floor_place (Shed_floor (S_now x))) (Floor_way (Shed_floor (S_now x))) (Floor_farSquare (Shed_floor (S_now x))) (xs (i + (1 : Int32)).toNatClampNeg) (xs (i + (2 : Int32)).toNatClampNeg) (xs (i + (3 : Int32)).toNatClampNeg) u hu) [0, 1, 2, 3, 4, 7] (by decide +kernel) (by rfl) (by rfl) (ws' := wL E ax am f g x y) (m_putS [some 0, some 1, some 2, some 3, some 4, none, none, some 5, none, none, none, none, none, none, none, none, none, none, none, none, none, none, none, none, none, none, none, none, none, none, none, none, none, none, none, none, none, none, none, none, none, none, none, none, none, none, none, none, none, none, none, none, none, none, none, none, none, none, none, none, none, none, none, none, none, none, none, none, none, none, none, none, none, none, none, none, none, none, none, none, none, none, none, none, none, none, none, none, none, none, none, none, none, none, none, none, none, none, none, none, none, none, none, none, none, none, none, none, none, none, none, none, none, none, none, none, none, none, none, none, none, none, none, none, none, none, none, none, none, none, none, none, none, none, none, none, none, none, none, none, none, none, none, none, none, none, none, none, none, none, none, none, none, none, none, none, none, none, none, none, none, none, none, none, none, none, none, none, none, none, none, none, none, none, none, none, none, none, none, none, none, none, none, none, none, none, none, none, none, none, none, none, none, none, none, none, none, none, none, none, none, none, none, none, none, none, none, none, none, none, none, none, none, none, none, none, none, none, none, none, none, none, none, none, none, none, none, none, none, none, none] (by decide +kernel) (by rfl) (by decide +kernel) (by rfl) (by rfl)) 0 rfl rfl rfl (As := [.int (xs (i + (1 : Int32)).toNatClampNeg), .int (xs (i + (2 : Int32)).toNatClampNeg), .int (xs (i + (3 : Int32)).toNatClampNeg)]) (rest := []) rfl rfl ⟨rfl, rfl, (Nat.le_of_ble_eq_true rfl), (Nat.le_of_ble_eq_true rfl)⟩ (Nat.le_of_ble_eq_true rfl) hc1 hc2 dL_law_399 (fun H locs hW => ?_)
  refine lv_aload_n hx hb dL_law_402 rfl (lv_at hl 2 rfl) ?_
  refine lv_aload_n hx hb dL_law_403 rfl (lv_at hl 0 rfl) ?_
  refine lv_iload_n hx hb dL_law_404 rfl (lv_at hl 3 rfl) ?_
  refine lv_iconst (v := (1 : Int32)) hx hb dL_law_405 (by decide) ?_
  refine lv_iadd hx hb dL_law_406 ?_
  refine va_sld hx hb hX hbl hbA hW.2.2 i1 dL_law_407 ?_
  refine lv_aload_n hx hb dL_law_408 rfl (lv_at hl 0 rfl) ?_
  refine lv_iload_n hx hb dL_law_409 rfl (lv_at hl 3 rfl) ?_
  refine lv_iconst (v := (2 : Int32)) hx hb dL_law_410 (by decide) ?_
  refine lv_iadd hx hb dL_law_411 ?_
  refine va_sld hx hb hX hbl hbA hW.2.2 i2 dL_law_412 ?_
  refine lv_aload_n hx hb dL_law_413 rfl (lv_at hl 0 rfl) ?_
  refine lv_iload_n hx hb dL_law_414 rfl (lv_at hl 3 rfl) ?_
  refine lv_iconst (v := (3 : Int32)) hx hb dL_law_415 (by decide) ?_
  refine lv_iadd hx hb dL_law_416 ?_
  refine va_sld hx hb hX hbl hbA hW.2.2 i3 dL_law_417 ?_
  refine m_callV X hW hA hl.1 lkL_40 (c_R_sees l E _ N am (g 1) (g 2) (g 3) (g 4) (g 5) (g 6) (g 7) (g 8) (g 9) (g 10) (g 11) (g 12) (g 13) (g 14) (g 15) (g 16) (g 17) (g 18) (g 19) (g 0) (R_typed y) (R_at y) (R_start y) (R_token y) (R_value y) (R_items y) (R_book y) (xs (i + (1 : Int32)).toNatClampNeg) (xs (i + (2 : Int32)).toNatClampNeg) (xs (i + (3 : Int32)).toNatClampNeg) v hv) [210, 211] (by decide +kernel) (by rfl) (by rfl) (ws' := wL E ax am f g x y) (m_putS [none, none, none, none, none, none, none, none, none, none, none, none, none, none, none, none, none, none, none, none, none, none, none, none, none, none, none, none, none, none, none, none, none, none, none, none, none, none, none, none, none, none, none, none, none, none, none, none, none, none, none, none, none, none, none, none, none, none, none, none, none, none, none, none, none, none, none, none, none, none, none, none, none, none, none, none, none, none, none, none, none, none, none, none, none, none, none, none, none, none, none, none, none, none, none, none, none, none, none, none, none, none, none, none, none, none, none, none, none, none, none, none, none, none, none, none, none, none, none, none, none, none, none, none, none, none, none, none, none, none, none, none, none, none, none, none, none, none, none, none, none, none, none, none, none, none, none, none, none, none, none, none, none, none, none, none, none, none, none, none, none, none, none, none, none, none, none, none, none, none, none, none, none, none, none, none, none, none, none, none, none, none, none, none, none, none, none, none, none, none, none, none, none, none, none, none, none, none, none, none, none, none, none, none, none, none, none, none, none, none, some 0, some 1, none, none, none, none, none, none, none, none, none, none, none, none, none, none, none, none, none, none, none] (by decide +kernel) (by rfl) (by decide +kernel) (by rfl) (by rfl)) 210 rfl rfl rfl (As := [.int (xs (i + (1 : Int32)).toNatClampNeg), .int (xs (i + (2 : Int32)).toNatClampNeg), .int (xs (i + (3 : Int32)).toNatClampNeg)]) (rest := [.int u]) rfl rfl ⟨rfl, rfl, (Nat.le_of_ble_eq_true rfl), (Nat.le_of_ble_eq_true rfl)⟩ (Nat.le_of_ble_eq_true rfl) hc1 hc2 dL_law_418 (fun H locs hW => ?_)
  refine lv_icmp_eq (tgt := 1455) hx hb dL_law_421 (by decide) (fun c9 => ?_) (fun c9 => ?_)
  · exact kk _ _ _ _ hR2 hW
  · exact absurd huv c9
set_option maxHeartbeats 4000000 in
set_option maxRecDepth 100000 in
theorem lw_c6 (X : m_X p s m args c cL_law 4 RL E A) (hA : ∀ q, s.heap.size ≤ q → A q) (hX : va_X b L xs s s.heap) (hbl : b < s.heap.size) (hbA : ¬ A b) (P : P_clear N Rel) {x : T_S} {y : T_R} (hR : Rel x y) {i : Int32} (i1 : vp_in (i + 1) L) (i2 : vp_in (i + 2) L) (i3 : vp_in (i + 3) L) (i4 : vp_in (i + 4) L) (hc1 : cells ≤ 600000) (hc2 : slots ≤ 7302250) (hW : m_H E A (wL E ax am f g x y) s.heap H locs) (hl : lv_has ls 4 [(0, .ref b), (1, .ref ax), (2, .ref am), (3, .int i)]) (kk : ∀ (x : T_S) (y : T_R) (H : Heap) (locs : List Loc), Rel x y → m_H E A (wL E ax am f g x y) s.heap H locs → W p l e room_1 s m args below meth c H locs cells slots Q (F0 m 1455 ls [])) : W p l e room_1 s m args below meth c H locs cells slots Q (F0 m 426 ls []) := by
  obtain ⟨hx, hb, -, hown, hts, hK, hN, hG⟩ := id X
  refine lv_aload_n hx hb dL_law_426 rfl (lv_at hl 1 rfl) ?_
  refine lv_aload_n hx hb dL_law_427 rfl (lv_at hl 0 rfl) ?_
  refine lv_iload_n hx hb dL_law_428 rfl (lv_at hl 3 rfl) ?_
  refine lv_iconst (v := (1 : Int32)) hx hb dL_law_429 (by decide) ?_
  refine lv_iadd hx hb dL_law_430 ?_
  refine va_sld hx hb hX hbl hbA hW.2.2 i1 dL_law_431 ?_
  refine lv_aload_n hx hb dL_law_432 rfl (lv_at hl 0 rfl) ?_
  refine lv_iload_n hx hb dL_law_433 rfl (lv_at hl 3 rfl) ?_
  refine lv_iconst (v := (2 : Int32)) hx hb dL_law_434 (by decide) ?_
  refine lv_iadd hx hb dL_law_435 ?_
  refine va_sld hx hb hX hbl hbA hW.2.2 i2 dL_law_436 ?_
  obtain ⟨u, v, hu, hv, huv, hR2⟩ := P x y (xs (i + (1 : Int32)).toNatClampNeg) (xs (i + (2 : Int32)).toNatClampNeg) hR
  refine m_callV X hW hA hl.1 lkL_41 (c_S_clear l E _ N ax (f 21) (f 42) (f 63) (f 84) (f 88) (f 92) (f 97) (f 159) (f 165) (f 204) (f 0) (f 7) (f 11) (f 19) (f 20) (f 1) (f 3) (f 4) (f 5) (f 6) (f 2) (Shed_clearness (S_now x)) (Shed_isKept (S_now x)) (Floor_pillars (Shed_floor (S_now x))) (Floor_weavers (Shed_floor (S_now x))) (Floor_place (Shed_floor (S_now x))) (xs (i + (1 : Int32)).toNatClampNeg) (xs (i + (2 : Int32)).toNatClampNeg) u hu) [0, 1, 2, 3] (by decide +kernel) (by rfl) (by rfl) (ws' := wL E ax am f g x y) (m_putS [some 0, some 1, some 2, some 3, none, none, none, none, none, none, none, none, none, none, none, none, none, none, none, none, none, none, none, none, none, none, none, none, none, none, none, none, none, none, none, none, none, none, none, none, none, none, none, none, none, none, none, none, none, none, none, none, none, none, none, none, none, none, none, none, none, none, none, none, none, none, none, none, none, none, none, none, none, none, none, none, none, none, none, none, none, none, none, none, none, none, none, none, none, none, none, none, none, none, none, none, none, none, none, none, none, none, none, none, none, none, none, none, none, none, none, none, none, none, none, none, none, none, none, none, none, none, none, none, none, none, none, none, none, none, none, none, none, none, none, none, none, none, none, none, none, none, none, none, none, none, none, none, none, none, none, none, none, none, none, none, none, none, none, none, none, none, none, none, none, none, none, none, none, none, none, none, none, none, none, none, none, none, none, none, none, none, none, none, none, none, none, none, none, none, none, none, none, none, none, none, none, none, none, none, none, none, none, none, none, none, none, none, none, none, none, none, none, none, none, none, none, none, none, none, none, none, none, none, none, none, none, none, none, none, none] (by decide +kernel) (by rfl) (by decide +kernel) (by rfl) (by rfl)) 0 rfl rfl rfl (As := [.int (xs (i + (1 : Int32)).toNatClampNeg), .int (xs (i + (2 : Int32)).toNatClampNeg)]) (rest := []) rfl rfl ⟨rfl, rfl, (Nat.le_of_ble_eq_true rfl), (Nat.le_of_ble_eq_true rfl)⟩ (Nat.le_of_ble_eq_true rfl) hc1 hc2 dL_law_437 (fun H locs hW => ?_)
  refine lv_aload_n hx hb dL_law_440 rfl (lv_at hl 2 rfl) ?_
  refine lv_aload_n hx hb dL_law_441 rfl (lv_at hl 0 rfl) ?_
  refine lv_iload_n hx hb dL_law_442 rfl (lv_at hl 3 rfl) ?_
  refine lv_iconst (v := (1 : Int32)) hx hb dL_law_443 (by decide) ?_
  refine lv_iadd hx hb dL_law_444 ?_
  refine va_sld hx hb hX hbl hbA hW.2.2 i1 dL_law_445 ?_
  refine lv_aload_n hx hb dL_law_446 rfl (lv_at hl 0 rfl) ?_
  refine lv_iload_n hx hb dL_law_447 rfl (lv_at hl 3 rfl) ?_
  refine lv_iconst (v := (2 : Int32)) hx hb dL_law_448 (by decide) ?_
  refine lv_iadd hx hb dL_law_449 ?_
  refine va_sld hx hb hX hbl hbA hW.2.2 i2 dL_law_450 ?_
  refine m_callV X hW hA hl.1 lkL_44 (c_R_clear l E _ N am (g 1) (g 2) (g 3) (g 4) (g 5) (g 6) (g 7) (g 8) (g 9) (g 10) (g 11) (g 12) (g 13) (g 14) (g 15) (g 16) (g 17) (g 18) (g 19) (g 0) (R_typed y) (R_at y) (R_start y) (R_token y) (R_value y) (R_items y) (R_book y) (xs (i + (1 : Int32)).toNatClampNeg) (xs (i + (2 : Int32)).toNatClampNeg) v hv) [210, 211] (by decide +kernel) (by rfl) (by rfl) (ws' := wL E ax am f g x y) (m_putS [none, none, none, none, none, none, none, none, none, none, none, none, none, none, none, none, none, none, none, none, none, none, none, none, none, none, none, none, none, none, none, none, none, none, none, none, none, none, none, none, none, none, none, none, none, none, none, none, none, none, none, none, none, none, none, none, none, none, none, none, none, none, none, none, none, none, none, none, none, none, none, none, none, none, none, none, none, none, none, none, none, none, none, none, none, none, none, none, none, none, none, none, none, none, none, none, none, none, none, none, none, none, none, none, none, none, none, none, none, none, none, none, none, none, none, none, none, none, none, none, none, none, none, none, none, none, none, none, none, none, none, none, none, none, none, none, none, none, none, none, none, none, none, none, none, none, none, none, none, none, none, none, none, none, none, none, none, none, none, none, none, none, none, none, none, none, none, none, none, none, none, none, none, none, none, none, none, none, none, none, none, none, none, none, none, none, none, none, none, none, none, none, none, none, none, none, none, none, none, none, none, none, none, none, none, none, none, none, none, none, some 0, some 1, none, none, none, none, none, none, none, none, none, none, none, none, none, none, none, none, none, none, none] (by decide +kernel) (by rfl) (by decide +kernel) (by rfl) (by rfl)) 210 rfl rfl rfl (As := [.int (xs (i + (1 : Int32)).toNatClampNeg), .int (xs (i + (2 : Int32)).toNatClampNeg)]) (rest := [.int u]) rfl rfl ⟨rfl, rfl, (Nat.le_of_ble_eq_true rfl), (Nat.le_of_ble_eq_true rfl)⟩ (Nat.le_of_ble_eq_true rfl) hc1 hc2 dL_law_451 (fun H locs hW => ?_)
  refine lv_icmp_eq (tgt := 1455) hx hb dL_law_454 (by decide) (fun c9 => ?_) (fun c9 => ?_)
  · exact kk _ _ _ _ hR2 hW
  · exact absurd huv c9
set_option maxHeartbeats 4000000 in
set_option maxRecDepth 100000 in
theorem lw_c7 (X : m_X p s m args c cL_law 4 RL E A) (hA : ∀ q, s.heap.size ≤ q → A q) (hX : va_X b L xs s s.heap) (hbl : b < s.heap.size) (hbA : ¬ A b) (P : P_knows N Rel) {x : T_S} {y : T_R} (hR : Rel x y) {i : Int32} (i1 : vp_in (i + 1) L) (i2 : vp_in (i + 2) L) (i3 : vp_in (i + 3) L) (i4 : vp_in (i + 4) L) (hc1 : cells ≤ 600000) (hc2 : slots ≤ 7302250) (hW : m_H E A (wL E ax am f g x y) s.heap H locs) (hl : lv_has ls 4 [(0, .ref b), (1, .ref ax), (2, .ref am), (3, .int i)]) (kk : ∀ (x : T_S) (y : T_R) (H : Heap) (locs : List Loc), Rel x y → m_H E A (wL E ax am f g x y) s.heap H locs → W p l e room_1 s m args below meth c H locs cells slots Q (F0 m 1455 ls [])) : W p l e room_1 s m args below meth c H locs cells slots Q (F0 m 459 ls []) := by
  obtain ⟨hx, hb, -, hown, hts, hK, hN, hG⟩ := id X
  refine lv_aload_n hx hb dL_law_459 rfl (lv_at hl 1 rfl) ?_
  refine lv_aload_n hx hb dL_law_460 rfl (lv_at hl 0 rfl) ?_
  refine lv_iload_n hx hb dL_law_461 rfl (lv_at hl 3 rfl) ?_
  refine lv_iconst (v := (1 : Int32)) hx hb dL_law_462 (by decide) ?_
  refine lv_iadd hx hb dL_law_463 ?_
  refine va_sld hx hb hX hbl hbA hW.2.2 i1 dL_law_464 ?_
  refine lv_aload_n hx hb dL_law_465 rfl (lv_at hl 0 rfl) ?_
  refine lv_iload_n hx hb dL_law_466 rfl (lv_at hl 3 rfl) ?_
  refine lv_iconst (v := (2 : Int32)) hx hb dL_law_467 (by decide) ?_
  refine lv_iadd hx hb dL_law_468 ?_
  refine va_sld hx hb hX hbl hbA hW.2.2 i2 dL_law_469 ?_
  refine lv_aload_n hx hb dL_law_470 rfl (lv_at hl 0 rfl) ?_
  refine lv_iload_n hx hb dL_law_471 rfl (lv_at hl 3 rfl) ?_
  refine lv_iconst (v := (3 : Int32)) hx hb dL_law_472 (by decide) ?_
  refine lv_iadd hx hb dL_law_473 ?_
  refine va_sld hx hb hX hbl hbA hW.2.2 i3 dL_law_474 ?_
  refine lv_aload_n hx hb dL_law_475 rfl (lv_at hl 0 rfl) ?_
  refine lv_iload_n hx hb dL_law_476 rfl (lv_at hl 3 rfl) ?_
  refine lv_iconst (v := (4 : Int32)) hx hb dL_law_477 (by decide) ?_
  refine lv_iadd hx hb dL_law_478 ?_
  refine va_sld hx hb hX hbl hbA hW.2.2 i4 dL_law_479 ?_
  obtain ⟨u, v, hu, hv, huv, hR2⟩ := P x y (xs (i + (1 : Int32)).toNatClampNeg) (xs (i + (2 : Int32)).toNatClampNeg) (xs (i + (3 : Int32)).toNatClampNeg) (xs (i + (4 : Int32)).toNatClampNeg) hR
  refine m_callV X hW hA hl.1 lkL_45 (c_S_knows l E _ N ax (f 21) (f 42) (f 63) (f 88) (f 92) (f 97) (f 159) (f 165) (f 204) (f 0) (f 7) (f 11) (f 19) (f 20) (f 1) (f 2) (f 3) (f 4) (f 5) (f 6) (f 84) (f 85) (f 86) (f 87) (Shed_clearness (S_now x)) (Shed_isKept (S_now x)) (Floor_pillars (Shed_floor (S_now x))) (Floor_weavers (Shed_floor (S_now x))) (Floor_place (Shed_floor (S_now x))) (Floor_way (Shed_floor (S_now x))) (Floor_tell (Shed_floor (S_now x))) (Floor_look (Shed_floor (S_now x))) (Floor_farSquare (Shed_floor (S_now x))) (News_since (S_news x)) (News_toldBy (S_news x)) (News_audience (S_news x)) (xs (i + (1 : Int32)).toNatClampNeg) (xs (i + (2 : Int32)).toNatClampNeg) (xs (i + (3 : Int32)).toNatClampNeg) (xs (i + (4 : Int32)).toNatClampNeg) u hu) [0, 1, 2, 3, 4, 5, 6, 7, 85, 86, 87, 88] (by decide +kernel) (by rfl) (by rfl) (ws' := wL E ax am f g ((S_now x), (S_draft x), (S_firstImage x), (S_secondImage x), ((u.2.1), (u.2.2.1), (u.2.2.2)), (S_otherNews x), (S_readings x), (S_chances x), (S_turning x), (S_text x), (S_fraction x)) y) (m_putS [some 0, some 1, some 2, some 3, some 4, some 5, some 6, some 7, none, none, none, none, none, none, none, none, none, none, none, none, none, none, none, none, none, none, none, none, none, none, none, none, none, none, none, none, none, none, none, none, none, none, none, none, none, none, none, none, none, none, none, none, none, none, none, none, none, none, none, none, none, none, none, none, none, none, none, none, none, none, none, none, none, none, none, none, none, none, none, none, none, none, none, none, none, some 8, some 9, some 10, some 11, none, none, none, none, none, none, none, none, none, none, none, none, none, none, none, none, none, none, none, none, none, none, none, none, none, none, none, none, none, none, none, none, none, none, none, none, none, none, none, none, none, none, none, none, none, none, none, none, none, none, none, none, none, none, none, none, none, none, none, none, none, none, none, none, none, none, none, none, none, none, none, none, none, none, none, none, none, none, none, none, none, none, none, none, none, none, none, none, none, none, none, none, none, none, none, none, none, none, none, none, none, none, none, none, none, none, none, none, none, none, none, none, none, none, none, none, none, none, none, none, none, none, none, none, none, none, none, none, none, none, none, none, none, none, none, none, none, none, none, none, none, none] (by decide +kernel) (by rfl) (by decide +kernel) (by rfl) (by rfl)) 0 rfl rfl rfl (As := [.int (xs (i + (1 : Int32)).toNatClampNeg), .int (xs (i + (2 : Int32)).toNatClampNeg), .int (xs (i + (3 : Int32)).toNatClampNeg), .int (xs (i + (4 : Int32)).toNatClampNeg)]) (rest := []) rfl rfl ⟨rfl, rfl, (Nat.le_of_ble_eq_true rfl), (Nat.le_of_ble_eq_true rfl)⟩ (Nat.le_of_ble_eq_true rfl) hc1 hc2 dL_law_480 (fun H locs hW => ?_)
  refine lv_aload_n hx hb dL_law_483 rfl (lv_at hl 2 rfl) ?_
  refine lv_aload_n hx hb dL_law_484 rfl (lv_at hl 0 rfl) ?_
  refine lv_iload_n hx hb dL_law_485 rfl (lv_at hl 3 rfl) ?_
  refine lv_iconst (v := (1 : Int32)) hx hb dL_law_486 (by decide) ?_
  refine lv_iadd hx hb dL_law_487 ?_
  refine va_sld hx hb hX hbl hbA hW.2.2 i1 dL_law_488 ?_
  refine lv_aload_n hx hb dL_law_489 rfl (lv_at hl 0 rfl) ?_
  refine lv_iload_n hx hb dL_law_490 rfl (lv_at hl 3 rfl) ?_
  refine lv_iconst (v := (2 : Int32)) hx hb dL_law_491 (by decide) ?_
  refine lv_iadd hx hb dL_law_492 ?_
  refine va_sld hx hb hX hbl hbA hW.2.2 i2 dL_law_493 ?_
  refine lv_aload_n hx hb dL_law_494 rfl (lv_at hl 0 rfl) ?_
  refine lv_iload_n hx hb dL_law_495 rfl (lv_at hl 3 rfl) ?_
  refine lv_iconst (v := (3 : Int32)) hx hb dL_law_496 (by decide) ?_
  refine lv_iadd hx hb dL_law_497 ?_
  refine va_sld hx hb hX hbl hbA hW.2.2 i3 dL_law_498 ?_
  refine lv_aload_n hx hb dL_law_499 rfl (lv_at hl 0 rfl) ?_
  refine lv_iload_n hx hb dL_law_500 rfl (lv_at hl 3 rfl) ?_
  refine lv_iconst (v := (4 : Int32)) hx hb dL_law_501 (by decide) ?_
  refine lv_iadd hx hb dL_law_502 ?_
  refine va_sld hx hb hX hbl hbA hW.2.2 i4 dL_law_503 ?_
  refine m_callV X hW hA hl.1 lkL_48 (c_R_knows l E _ N am (g 1) (g 2) (g 3) (g 4) (g 5) (g 10) (g 11) (g 12) (g 13) (g 14) (g 15) (g 16) (g 17) (g 18) (g 19) (g 0) (g 6) (g 7) (g 8) (g 9) (R_typed y) (R_at y) (R_start y) (R_token y) (R_value y) (R_items y) (R_book y) (R_hears y) (R_spies y) (R_known y) (R_by y) (xs (i + (1 : Int32)).toNatClampNeg) (xs (i + (2 : Int32)).toNatClampNeg) (xs (i + (3 : Int32)).toNatClampNeg) (xs (i + (4 : Int32)).toNatClampNeg) v hv) [210, 211, 217, 218, 219, 220] (by decide +kernel) (by rfl) (by rfl) (ws' := wL E ax am f g ((S_now x), (S_draft x), (S_firstImage x), (S_secondImage x), ((u.2.1), (u.2.2.1), (u.2.2.2)), (S_otherNews x), (S_readings x), (S_chances x), (S_turning x), (S_text x), (S_fraction x)) ((R_book y), (R_images y), (R_kept y), (R_aside y), (R_limbs y), (R_wide y), (v.2.1), (v.2.2.1), (v.2.2.2.1), (v.2.2.2.2), (R_ways y), (R_fewest y), (R_heavy y), (R_sums y), (R_faces y), (R_bestFaces y), (R_text y), (R_typed y), (R_at y), (R_start y), (R_token y), (R_value y), (R_verbs y), (R_many y), (R_nums y), (R_items y))) (m_putS [none, none, none, none, none, none, none, none, none, none, none, none, none, none, none, none, none, none, none, none, none, none, none, none, none, none, none, none, none, none, none, none, none, none, none, none, none, none, none, none, none, none, none, none, none, none, none, none, none, none, none, none, none, none, none, none, none, none, none, none, none, none, none, none, none, none, none, none, none, none, none, none, none, none, none, none, none, none, none, none, none, none, none, none, none, none, none, none, none, none, none, none, none, none, none, none, none, none, none, none, none, none, none, none, none, none, none, none, none, none, none, none, none, none, none, none, none, none, none, none, none, none, none, none, none, none, none, none, none, none, none, none, none, none, none, none, none, none, none, none, none, none, none, none, none, none, none, none, none, none, none, none, none, none, none, none, none, none, none, none, none, none, none, none, none, none, none, none, none, none, none, none, none, none, none, none, none, none, none, none, none, none, none, none, none, none, none, none, none, none, none, none, none, none, none, none, none, none, none, none, none, none, none, none, none, none, none, none, none, none, some 0, some 1, none, none, none, none, none, some 2, some 3, some 4, some 5, none, none, none, none, none, none, none, none, none, none] (by decide +kernel) (by rfl) (by decide +kernel) (by rfl) (by rfl)) 210 rfl rfl rfl (As := [.int (xs (i + (1 : Int32)).toNatClampNeg), .int (xs (i + (2 : Int32)).toNatClampNeg), .int (xs (i + (3 : Int32)).toNatClampNeg), .int (xs (i + (4 : Int32)).toNatClampNeg)]) (rest := [.int u.1]) rfl rfl ⟨rfl, rfl, (Nat.le_of_ble_eq_true rfl), (Nat.le_of_ble_eq_true rfl)⟩ (Nat.le_of_ble_eq_true rfl) hc1 hc2 dL_law_504 (fun H locs hW => ?_)
  refine lv_icmp_eq (tgt := 1455) hx hb dL_law_507 (by decide) (fun c9 => ?_) (fun c9 => ?_)
  · exact kk _ _ _ _ hR2 hW
  · exact absurd huv c9
set_option maxHeartbeats 4000000 in
set_option maxRecDepth 100000 in
theorem lw_c8 (X : m_X p s m args c cL_law 4 RL E A) (hA : ∀ q, s.heap.size ≤ q → A q) (hX : va_X b L xs s s.heap) (hbl : b < s.heap.size) (hbA : ¬ A b) (P : P_teller N Rel) {x : T_S} {y : T_R} (hR : Rel x y) {i : Int32} (i1 : vp_in (i + 1) L) (i2 : vp_in (i + 2) L) (i3 : vp_in (i + 3) L) (i4 : vp_in (i + 4) L) (hc1 : cells ≤ 600000) (hc2 : slots ≤ 7302250) (hW : m_H E A (wL E ax am f g x y) s.heap H locs) (hl : lv_has ls 4 [(0, .ref b), (1, .ref ax), (2, .ref am), (3, .int i)]) (kk : ∀ (x : T_S) (y : T_R) (H : Heap) (locs : List Loc), Rel x y → m_H E A (wL E ax am f g x y) s.heap H locs → W p l e room_1 s m args below meth c H locs cells slots Q (F0 m 1455 ls [])) : W p l e room_1 s m args below meth c H locs cells slots Q (F0 m 512 ls []) := by
  obtain ⟨hx, hb, -, hown, hts, hK, hN, hG⟩ := id X
  refine lv_aload_n hx hb dL_law_512 rfl (lv_at hl 1 rfl) ?_
  refine lv_aload_n hx hb dL_law_513 rfl (lv_at hl 0 rfl) ?_
  refine lv_iload_n hx hb dL_law_514 rfl (lv_at hl 3 rfl) ?_
  refine lv_iconst (v := (1 : Int32)) hx hb dL_law_515 (by decide) ?_
  refine lv_iadd hx hb dL_law_516 ?_
  refine va_sld hx hb hX hbl hbA hW.2.2 i1 dL_law_517 ?_
  refine lv_aload_n hx hb dL_law_518 rfl (lv_at hl 0 rfl) ?_
  refine lv_iload_n hx hb dL_law_519 rfl (lv_at hl 3 rfl) ?_
  refine lv_iconst (v := (2 : Int32)) hx hb dL_law_520 (by decide) ?_
  refine lv_iadd hx hb dL_law_521 ?_
  refine va_sld hx hb hX hbl hbA hW.2.2 i2 dL_law_522 ?_
  refine lv_aload_n hx hb dL_law_523 rfl (lv_at hl 0 rfl) ?_
  refine lv_iload_n hx hb dL_law_524 rfl (lv_at hl 3 rfl) ?_
  refine lv_iconst (v := (3 : Int32)) hx hb dL_law_525 (by decide) ?_
  refine lv_iadd hx hb dL_law_526 ?_
  refine va_sld hx hb hX hbl hbA hW.2.2 i3 dL_law_527 ?_
  refine lv_aload_n hx hb dL_law_528 rfl (lv_at hl 0 rfl) ?_
  refine lv_iload_n hx hb dL_law_529 rfl (lv_at hl 3 rfl) ?_
  refine lv_iconst (v := (4 : Int32)) hx hb dL_law_530 (by decide) ?_
  refine lv_iadd hx hb dL_law_531 ?_
  refine va_sld hx hb hX hbl hbA hW.2.2 i4 dL_law_532 ?_
  obtain ⟨u, v, hu, hv, huv, hR2⟩ := P x y (xs (i + (1 : Int32)).toNatClampNeg) (xs (i + (2 : Int32)).toNatClampNeg) (xs (i + (3 : Int32)).toNatClampNeg) (xs (i + (4 : Int32)).toNatClampNeg) hR
  refine m_callV X hW hA hl.1 lkL_49 (c_S_teller l E _ N ax (f 21) (f 42) (f 63) (f 88) (f 92) (f 97) (f 159) (f 165) (f 204) (f 0) (f 7) (f 11) (f 19) (f 20) (f 1) (f 2) (f 3) (f 4) (f 5) (f 6) (f 84) (f 85) (f 86) (f 87) (Shed_clearness (S_now x)) (Shed_isKept (S_now x)) (Floor_pillars (Shed_floor (S_now x))) (Floor_weavers (Shed_floor (S_now x))) (Floor_place (Shed_floor (S_now x))) (Floor_way (Shed_floor (S_now x))) (Floor_tell (Shed_floor (S_now x))) (Floor_look (Shed_floor (S_now x))) (Floor_farSquare (Shed_floor (S_now x))) (News_since (S_news x)) (News_toldBy (S_news x)) (News_audience (S_news x)) (xs (i + (1 : Int32)).toNatClampNeg) (xs (i + (2 : Int32)).toNatClampNeg) (xs (i + (3 : Int32)).toNatClampNeg) (xs (i + (4 : Int32)).toNatClampNeg) u hu) [0, 1, 2, 3, 4, 5, 6, 7, 85, 86, 87, 88] (by decide +kernel) (by rfl) (by rfl) (ws' := wL E ax am f g ((S_now x), (S_draft x), (S_firstImage x), (S_secondImage x), ((u.2.1), (u.2.2.1), (u.2.2.2)), (S_otherNews x), (S_readings x), (S_chances x), (S_turning x), (S_text x), (S_fraction x)) y) (m_putS [some 0, some 1, some 2, some 3, some 4, some 5, some 6, some 7, none, none, none, none, none, none, none, none, none, none, none, none, none, none, none, none, none, none, none, none, none, none, none, none, none, none, none, none, none, none, none, none, none, none, none, none, none, none, none, none, none, none, none, none, none, none, none, none, none, none, none, none, none, none, none, none, none, none, none, none, none, none, none, none, none, none, none, none, none, none, none, none, none, none, none, none, none, some 8, some 9, some 10, some 11, none, none, none, none, none, none, none, none, none, none, none, none, none, none, none, none, none, none, none, none, none, none, none, none, none, none, none, none, none, none, none, none, none, none, none, none, none, none, none, none, none, none, none, none, none, none, none, none, none, none, none, none, none, none, none, none, none, none, none, none, none, none, none, none, none, none, none, none, none, none, none, none, none, none, none, none, none, none, none, none, none, none, none, none, none, none, none, none, none, none, none, none, none, none, none, none, none, none, none, none, none, none, none, none, none, none, none, none, none, none, none, none, none, none, none, none, none, none, none, none, none, none, none, none, none, none, none, none, none, none, none, none, none, none, none, none, none, none, none, none, none, none] (by decide +kernel) (by rfl) (by decide +kernel) (by rfl) (by rfl)) 0 rfl rfl rfl (As := [.int (xs (i + (1 : Int32)).toNatClampNeg), .int (xs (i + (2 : Int32)).toNatClampNeg), .int (xs (i + (3 : Int32)).toNatClampNeg), .int (xs (i + (4 : Int32)).toNatClampNeg)]) (rest := []) rfl rfl ⟨rfl, rfl, (Nat.le_of_ble_eq_true rfl), (Nat.le_of_ble_eq_true rfl)⟩ (Nat.le_of_ble_eq_true rfl) hc1 hc2 dL_law_533 (fun H locs hW => ?_)
  refine lv_aload_n hx hb dL_law_536 rfl (lv_at hl 2 rfl) ?_
  refine lv_aload_n hx hb dL_law_537 rfl (lv_at hl 0 rfl) ?_
  refine lv_iload_n hx hb dL_law_538 rfl (lv_at hl 3 rfl) ?_
  refine lv_iconst (v := (1 : Int32)) hx hb dL_law_539 (by decide) ?_
  refine lv_iadd hx hb dL_law_540 ?_
  refine va_sld hx hb hX hbl hbA hW.2.2 i1 dL_law_541 ?_
  refine lv_aload_n hx hb dL_law_542 rfl (lv_at hl 0 rfl) ?_
  refine lv_iload_n hx hb dL_law_543 rfl (lv_at hl 3 rfl) ?_
  refine lv_iconst (v := (2 : Int32)) hx hb dL_law_544 (by decide) ?_
  refine lv_iadd hx hb dL_law_545 ?_
  refine va_sld hx hb hX hbl hbA hW.2.2 i2 dL_law_546 ?_
  refine lv_aload_n hx hb dL_law_547 rfl (lv_at hl 0 rfl) ?_
  refine lv_iload_n hx hb dL_law_548 rfl (lv_at hl 3 rfl) ?_
  refine lv_iconst (v := (3 : Int32)) hx hb dL_law_549 (by decide) ?_
  refine lv_iadd hx hb dL_law_550 ?_
  refine va_sld hx hb hX hbl hbA hW.2.2 i3 dL_law_551 ?_
  refine lv_aload_n hx hb dL_law_552 rfl (lv_at hl 0 rfl) ?_
  refine lv_iload_n hx hb dL_law_553 rfl (lv_at hl 3 rfl) ?_
  refine lv_iconst (v := (4 : Int32)) hx hb dL_law_554 (by decide) ?_
  refine lv_iadd hx hb dL_law_555 ?_
  refine va_sld hx hb hX hbl hbA hW.2.2 i4 dL_law_556 ?_
  refine m_callV X hW hA hl.1 lkL_52 (c_R_teller l E _ N am (g 1) (g 2) (g 3) (g 4) (g 5) (g 10) (g 11) (g 12) (g 13) (g 14) (g 15) (g 16) (g 17) (g 18) (g 19) (g 0) (g 6) (g 7) (g 8) (g 9) (R_typed y) (R_at y) (R_start y) (R_token y) (R_value y) (R_items y) (R_book y) (R_hears y) (R_spies y) (R_known y) (R_by y) (xs (i + (1 : Int32)).toNatClampNeg) (xs (i + (2 : Int32)).toNatClampNeg) (xs (i + (3 : Int32)).toNatClampNeg) (xs (i + (4 : Int32)).toNatClampNeg) v hv) [210, 211, 217, 218, 219, 220] (by decide +kernel) (by rfl) (by rfl) (ws' := wL E ax am f g ((S_now x), (S_draft x), (S_firstImage x), (S_secondImage x), ((u.2.1), (u.2.2.1), (u.2.2.2)), (S_otherNews x), (S_readings x), (S_chances x), (S_turning x), (S_text x), (S_fraction x)) ((R_book y), (R_images y), (R_kept y), (R_aside y), (R_limbs y), (R_wide y), (v.2.1), (v.2.2.1), (v.2.2.2.1), (v.2.2.2.2), (R_ways y), (R_fewest y), (R_heavy y), (R_sums y), (R_faces y), (R_bestFaces y), (R_text y), (R_typed y), (R_at y), (R_start y), (R_token y), (R_value y), (R_verbs y), (R_many y), (R_nums y), (R_items y))) (m_putS [none, none, none, none, none, none, none, none, none, none, none, none, none, none, none, none, none, none, none, none, none, none, none, none, none, none, none, none, none, none, none, none, none, none, none, none, none, none, none, none, none, none, none, none, none, none, none, none, none, none, none, none, none, none, none, none, none, none, none, none, none, none, none, none, none, none, none, none, none, none, none, none, none, none, none, none, none, none, none, none, none, none, none, none, none, none, none, none, none, none, none, none, none, none, none, none, none, none, none, none, none, none, none, none, none, none, none, none, none, none, none, none, none, none, none, none, none, none, none, none, none, none, none, none, none, none, none, none, none, none, none, none, none, none, none, none, none, none, none, none, none, none, none, none, none, none, none, none, none, none, none, none, none, none, none, none, none, none, none, none, none, none, none, none, none, none, none, none, none, none, none, none, none, none, none, none, none, none, none, none, none, none, none, none, none, none, none, none, none, none, none, none, none, none, none, none, none, none, none, none, none, none, none, none, none, none, none, none, none, none, some 0, some 1, none, none, none, none, none, some 2, some 3, some 4, some 5, none, none, none, none, none, none, none, none, none, none] (by decide +kernel) (by rfl) (by decide +kernel) (by rfl) (by rfl)) 210 rfl rfl rfl (As := [.int (xs (i + (1 : Int32)).toNatClampNeg), .int (xs (i + (2 : Int32)).toNatClampNeg), .int (xs (i + (3 : Int32)).toNatClampNeg), .int (xs (i + (4 : Int32)).toNatClampNeg)]) (rest := [.int u.1]) rfl rfl ⟨rfl, rfl, (Nat.le_of_ble_eq_true rfl), (Nat.le_of_ble_eq_true rfl)⟩ (Nat.le_of_ble_eq_true rfl) hc1 hc2 dL_law_557 (fun H locs hW => ?_)
  refine lv_icmp_eq (tgt := 1455) hx hb dL_law_560 (by decide) (fun c9 => ?_) (fun c9 => ?_)
  · exact kk _ _ _ _ hR2 hW
  · exact absurd huv c9
set_option maxHeartbeats 4000000 in
set_option maxRecDepth 100000 in
theorem lw_c9 (X : m_X p s m args c cL_law 4 RL E A) (hA : ∀ q, s.heap.size ≤ q → A q) (hX : va_X b L xs s s.heap) (hbl : b < s.heap.size) (hbA : ¬ A b) (P : P_meet N Rel) {x : T_S} {y : T_R} (hR : Rel x y) {i : Int32} (i1 : vp_in (i + 1) L) (i2 : vp_in (i + 2) L) (i3 : vp_in (i + 3) L) (i4 : vp_in (i + 4) L) (hc1 : cells ≤ 600000) (hc2 : slots ≤ 7302250) (hW : m_H E A (wL E ax am f g x y) s.heap H locs) (hl : lv_has ls 4 [(0, .ref b), (1, .ref ax), (2, .ref am), (3, .int i)]) (kk : ∀ (x : T_S) (y : T_R) (H : Heap) (locs : List Loc), Rel x y → m_H E A (wL E ax am f g x y) s.heap H locs → W p l e room_1 s m args below meth c H locs cells slots Q (F0 m 1455 ls [])) : W p l e room_1 s m args below meth c H locs cells slots Q (F0 m 565 ls []) := by
  obtain ⟨hx, hb, -, hown, hts, hK, hN, hG⟩ := id X
  refine lv_aload_n hx hb dL_law_565 rfl (lv_at hl 1 rfl) ?_
  refine lv_aload_n hx hb dL_law_566 rfl (lv_at hl 0 rfl) ?_
  refine lv_iload_n hx hb dL_law_567 rfl (lv_at hl 3 rfl) ?_
  refine lv_iconst (v := (1 : Int32)) hx hb dL_law_568 (by decide) ?_
  refine lv_iadd hx hb dL_law_569 ?_
  refine va_sld hx hb hX hbl hbA hW.2.2 i1 dL_law_570 ?_
  refine lv_aload_n hx hb dL_law_571 rfl (lv_at hl 0 rfl) ?_
  refine lv_iload_n hx hb dL_law_572 rfl (lv_at hl 3 rfl) ?_
  refine lv_iconst (v := (2 : Int32)) hx hb dL_law_573 (by decide) ?_
  refine lv_iadd hx hb dL_law_574 ?_
  refine va_sld hx hb hX hbl hbA hW.2.2 i2 dL_law_575 ?_
  refine lv_aload_n hx hb dL_law_576 rfl (lv_at hl 0 rfl) ?_
  refine lv_iload_n hx hb dL_law_577 rfl (lv_at hl 3 rfl) ?_
  refine lv_iconst (v := (3 : Int32)) hx hb dL_law_578 (by decide) ?_
  refine lv_iadd hx hb dL_law_579 ?_
  refine va_sld hx hb hX hbl hbA hW.2.2 i3 dL_law_580 ?_
  refine lv_aload_n hx hb dL_law_581 rfl (lv_at hl 0 rfl) ?_
  refine lv_iload_n hx hb dL_law_582 rfl (lv_at hl 3 rfl) ?_
  refine lv_iconst (v := (4 : Int32)) hx hb dL_law_583 (by decide) ?_
  refine lv_iadd hx hb dL_law_584 ?_
  refine va_sld hx hb hX hbl hbA hW.2.2 i4 dL_law_585 ?_
  obtain ⟨u, v, hu, hv, huv, hR2⟩ := P x y (xs (i + (1 : Int32)).toNatClampNeg) (xs (i + (2 : Int32)).toNatClampNeg) (xs (i + (3 : Int32)).toNatClampNeg) (xs (i + (4 : Int32)).toNatClampNeg) hR
  refine m_callV X hW hA hl.1 lkL_53 (c_S_meet l E _ N ax (f 21) (f 42) (f 63) (f 92) (f 97) (f 159) (f 165) (f 204) (f 0) (f 7) (f 11) (f 19) (f 20) (f 1) (f 2) (f 3) (f 4) (f 5) (f 6) (f 84) (f 85) (f 86) (f 87) (f 88) (f 89) (f 90) (f 91) (Shed_clearness (S_now x)) (Shed_isKept (S_now x)) (Floor_pillars (Shed_floor (S_now x))) (Floor_weavers (Shed_floor (S_now x))) (Floor_place (Shed_floor (S_now x))) (Floor_way (Shed_floor (S_now x))) (Floor_tell (Shed_floor (S_now x))) (Floor_look (Shed_floor (S_now x))) (Floor_farSquare (Shed_floor (S_now x))) (News_since (S_news x)) (News_toldBy (S_news x)) (News_audience (S_news x)) (News_since (S_otherNews x)) (News_toldBy (S_otherNews x)) (News_audience (S_otherNews x)) (xs (i + (1 : Int32)).toNatClampNeg) (xs (i + (2 : Int32)).toNatClampNeg) (xs (i + (3 : Int32)).toNatClampNeg) (xs (i + (4 : Int32)).toNatClampNeg) u hu) [0, 1, 2, 3, 4, 5, 6, 7, 85, 86, 87, 88, 89, 90, 91, 92] (by decide +kernel) (by rfl) (by rfl) (ws' := wL E ax am f g ((S_now x), (S_draft x), (S_firstImage x), (S_secondImage x), ((u.2.1), (u.2.2.1), (u.2.2.2.1)), ((u.2.2.2.2.1), (u.2.2.2.2.2.1), (u.2.2.2.2.2.2)), (S_readings x), (S_chances x), (S_turning x), (S_text x), (S_fraction x)) y) (m_putS [some 0, some 1, some 2, some 3, some 4, some 5, some 6, some 7, none, none, none, none, none, none, none, none, none, none, none, none, none, none, none, none, none, none, none, none, none, none, none, none, none, none, none, none, none, none, none, none, none, none, none, none, none, none, none, none, none, none, none, none, none, none, none, none, none, none, none, none, none, none, none, none, none, none, none, none, none, none, none, none, none, none, none, none, none, none, none, none, none, none, none, none, none, some 8, some 9, some 10, some 11, some 12, some 13, some 14, some 15, none, none, none, none, none, none, none, none, none, none, none, none, none, none, none, none, none, none, none, none, none, none, none, none, none, none, none, none, none, none, none, none, none, none, none, none, none, none, none, none, none, none, none, none, none, none, none, none, none, none, none, none, none, none, none, none, none, none, none, none, none, none, none, none, none, none, none, none, none, none, none, none, none, none, none, none, none, none, none, none, none, none, none, none, none, none, none, none, none, none, none, none, none, none, none, none, none, none, none, none, none, none, none, none, none, none, none, none, none, none, none, none, none, none, none, none, none, none, none, none, none, none, none, none, none, none, none, none, none, none, none, none, none, none, none, none, none, none] (by decide +kernel) (by rfl) (by decide +kernel) (by rfl) (by rfl)) 0 rfl rfl rfl (As := [.int (xs (i + (1 : Int32)).toNatClampNeg), .int (xs (i + (2 : Int32)).toNatClampNeg), .int (xs (i + (3 : Int32)).toNatClampNeg), .int (xs (i + (4 : Int32)).toNatClampNeg)]) (rest := []) rfl rfl ⟨rfl, rfl, (Nat.le_of_ble_eq_true rfl), (Nat.le_of_ble_eq_true rfl)⟩ (Nat.le_of_ble_eq_true rfl) hc1 hc2 dL_law_586 (fun H locs hW => ?_)
  refine lv_aload_n hx hb dL_law_589 rfl (lv_at hl 2 rfl) ?_
  refine lv_aload_n hx hb dL_law_590 rfl (lv_at hl 0 rfl) ?_
  refine lv_iload_n hx hb dL_law_591 rfl (lv_at hl 3 rfl) ?_
  refine lv_iconst (v := (1 : Int32)) hx hb dL_law_592 (by decide) ?_
  refine lv_iadd hx hb dL_law_593 ?_
  refine va_sld hx hb hX hbl hbA hW.2.2 i1 dL_law_594 ?_
  refine lv_aload_n hx hb dL_law_595 rfl (lv_at hl 0 rfl) ?_
  refine lv_iload_n hx hb dL_law_596 rfl (lv_at hl 3 rfl) ?_
  refine lv_iconst (v := (2 : Int32)) hx hb dL_law_597 (by decide) ?_
  refine lv_iadd hx hb dL_law_598 ?_
  refine va_sld hx hb hX hbl hbA hW.2.2 i2 dL_law_599 ?_
  refine lv_aload_n hx hb dL_law_600 rfl (lv_at hl 0 rfl) ?_
  refine lv_iload_n hx hb dL_law_601 rfl (lv_at hl 3 rfl) ?_
  refine lv_iconst (v := (3 : Int32)) hx hb dL_law_602 (by decide) ?_
  refine lv_iadd hx hb dL_law_603 ?_
  refine va_sld hx hb hX hbl hbA hW.2.2 i3 dL_law_604 ?_
  refine lv_aload_n hx hb dL_law_605 rfl (lv_at hl 0 rfl) ?_
  refine lv_iload_n hx hb dL_law_606 rfl (lv_at hl 3 rfl) ?_
  refine lv_iconst (v := (4 : Int32)) hx hb dL_law_607 (by decide) ?_
  refine lv_iadd hx hb dL_law_608 ?_
  refine va_sld hx hb hX hbl hbA hW.2.2 i4 dL_law_609 ?_
  refine m_callV X hW hA hl.1 lkL_56 (c_R_meet l E _ N am (g 1) (g 2) (g 3) (g 4) (g 5) (g 10) (g 11) (g 12) (g 13) (g 14) (g 15) (g 16) (g 17) (g 18) (g 19) (g 0) (g 6) (g 7) (g 8) (g 9) (R_typed y) (R_at y) (R_start y) (R_token y) (R_value y) (R_items y) (R_book y) (R_hears y) (R_spies y) (R_known y) (R_by y) (xs (i + (1 : Int32)).toNatClampNeg) (xs (i + (2 : Int32)).toNatClampNeg) (xs (i + (3 : Int32)).toNatClampNeg) (xs (i + (4 : Int32)).toNatClampNeg) v hv) [210, 211, 217, 218, 219, 220] (by decide +kernel) (by rfl) (by rfl) (ws' := wL E ax am f g ((S_now x), (S_draft x), (S_firstImage x), (S_secondImage x), ((u.2.1), (u.2.2.1), (u.2.2.2.1)), ((u.2.2.2.2.1), (u.2.2.2.2.2.1), (u.2.2.2.2.2.2)), (S_readings x), (S_chances x), (S_turning x), (S_text x), (S_fraction x)) ((R_book y), (R_images y), (R_kept y), (R_aside y), (R_limbs y), (R_wide y), (v.2.1), (v.2.2.1), (v.2.2.2.1), (v.2.2.2.2), (R_ways y), (R_fewest y), (R_heavy y), (R_sums y), (R_faces y), (R_bestFaces y), (R_text y), (R_typed y), (R_at y), (R_start y), (R_token y), (R_value y), (R_verbs y), (R_many y), (R_nums y), (R_items y))) (m_putS [none, none, none, none, none, none, none, none, none, none, none, none, none, none, none, none, none, none, none, none, none, none, none, none, none, none, none, none, none, none, none, none, none, none, none, none, none, none, none, none, none, none, none, none, none, none, none, none, none, none, none, none, none, none, none, none, none, none, none, none, none, none, none, none, none, none, none, none, none, none, none, none, none, none, none, none, none, none, none, none, none, none, none, none, none, none, none, none, none, none, none, none, none, none, none, none, none, none, none, none, none, none, none, none, none, none, none, none, none, none, none, none, none, none, none, none, none, none, none, none, none, none, none, none, none, none, none, none, none, none, none, none, none, none, none, none, none, none, none, none, none, none, none, none, none, none, none, none, none, none, none, none, none, none, none, none, none, none, none, none, none, none, none, none, none, none, none, none, none, none, none, none, none, none, none, none, none, none, none, none, none, none, none, none, none, none, none, none, none, none, none, none, none, none, none, none, none, none, none, none, none, none, none, none, none, none, none, none, none, none, some 0, some 1, none, none, none, none, none, some 2, some 3, some 4, some 5, none, none, none, none, none, none, none, none, none, none] (by decide +kernel) (by rfl) (by decide +kernel) (by rfl) (by rfl)) 210 rfl rfl rfl (As := [.int (xs (i + (1 : Int32)).toNatClampNeg), .int (xs (i + (2 : Int32)).toNatClampNeg), .int (xs (i + (3 : Int32)).toNatClampNeg), .int (xs (i + (4 : Int32)).toNatClampNeg)]) (rest := [.int u.1]) rfl rfl ⟨rfl, rfl, (Nat.le_of_ble_eq_true rfl), (Nat.le_of_ble_eq_true rfl)⟩ (Nat.le_of_ble_eq_true rfl) hc1 hc2 dL_law_610 (fun H locs hW => ?_)
  refine lv_icmp_eq (tgt := 1455) hx hb dL_law_613 (by decide) (fun c9 => ?_) (fun c9 => ?_)
  · exact kk _ _ _ _ hR2 hW
  · exact absurd huv c9
end LW
