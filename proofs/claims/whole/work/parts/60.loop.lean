def P_all (N : Nat) (Rel : T_S → T_R → Prop) : Prop := P_pillar N Rel ∧ P_weaver N Rel ∧ P_face N Rel ∧ P_free N Rel ∧ P_far N Rel ∧ P_sees N Rel ∧ P_clear N Rel ∧ P_knows N Rel ∧ P_teller N Rel ∧ P_meet N Rel ∧ P_seen N Rel ∧ P_source N Rel ∧ P_apart N Rel ∧ P_like N Rel ∧ P_word N Rel ∧ P_alike N Rel ∧ P_lip N Rel ∧ P_hush N Rel ∧ P_reads N Rel ∧ P_mistaken N Rel ∧ P_signs N Rel ∧ P_plain N Rel ∧ P_arrives N Rel ∧ P_turns N Rel ∧ P_girl N Rel ∧ P_gets N Rel ∧ P_share N Rel ∧ P_teach N Rel ∧ P_band N Rel ∧ P_heard N Rel ∧ P_anew N Rel ∧ P_type N Rel ∧ P_erase N Rel ∧ P_shed N Rel ∧ P_sign N Rel ∧ P_limb N Rel ∧ P_image N Rel ∧ P_from N Rel ∧ P_count N Rel ∧ P_digest N Rel
theorem lw_sw {x : Int32} (c0 : ¬ x = (0 : Int32)) (c1 : ¬ x = (1 : Int32)) (c2 : ¬ x = (2 : Int32)) (c3 : ¬ x = (3 : Int32)) (c4 : ¬ x = (4 : Int32)) (c5 : ¬ x = (5 : Int32)) (c6 : ¬ x = (6 : Int32)) (c7 : ¬ x = (7 : Int32)) (c8 : ¬ x = (8 : Int32)) (c9 : ¬ x = (9 : Int32)) (c10 : ¬ x = (10 : Int32)) (c11 : ¬ x = (11 : Int32)) (c12 : ¬ x = (12 : Int32)) (c13 : ¬ x = (13 : Int32)) (c14 : ¬ x = (14 : Int32)) (c15 : ¬ x = (15 : Int32)) (c16 : ¬ x = (16 : Int32)) (c17 : ¬ x = (17 : Int32)) (c18 : ¬ x = (18 : Int32)) (c19 : ¬ x = (19 : Int32)) (c20 : ¬ x = (20 : Int32)) (c21 : ¬ x = (21 : Int32)) (c22 : ¬ x = (22 : Int32)) (c23 : ¬ x = (23 : Int32)) (c24 : ¬ x = (24 : Int32)) (c25 : ¬ x = (25 : Int32)) (c26 : ¬ x = (26 : Int32)) (c27 : ¬ x = (27 : Int32)) (c28 : ¬ x = (28 : Int32)) (c29 : ¬ x = (29 : Int32)) (c30 : ¬ x = (30 : Int32)) (c31 : ¬ x = (31 : Int32)) (c32 : ¬ x = (32 : Int32)) (c33 : ¬ x = (33 : Int32)) (c34 : ¬ x = (34 : Int32)) (c35 : ¬ x = (35 : Int32)) (c36 : ¬ x = (36 : Int32)) (c37 : ¬ x = (37 : Int32)) (c38 : ¬ x = (38 : Int32)) (c39 : ¬ x = (39 : Int32)) : x.toInt < 0 ∨ 39 < x.toInt := by
  have h0 := lv_neT (a := 0) c0 (by decide)
  have h1 := lv_neT (a := 1) c1 (by decide)
  have h2 := lv_neT (a := 2) c2 (by decide)
  have h3 := lv_neT (a := 3) c3 (by decide)
  have h4 := lv_neT (a := 4) c4 (by decide)
  have h5 := lv_neT (a := 5) c5 (by decide)
  have h6 := lv_neT (a := 6) c6 (by decide)
  have h7 := lv_neT (a := 7) c7 (by decide)
  have h8 := lv_neT (a := 8) c8 (by decide)
  have h9 := lv_neT (a := 9) c9 (by decide)
  have h10 := lv_neT (a := 10) c10 (by decide)
  have h11 := lv_neT (a := 11) c11 (by decide)
  have h12 := lv_neT (a := 12) c12 (by decide)
  have h13 := lv_neT (a := 13) c13 (by decide)
  have h14 := lv_neT (a := 14) c14 (by decide)
  have h15 := lv_neT (a := 15) c15 (by decide)
  have h16 := lv_neT (a := 16) c16 (by decide)
  have h17 := lv_neT (a := 17) c17 (by decide)
  have h18 := lv_neT (a := 18) c18 (by decide)
  have h19 := lv_neT (a := 19) c19 (by decide)
  have h20 := lv_neT (a := 20) c20 (by decide)
  have h21 := lv_neT (a := 21) c21 (by decide)
  have h22 := lv_neT (a := 22) c22 (by decide)
  have h23 := lv_neT (a := 23) c23 (by decide)
  have h24 := lv_neT (a := 24) c24 (by decide)
  have h25 := lv_neT (a := 25) c25 (by decide)
  have h26 := lv_neT (a := 26) c26 (by decide)
  have h27 := lv_neT (a := 27) c27 (by decide)
  have h28 := lv_neT (a := 28) c28 (by decide)
  have h29 := lv_neT (a := 29) c29 (by decide)
  have h30 := lv_neT (a := 30) c30 (by decide)
  have h31 := lv_neT (a := 31) c31 (by decide)
  have h32 := lv_neT (a := 32) c32 (by decide)
  have h33 := lv_neT (a := 33) c33 (by decide)
  have h34 := lv_neT (a := 34) c34 (by decide)
  have h35 := lv_neT (a := 35) c35 (by decide)
  have h36 := lv_neT (a := 36) c36 (by decide)
  have h37 := lv_neT (a := 37) c37 (by decide)
  have h38 := lv_neT (a := 38) c38 (by decide)
  have h39 := lv_neT (a := 39) c39 (by decide)
  omega
theorem lw_inc (j : Nat) : nI (5 * j) + Int32.ofInt 5 = nI (5 * (j + 1)) := by
  rw [show Int32.ofInt 5 = nI 5 from rfl, nI_add, show 5 * j + 5 = 5 * (j + 1) by omega]
section LW
variable {p : Program} {l : Launch} {e : Env} {s : State} {m : MethodId} {args : Array Value} {below : List Frame} {meth : Method} {c : Code} {H : Heap} {locs : List Loc} {cells slots : Nat} {Q : State → Prop} {ls : Array Slot} {E : m_E} {A : Nat → Prop} {b L ax am : Nat} {xs : Nat → Int32} {f g : Nat → Nat} {N : Nat} {Rel : T_S → T_R → Prop}

set_option maxHeartbeats 4000000 in
set_option maxRecDepth 100000 in
theorem lw_loop (X : m_X p s m args c cL_law 4 RL E A) (hA : ∀ q, s.heap.size ≤ q → A q) (hX : va_X b L xs s s.heap) (hbl : b < s.heap.size) (hbA : ¬ A b) (P : P_all N Rel) (hL : L ≤ 320) (hc1 : cells ≤ 600000) (hc2 : slots ≤ 7302250) (hend : ∀ (x : T_S) (y : T_R) (H : Heap) (locs : List Loc) (ls : Array Slot), m_H E A (wL E ax am f g x y) s.heap H locs → W p l e room_1 s m args below meth c H locs cells slots Q (F0 m 1461 ls [])) : ∀ (k j : Nat), L < 5 * (j + k) + 5 → 5 * j ≤ 325 → ∀ (x : T_S) (y : T_R) (H : Heap) (locs : List Loc) (ls : Array Slot), Rel x y → m_H E A (wL E ax am f g x y) s.heap H locs → lv_has ls 4 [(3, .int (nI (5 * j))), (0, .ref b), (1, .ref ax), (2, .ref am)] → W p l e room_1 s m args below meth c H locs cells slots Q (F0 m 18 ls []) := by
  intro k
  induction k with
  | zero => ?_
  | succ k ih => ?_
  all_goals
    intro j hk hj x y H locs ls hR hW hl
    obtain ⟨hx, hb, -, hown, hts, hK, hN, hG⟩ := id X
    refine lv_iload_n hx hb dL_law_18 rfl (lv_at hl 0 rfl) ?_
    refine lv_aload_n hx hb dL_law_19 rfl (lv_at hl 1 rfl) ?_
    refine va_slen hx hb hX hbl hbA hW.2.2 dL_law_20 ?_
    refine lv_iconst (v := (5 : Int32)) hx hb dL_law_21 (by decide) ?_
    refine lv_isub hx hb dL_law_22 ?_
    have e1 : (nI L - nI 5).toInt = (L : Int) - 5 := pk_sub_toInt (by omega) (by decide)
    have e2 : (nI (5 * j)).toInt = ((5 * j : Nat) : Int) := nI_toInt (by omega)
    refine lv_icmp_gt (tgt := 1461) hx hb dL_law_23 (by decide) (fun _ => hend x y _ _ _ hW) (fun c9 => ?_)
    have c8 : ¬ (nI L - nI 5) < nI (5 * j) := c9
    rw [Int32.lt_iff_toInt_lt, e1, e2] at c8
    have h5 : 5 * j + 5 ≤ L := by omega
  · omega
  have i1 : vp_in (nI (5 * j) + 1) L := pk_in (5 * j + 1) L (by omega) (nI_add _ 1) (by omega)
  have i2 : vp_in (nI (5 * j) + 2) L := pk_in (5 * j + 2) L (by omega) (nI_add _ 2) (by omega)
  have i3 : vp_in (nI (5 * j) + 3) L := pk_in (5 * j + 3) L (by omega) (nI_add _ 3) (by omega)
  have i4 : vp_in (nI (5 * j) + 4) L := pk_in (5 * j + 4) L (by omega) (nI_add _ 4) (by omega)
  have hend2 : ∀ (x : T_S) (y : T_R) (H : Heap) (locs : List Loc), Rel x y → m_H E A (wL E ax am f g x y) s.heap H locs → W p l e room_1 s m args below meth c H locs cells slots Q (F0 m 1455 ls []) := by
    intro x y H locs hR hW
    refine lv_iinc (v := nI (5 * (j + 1))) (lv' := [(3, .int (nI (5 * (j + 1)))), (0, .ref b), (1, .ref ax), (2, .ref am)]) hx hb dL_law_1455 hl (k := 0) rfl (lw_inc j) (by decide) rfl (fun ls hl => ?_)
    refine lv_goto (tgt := 18) hx hb dL_law_1458 (by decide) ?_
    exact ih (j + 1) (by omega) (by omega) x y H locs ls hR hW hl
  have hl4 := lv_sub hl [1, 2, 3, 0] rfl
  refine lv_aload_n hx hb dL_law_26 rfl (lv_at hl 1 rfl) ?_
  refine lv_iload_n hx hb dL_law_27 rfl (lv_at hl 0 rfl) ?_
  refine va_sld hx hb hX hbl hbA hW.2.2 (pk_in (5 * j) L (by omega) rfl (by omega)) dL_law_28 ?_
  refine lv_bipush (v := (63 : Int32)) hx hb dL_law_29 (by decide) ?_
  refine lv_iand hx hb dL_law_31 ?_
  generalize xs (nI (5 * j)).toNatClampNeg &&& (63 : Int32) = z
  by_cases c0 : z = (0 : Int32)
  · exact lv_tableIn (tgt := 208) hx hb dL_law_32 (by rw [c0]; decide) (by rw [c0]; decide) (by rw [c0]; rfl) (by decide) (lw_c0 X hA hX hbl hbA P.1 hR i1 i2 i3 i4 hc1 hc2 hW hl4 hend2)
  by_cases c1 : z = (1 : Int32)
  · exact lv_tableIn (tgt := 231) hx hb dL_law_32 (by rw [c1]; decide) (by rw [c1]; decide) (by rw [c1]; rfl) (by decide) (lw_c1 X hA hX hbl hbA P.2.1 hR i1 i2 i3 i4 hc1 hc2 hW hl4 hend2)
  by_cases c2 : z = (2 : Int32)
  · exact lv_tableIn (tgt := 264) hx hb dL_law_32 (by rw [c2]; decide) (by rw [c2]; decide) (by rw [c2]; rfl) (by decide) (lw_c2 X hA hX hbl hbA P.2.2.1 hR i1 i2 i3 i4 hc1 hc2 hW hl4 hend2)
  by_cases c3 : z = (3 : Int32)
  · exact lv_tableIn (tgt := 297) hx hb dL_law_32 (by rw [c3]; decide) (by rw [c3]; decide) (by rw [c3]; rfl) (by decide) (lw_c3 X hA hX hbl hbA P.2.2.2.1 hR i1 i2 i3 i4 hc1 hc2 hW hl4 hend2)
  by_cases c4 : z = (4 : Int32)
  · exact lv_tableIn (tgt := 350) hx hb dL_law_32 (by rw [c4]; decide) (by rw [c4]; decide) (by rw [c4]; rfl) (by decide) (lw_c4 X hA hX hbl hbA P.2.2.2.2.1 hR i1 i2 i3 i4 hc1 hc2 hW hl4 hend2)
  by_cases c5 : z = (5 : Int32)
  · exact lv_tableIn (tgt := 383) hx hb dL_law_32 (by rw [c5]; decide) (by rw [c5]; decide) (by rw [c5]; rfl) (by decide) (lw_c5 X hA hX hbl hbA P.2.2.2.2.2.1 hR i1 i2 i3 i4 hc1 hc2 hW hl4 hend2)
  by_cases c6 : z = (6 : Int32)
  · exact lv_tableIn (tgt := 426) hx hb dL_law_32 (by rw [c6]; decide) (by rw [c6]; decide) (by rw [c6]; rfl) (by decide) (lw_c6 X hA hX hbl hbA P.2.2.2.2.2.2.1 hR i1 i2 i3 i4 hc1 hc2 hW hl4 hend2)
  by_cases c7 : z = (7 : Int32)
  · exact lv_tableIn (tgt := 459) hx hb dL_law_32 (by rw [c7]; decide) (by rw [c7]; decide) (by rw [c7]; rfl) (by decide) (lw_c7 X hA hX hbl hbA P.2.2.2.2.2.2.2.1 hR i1 i2 i3 i4 hc1 hc2 hW hl4 hend2)
  by_cases c8 : z = (8 : Int32)
  · exact lv_tableIn (tgt := 512) hx hb dL_law_32 (by rw [c8]; decide) (by rw [c8]; decide) (by rw [c8]; rfl) (by decide) (lw_c8 X hA hX hbl hbA P.2.2.2.2.2.2.2.2.1 hR i1 i2 i3 i4 hc1 hc2 hW hl4 hend2)
  by_cases c9 : z = (9 : Int32)
  · exact lv_tableIn (tgt := 565) hx hb dL_law_32 (by rw [c9]; decide) (by rw [c9]; decide) (by rw [c9]; rfl) (by decide) (lw_c9 X hA hX hbl hbA P.2.2.2.2.2.2.2.2.2.1 hR i1 i2 i3 i4 hc1 hc2 hW hl4 hend2)
  by_cases c10 : z = (10 : Int32)
  · exact lv_tableIn (tgt := 618) hx hb dL_law_32 (by rw [c10]; decide) (by rw [c10]; decide) (by rw [c10]; rfl) (by decide) (lw_c10 X hA hX hbl hbA P.2.2.2.2.2.2.2.2.2.2.1 hR i1 i2 i3 i4 hc1 hc2 hW hl4 hend2)
  by_cases c11 : z = (11 : Int32)
  · exact lv_tableIn (tgt := 677) hx hb dL_law_32 (by rw [c11]; decide) (by rw [c11]; decide) (by rw [c11]; rfl) (by decide) (lw_c11 X hA hX hbl hbA P.2.2.2.2.2.2.2.2.2.2.2.1 hR i1 i2 i3 i4 hc1 hc2 hW hl4 hend2)
  by_cases c12 : z = (12 : Int32)
  · exact lv_tableIn (tgt := 690) hx hb dL_law_32 (by rw [c12]; decide) (by rw [c12]; decide) (by rw [c12]; rfl) (by decide) (lw_c12 X hA hX hbl hbA P.2.2.2.2.2.2.2.2.2.2.2.2.1 hR i1 i2 i3 i4 hc1 hc2 hW hl4 hend2)
  by_cases c13 : z = (13 : Int32)
  · exact lv_tableIn (tgt := 723) hx hb dL_law_32 (by rw [c13]; decide) (by rw [c13]; decide) (by rw [c13]; rfl) (by decide) (lw_c13 X hA hX hbl hbA P.2.2.2.2.2.2.2.2.2.2.2.2.2.1 hR i1 i2 i3 i4 hc1 hc2 hW hl4 hend2)
  by_cases c14 : z = (14 : Int32)
  · exact lv_tableIn (tgt := 756) hx hb dL_law_32 (by rw [c14]; decide) (by rw [c14]; decide) (by rw [c14]; rfl) (by decide) (lw_c14 X hA hX hbl hbA P.2.2.2.2.2.2.2.2.2.2.2.2.2.2.1 hR i1 i2 i3 i4 hc1 hc2 hW hl4 hend2)
  by_cases c15 : z = (15 : Int32)
  · exact lv_tableIn (tgt := 799) hx hb dL_law_32 (by rw [c15]; decide) (by rw [c15]; decide) (by rw [c15]; rfl) (by decide) (lw_c15 X hA hX hbl hbA P.2.2.2.2.2.2.2.2.2.2.2.2.2.2.2.1 hR i1 i2 i3 i4 hc1 hc2 hW hl4 hend2)
  by_cases c16 : z = (16 : Int32)
  · exact lv_tableIn (tgt := 832) hx hb dL_law_32 (by rw [c16]; decide) (by rw [c16]; decide) (by rw [c16]; rfl) (by decide) (lw_c16 X hA hX hbl hbA P.2.2.2.2.2.2.2.2.2.2.2.2.2.2.2.2.1 hR i1 i2 i3 i4 hc1 hc2 hW hl4 hend2)
  by_cases c17 : z = (17 : Int32)
  · exact lv_tableIn (tgt := 855) hx hb dL_law_32 (by rw [c17]; decide) (by rw [c17]; decide) (by rw [c17]; rfl) (by decide) (lw_c17 X hA hX hbl hbA P.2.2.2.2.2.2.2.2.2.2.2.2.2.2.2.2.2.1 hR i1 i2 i3 i4 hc1 hc2 hW hl4 hend2)
  by_cases c18 : z = (18 : Int32)
  · exact lv_tableIn (tgt := 868) hx hb dL_law_32 (by rw [c18]; decide) (by rw [c18]; decide) (by rw [c18]; rfl) (by decide) (lw_c18 X hA hX hbl hbA P.2.2.2.2.2.2.2.2.2.2.2.2.2.2.2.2.2.2.1 hR i1 i2 i3 i4 hc1 hc2 hW hl4 hend2)
  by_cases c19 : z = (19 : Int32)
  · exact lv_tableIn (tgt := 891) hx hb dL_law_32 (by rw [c19]; decide) (by rw [c19]; decide) (by rw [c19]; rfl) (by decide) (lw_c19 X hA hX hbl hbA P.2.2.2.2.2.2.2.2.2.2.2.2.2.2.2.2.2.2.2.1 hR i1 i2 i3 i4 hc1 hc2 hW hl4 hend2)
  by_cases c20 : z = (20 : Int32)
  · exact lv_tableIn (tgt := 914) hx hb dL_law_32 (by rw [c20]; decide) (by rw [c20]; decide) (by rw [c20]; rfl) (by decide) (lw_c20 X hA hX hbl hbA P.2.2.2.2.2.2.2.2.2.2.2.2.2.2.2.2.2.2.2.2.1 hR i1 i2 i3 i4 hc1 hc2 hW hl4 hend2)
  by_cases c21 : z = (21 : Int32)
  · exact lv_tableIn (tgt := 937) hx hb dL_law_32 (by rw [c21]; decide) (by rw [c21]; decide) (by rw [c21]; rfl) (by decide) (lw_c21 X hA hX hbl hbA P.2.2.2.2.2.2.2.2.2.2.2.2.2.2.2.2.2.2.2.2.2.1 hR i1 i2 i3 i4 hc1 hc2 hW hl4 hend2)
  by_cases c22 : z = (22 : Int32)
  · exact lv_tableIn (tgt := 960) hx hb dL_law_32 (by rw [c22]; decide) (by rw [c22]; decide) (by rw [c22]; rfl) (by decide) (lw_c22 X hA hX hbl hbA P.2.2.2.2.2.2.2.2.2.2.2.2.2.2.2.2.2.2.2.2.2.2.1 hR i1 i2 i3 i4 hc1 hc2 hW hl4 hend2)
  by_cases c23 : z = (23 : Int32)
  · exact lv_tableIn (tgt := 1003) hx hb dL_law_32 (by rw [c23]; decide) (by rw [c23]; decide) (by rw [c23]; rfl) (by decide) (lw_c23 X hA hX hbl hbA P.2.2.2.2.2.2.2.2.2.2.2.2.2.2.2.2.2.2.2.2.2.2.2.1 hR i1 i2 i3 i4 hc1 hc2 hW hl4 hend2)
  by_cases c24 : z = (24 : Int32)
  · exact lv_tableIn (tgt := 1046) hx hb dL_law_32 (by rw [c24]; decide) (by rw [c24]; decide) (by rw [c24]; rfl) (by decide) (lw_c24 X hA hX hbl hbA P.2.2.2.2.2.2.2.2.2.2.2.2.2.2.2.2.2.2.2.2.2.2.2.2.1 hR i1 i2 i3 i4 hc1 hc2 hW hl4 hend2)
  by_cases c25 : z = (25 : Int32)
  · exact lv_tableIn (tgt := 1069) hx hb dL_law_32 (by rw [c25]; decide) (by rw [c25]; decide) (by rw [c25]; rfl) (by decide) (lw_c25 X hA hX hbl hbA P.2.2.2.2.2.2.2.2.2.2.2.2.2.2.2.2.2.2.2.2.2.2.2.2.2.1 hR i1 i2 i3 i4 hc1 hc2 hW hl4 hend2)
  by_cases c26 : z = (26 : Int32)
  · exact lv_tableIn (tgt := 1082) hx hb dL_law_32 (by rw [c26]; decide) (by rw [c26]; decide) (by rw [c26]; rfl) (by decide) (lw_c26 X hA hX hbl hbA P.2.2.2.2.2.2.2.2.2.2.2.2.2.2.2.2.2.2.2.2.2.2.2.2.2.2.1 hR i1 i2 i3 i4 hc1 hc2 hW hl4 hend2)
  by_cases c27 : z = (27 : Int32)
  · exact lv_tableIn (tgt := 1095) hx hb dL_law_32 (by rw [c27]; decide) (by rw [c27]; decide) (by rw [c27]; rfl) (by decide) (lw_c27 X hA hX hbl hbA P.2.2.2.2.2.2.2.2.2.2.2.2.2.2.2.2.2.2.2.2.2.2.2.2.2.2.2.1 hR i1 i2 i3 i4 hc1 hc2 hW hl4 hend2)
  by_cases c28 : z = (28 : Int32)
  · exact lv_tableIn (tgt := 1118) hx hb dL_law_32 (by rw [c28]; decide) (by rw [c28]; decide) (by rw [c28]; rfl) (by decide) (lw_c28 X hA hX hbl hbA P.2.2.2.2.2.2.2.2.2.2.2.2.2.2.2.2.2.2.2.2.2.2.2.2.2.2.2.2.1 hR i1 i2 i3 i4 hc1 hc2 hW hl4 hend2)
  by_cases c29 : z = (29 : Int32)
  · exact lv_tableIn (tgt := 1161) hx hb dL_law_32 (by rw [c29]; decide) (by rw [c29]; decide) (by rw [c29]; rfl) (by decide) (lw_c29 X hA hX hbl hbA P.2.2.2.2.2.2.2.2.2.2.2.2.2.2.2.2.2.2.2.2.2.2.2.2.2.2.2.2.2.1 hR i1 i2 i3 i4 hc1 hc2 hW hl4 hend2)
  by_cases c30 : z = (30 : Int32)
  · exact lv_tableIn (tgt := 1194) hx hb dL_law_32 (by rw [c30]; decide) (by rw [c30]; decide) (by rw [c30]; rfl) (by decide) (lw_c30 X hA hX hbl hbA P.2.2.2.2.2.2.2.2.2.2.2.2.2.2.2.2.2.2.2.2.2.2.2.2.2.2.2.2.2.2.1 hR i1 i2 i3 i4 hc1 hc2 hW hl4 hend2)
  by_cases c31 : z = (31 : Int32)
  · exact lv_tableIn (tgt := 1227) hx hb dL_law_32 (by rw [c31]; decide) (by rw [c31]; decide) (by rw [c31]; rfl) (by decide) (lw_c31 X hA hX hbl hbA P.2.2.2.2.2.2.2.2.2.2.2.2.2.2.2.2.2.2.2.2.2.2.2.2.2.2.2.2.2.2.2.1 hR i1 i2 i3 i4 hc1 hc2 hW hl4 hend2)
  by_cases c32 : z = (32 : Int32)
  · exact lv_tableIn (tgt := 1290) hx hb dL_law_32 (by rw [c32]; decide) (by rw [c32]; decide) (by rw [c32]; rfl) (by decide) (lw_c32 X hA hX hbl hbA P.2.2.2.2.2.2.2.2.2.2.2.2.2.2.2.2.2.2.2.2.2.2.2.2.2.2.2.2.2.2.2.2.1 hR i1 i2 i3 i4 hc1 hc2 hW hl4 hend2)
  by_cases c33 : z = (33 : Int32)
  · exact lv_tableIn (tgt := 1303) hx hb dL_law_32 (by rw [c33]; decide) (by rw [c33]; decide) (by rw [c33]; rfl) (by decide) (lw_c33 X hA hX hbl hbA P.2.2.2.2.2.2.2.2.2.2.2.2.2.2.2.2.2.2.2.2.2.2.2.2.2.2.2.2.2.2.2.2.2.1 hR i1 i2 i3 i4 hc1 hc2 hW hl4 hend2)
  by_cases c34 : z = (34 : Int32)
  · exact lv_tableIn (tgt := 1316) hx hb dL_law_32 (by rw [c34]; decide) (by rw [c34]; decide) (by rw [c34]; rfl) (by decide) (lw_c34 X hA hX hbl hbA P.2.2.2.2.2.2.2.2.2.2.2.2.2.2.2.2.2.2.2.2.2.2.2.2.2.2.2.2.2.2.2.2.2.2.1 hR i1 i2 i3 i4 hc1 hc2 hW hl4 hend2)
  by_cases c35 : z = (35 : Int32)
  · exact lv_tableIn (tgt := 1339) hx hb dL_law_32 (by rw [c35]; decide) (by rw [c35]; decide) (by rw [c35]; rfl) (by decide) (lw_c35 X hA hX hbl hbA P.2.2.2.2.2.2.2.2.2.2.2.2.2.2.2.2.2.2.2.2.2.2.2.2.2.2.2.2.2.2.2.2.2.2.2.1 hR i1 i2 i3 i4 hc1 hc2 hW hl4 hend2)
  by_cases c36 : z = (36 : Int32)
  · exact lv_tableIn (tgt := 1372) hx hb dL_law_32 (by rw [c36]; decide) (by rw [c36]; decide) (by rw [c36]; rfl) (by decide) (lw_c36 X hA hX hbl hbA P.2.2.2.2.2.2.2.2.2.2.2.2.2.2.2.2.2.2.2.2.2.2.2.2.2.2.2.2.2.2.2.2.2.2.2.2.1 hR i1 i2 i3 i4 hc1 hc2 hW hl4 hend2)
  by_cases c37 : z = (37 : Int32)
  · exact lv_tableIn (tgt := 1395) hx hb dL_law_32 (by rw [c37]; decide) (by rw [c37]; decide) (by rw [c37]; rfl) (by decide) (lw_c37 X hA hX hbl hbA P.2.2.2.2.2.2.2.2.2.2.2.2.2.2.2.2.2.2.2.2.2.2.2.2.2.2.2.2.2.2.2.2.2.2.2.2.2.1 hR i1 i2 i3 i4 hc1 hc2 hW hl4 hend2)
  by_cases c38 : z = (38 : Int32)
  · exact lv_tableIn (tgt := 1418) hx hb dL_law_32 (by rw [c38]; decide) (by rw [c38]; decide) (by rw [c38]; rfl) (by decide) (lw_c38 X hA hX hbl hbA P.2.2.2.2.2.2.2.2.2.2.2.2.2.2.2.2.2.2.2.2.2.2.2.2.2.2.2.2.2.2.2.2.2.2.2.2.2.2.1 hR i1 i2 i3 i4 hc1 hc2 hW hl4 hend2)
  by_cases c39 : z = (39 : Int32)
  · exact lv_tableIn (tgt := 1441) hx hb dL_law_32 (by rw [c39]; decide) (by rw [c39]; decide) (by rw [c39]; rfl) (by decide) (lw_c39 X hA hX hbl hbA P.2.2.2.2.2.2.2.2.2.2.2.2.2.2.2.2.2.2.2.2.2.2.2.2.2.2.2.2.2.2.2.2.2.2.2.2.2.2.2 hR i1 i2 i3 i4 hc1 hc2 hW hl4 hend2)
  exact lv_tableOut (tgt := 1455) hx hb dL_law_32 (lw_sw c0 c1 c2 c3 c4 c5 c6 c7 c8 c9 c10 c11 c12 c13 c14 c15 c16 c17 c18 c19 c20 c21 c22 c23 c24 c25 c26 c27 c28 c29 c30 c31 c32 c33 c34 c35 c36 c37 c38 c39) (by decide) (hend2 x y H locs hR hW)
end LW
