abbrev wd_Floor_seenBy (E : m_E) (a_t : Nat) (a_t_tell : Nat) (a_t_look : Nat) (a_t_place : Nat) (a_t_way : Nat) (a_t_farSquare : Nat) (t_pillars : Int64) (t_weavers : Int32) (t_place : Nat → Int32) (t_way : Nat → Int32) (t_farSquare : Nat → Int32) : va_W := [(a_t, .inr (1, [.long t_pillars, .int t_weavers, .ref a_t_place, .ref a_t_way, .ref a_t_tell, .ref a_t_look, .ref a_t_farSquare])), (a_t_place, .inl (E.2.1 0, 8, .inl t_place)), (a_t_way, .inl (E.2.1 0, 8, .inl t_way)), (a_t_farSquare, .inl (E.2.1 0, 2, .inl t_farSquare))]
def rm_Floor_seenBy : Room := { frames := 4, cells := 0, slots := 0, locals := 97 }
set_option maxHeartbeats 4000000 in
set_option maxRecDepth 100000 in
theorem c_Floor_seenBy (l : Launch) (E : m_E) (sz N : Nat) (a_t : Nat) (a_t_tell : Nat) (a_t_look : Nat) (a_t_place : Nat) (a_t_way : Nat) (a_t_farSquare : Nat) (t_pillars : Int64) (t_weavers : Int32) (t_place : Nat → Int32) (t_way : Nat → Int32) (t_farSquare : Nat → Int32) (p1 : Int32) (ures : Int32) (hF : F_Floor_seenBy N p1 t_pillars t_weavers t_place t_way t_farSquare = some ures) : m_Met l yX1_seenBy cX1_seenBy 4 (some .int) rm_Floor_seenBy E (wd_Floor_seenBy E a_t a_t_tell a_t_look a_t_place a_t_way a_t_farSquare t_pillars t_weavers t_place t_way t_farSquare) (wd_Floor_seenBy E a_t a_t_tell a_t_look a_t_place a_t_way a_t_farSquare t_pillars t_weavers t_place t_way t_farSquare) sz [.ref a_t, .int p1] (some (.int ures)) := by
  refine m_ofI (by decide) (Nat.le_of_ble_eq_true rfl) ?_
  intro p e s m args below meth c A Q ls X hW hA hl hret
  obtain ⟨hx, hb, -, hown, hts, hK, -, hG⟩ := id X
  have hl : lv_has ls 4 [(0, .ref a_t), (1, .int p1)] := hl
  unfold F_Floor_seenBy at hF
  refine lv_aload_n hx hb dX1_seenBy_0 rfl (lv_at hl 0 rfl) ?_
  refine lv_iload_n hx hb dX1_seenBy_1 rfl (lv_at hl 1 rfl) ?_
  refine m_callV X hW hA hl.1 lkX1_48 (c_Floor_isWeaver l E _ N a_t a_t_place a_t_way a_t_tell a_t_look a_t_farSquare t_pillars t_weavers p1 (F_Floor_isWeaver p1 t_weavers) rfl) ([0]) (by decide) rfl rfl (ws' := (wd_Floor_seenBy E a_t a_t_tell a_t_look a_t_place a_t_way a_t_farSquare t_pillars t_weavers t_place t_way t_farSquare)) rfl 0 rfl rfl rfl (As := [.int p1]) (rest := []) rfl rfl ⟨rfl, rfl, Nat.le_of_ble_eq_true rfl, Nat.le_of_ble_eq_true rfl⟩ (Nat.le_of_ble_eq_true rfl) (Nat.zero_le _) (Nat.zero_le _) dX1_seenBy_2 (fun H locs hW => ?_)
  refine lv_if_ne (tgt := 10) hx hb dX1_seenBy_5 (by decide) (fun c1 => ?_) (fun c1 => ?_)
  · have hF := if_n c1 hF
    refine lv_iconst (v := (0 : Int32)) hx hb dX1_seenBy_10 (by decide) ?_
    refine lv_istore_n (lv' := [(2, .int (0 : Int32)), (0, .ref a_t), (1, .int p1)]) hx hb dX1_seenBy_11 rfl hl (by decide) rfl (fun ls hl => ?_)
    refine lv_iconst (v := (0 : Int32)) hx hb dX1_seenBy_12 (by decide) ?_
    refine lv_istore_n (lv' := [(3, .int (0 : Int32)), (2, .int (0 : Int32)), (0, .ref a_t), (1, .int p1)]) hx hb dX1_seenBy_13 rfl hl (by decide) rfl (fun ls hl => ?_)
    obtain ⟨x2_2, hX3, hF⟩ := bO_s1 hF
    have L2 : ∀ (k0 : Nat) (x2 : Int32) (x3 : Int32) (x2_2 : Int32) (H : Heap) (locs : List Loc) (ls : Array Slot), Floor_seenBy_L14 N t_weavers p1 t_pillars t_place t_way t_farSquare k0 x2 x3 = some x2_2 → m_H E A (wd_Floor_seenBy E a_t a_t_tell a_t_look a_t_place a_t_way a_t_farSquare t_pillars t_weavers t_place t_way t_farSquare) s.heap H locs → lv_has ls 4 [(3, .int x3), (2, .int x2), (0, .ref a_t), (1, .int p1)] → (∀ (H : Heap) (locs : List Loc) (ls : Array Slot), m_H E A (wd_Floor_seenBy E a_t a_t_tell a_t_look a_t_place a_t_way a_t_farSquare t_pillars t_weavers t_place t_way t_farSquare) s.heap H locs → lv_has ls 4 [(2, .int x2_2)] → W p l e rm_Floor_seenBy s m args below meth c H locs 0 0 Q (F0 m 59 ls [])) → W p l e rm_Floor_seenBy s m args below meth c H locs 0 0 Q (F0 m 14 ls []) := by
      clear hF
      intro k0
      induction k0 with
      | zero =>
        intro x2 x3 x2_2 H locs ls hF
        cases hF
      | succ k0 ih5 =>
        intro x2 x3 x2_2 H locs ls hF hW hl hk4
        rw [Floor_seenBy_L14] at hF
        refine lv_iload_n hx hb dX1_seenBy_14 rfl (lv_at hl 0 rfl) ?_
        refine lv_aload_n hx hb dX1_seenBy_15 rfl (lv_at hl 2 rfl) ?_
        refine m_get X hW fdX1_34 0 rfl rfl dX1_seenBy_16 ?_
        refine lv_icmp_ge (tgt := 59) hx hb dX1_seenBy_19 (by decide) (fun c6 => ?_) (fun c6 => ?_)
        · have hF := if_y c6 hF
          cases hF
          exact hk4 _ _ _ hW (lv_sub hl [1] rfl)
        · have hF := if_n c6 hF
          refine lv_iload_n hx hb dX1_seenBy_22 rfl (lv_at hl 3 rfl) ?_
          refine lv_iload_n hx hb dX1_seenBy_23 rfl (lv_at hl 0 rfl) ?_
          refine lv_icmp_eq (tgt := 53) hx hb dX1_seenBy_24 (by decide) (fun c7 => ?_) (fun c7 => ?_)
          · have hF := if_y c7 hF
            refine lv_iinc (v := (x3 + (1 : Int32))) (lv' := [(3, .int (x3 + (1 : Int32))), (2, .int x2), (0, .ref a_t), (1, .int p1)]) hx hb dX1_seenBy_53 hl (k := 0) rfl rfl (by decide) rfl (fun ls hl => ?_)
            refine lv_goto (tgt := 14) hx hb dX1_seenBy_56 (by decide) ?_
            exact ih5 x2 (x3 + (1 : Int32)) x2_2 _ _ _ hF hW (lv_sub hl [0, 1, 2, 3] rfl) hk4
          · have hF := if_n c7 hF
            refine lv_aload_n hx hb dX1_seenBy_27 rfl (lv_at hl 2 rfl) ?_
            refine lv_iload_n hx hb dX1_seenBy_28 rfl (lv_at hl 3 rfl) ?_
            refine lv_iload_n hx hb dX1_seenBy_29 rfl (lv_at hl 0 rfl) ?_
            refine lv_iconst (v := (0 : Int32)) hx hb dX1_seenBy_30 (by decide) ?_
            obtain ⟨r31, hC8, hF⟩ := bO_s1 hF
            refine m_callV X hW hA hl.1 lkX1_83 (c_Floor_perceives l E _ N a_t a_t_tell a_t_look a_t_place a_t_way a_t_farSquare t_pillars t_weavers t_place t_way t_farSquare p1 x3 (0 : Int32) r31 hC8) ([0, 1, 2, 3]) (by decide) rfl rfl (ws' := (wd_Floor_seenBy E a_t a_t_tell a_t_look a_t_place a_t_way a_t_farSquare t_pillars t_weavers t_place t_way t_farSquare)) rfl 0 rfl rfl rfl (As := [.int p1, .int x3, .int (0 : Int32)]) (rest := []) rfl rfl ⟨rfl, rfl, Nat.le_of_ble_eq_true rfl, Nat.le_of_ble_eq_true rfl⟩ (Nat.le_of_ble_eq_true rfl) (Nat.zero_le _) (Nat.zero_le _) dX1_seenBy_31 (fun H locs hW => ?_)
            clear hC8
            refine lv_if_ne (tgt := 47) hx hb dX1_seenBy_34 (by decide) (fun c9 => ?_) (fun c9 => ?_)
            · have hF := if_n c9 hF
              refine lv_iload_n hx hb dX1_seenBy_47 rfl (lv_at hl 1 rfl) ?_
              refine lv_iconst (v := (1 : Int32)) hx hb dX1_seenBy_48 (by decide) ?_
              refine lv_iload_n hx hb dX1_seenBy_49 rfl (lv_at hl 0 rfl) ?_
              refine m_ishl hx hb dX1_seenBy_50 ?_
              refine lv_ior hx hb dX1_seenBy_51 ?_
              refine lv_istore_n (lv' := [(2, .int (x2 ||| (jshl (1 : Int32) x3))), (3, .int x3), (0, .ref a_t), (1, .int p1)]) hx hb dX1_seenBy_52 rfl hl (by decide) rfl (fun ls hl => ?_)
              refine lv_iinc (v := (x3 + (1 : Int32))) (lv' := [(3, .int (x3 + (1 : Int32))), (2, .int (x2 ||| (jshl (1 : Int32) x3))), (0, .ref a_t), (1, .int p1)]) hx hb dX1_seenBy_53 hl (k := 1) rfl rfl (by decide) rfl (fun ls hl => ?_)
              refine lv_goto (tgt := 14) hx hb dX1_seenBy_56 (by decide) ?_
              exact ih5 (x2 ||| (jshl (1 : Int32) x3)) (x3 + (1 : Int32)) x2_2 _ _ _ hF hW (lv_sub hl [0, 1, 2, 3] rfl) hk4
            · have hF := if_y c9 hF
              refine lv_aload_n hx hb dX1_seenBy_37 rfl (lv_at hl 2 rfl) ?_
              refine lv_iload_n hx hb dX1_seenBy_38 rfl (lv_at hl 3 rfl) ?_
              refine lv_iload_n hx hb dX1_seenBy_39 rfl (lv_at hl 0 rfl) ?_
              refine lv_iconst (v := (1 : Int32)) hx hb dX1_seenBy_40 (by decide) ?_
              obtain ⟨r41, hC10, hF⟩ := bO_s1 hF
              refine m_callV X hW hA hl.1 lkX1_83 (c_Floor_perceives l E _ N a_t a_t_tell a_t_look a_t_place a_t_way a_t_farSquare t_pillars t_weavers t_place t_way t_farSquare p1 x3 (1 : Int32) r41 hC10) ([0, 1, 2, 3]) (by decide) rfl rfl (ws' := (wd_Floor_seenBy E a_t a_t_tell a_t_look a_t_place a_t_way a_t_farSquare t_pillars t_weavers t_place t_way t_farSquare)) rfl 0 rfl rfl rfl (As := [.int p1, .int x3, .int (1 : Int32)]) (rest := []) rfl rfl ⟨rfl, rfl, Nat.le_of_ble_eq_true rfl, Nat.le_of_ble_eq_true rfl⟩ (Nat.le_of_ble_eq_true rfl) (Nat.zero_le _) (Nat.zero_le _) dX1_seenBy_41 (fun H locs hW => ?_)
              clear hC10
              refine lv_if_eq (tgt := 53) hx hb dX1_seenBy_44 (by decide) (fun c11 => ?_) (fun c11 => ?_)
              · have hF := if_y c11 hF
                refine lv_iinc (v := (x3 + (1 : Int32))) (lv' := [(3, .int (x3 + (1 : Int32))), (2, .int x2), (0, .ref a_t), (1, .int p1)]) hx hb dX1_seenBy_53 hl (k := 0) rfl rfl (by decide) rfl (fun ls hl => ?_)
                refine lv_goto (tgt := 14) hx hb dX1_seenBy_56 (by decide) ?_
                exact ih5 x2 (x3 + (1 : Int32)) x2_2 _ _ _ hF hW (lv_sub hl [0, 1, 2, 3] rfl) hk4
              · have hF := if_n c11 hF
                refine lv_iload_n hx hb dX1_seenBy_47 rfl (lv_at hl 1 rfl) ?_
                refine lv_iconst (v := (1 : Int32)) hx hb dX1_seenBy_48 (by decide) ?_
                refine lv_iload_n hx hb dX1_seenBy_49 rfl (lv_at hl 0 rfl) ?_
                refine m_ishl hx hb dX1_seenBy_50 ?_
                refine lv_ior hx hb dX1_seenBy_51 ?_
                refine lv_istore_n (lv' := [(2, .int (x2 ||| (jshl (1 : Int32) x3))), (3, .int x3), (0, .ref a_t), (1, .int p1)]) hx hb dX1_seenBy_52 rfl hl (by decide) rfl (fun ls hl => ?_)
                refine lv_iinc (v := (x3 + (1 : Int32))) (lv' := [(3, .int (x3 + (1 : Int32))), (2, .int (x2 ||| (jshl (1 : Int32) x3))), (0, .ref a_t), (1, .int p1)]) hx hb dX1_seenBy_53 hl (k := 1) rfl rfl (by decide) rfl (fun ls hl => ?_)
                refine lv_goto (tgt := 14) hx hb dX1_seenBy_56 (by decide) ?_
                exact ih5 (x2 ||| (jshl (1 : Int32) x3)) (x3 + (1 : Int32)) x2_2 _ _ _ hF hW (lv_sub hl [0, 1, 2, 3] rfl) hk4
    refine L2 N (0 : Int32) (0 : Int32) x2_2 _ _ _ hX3 hW (lv_sub hl [0, 1, 2, 3] rfl) ?_
    intro H locs ls hW hl
    clear L2
    refine lv_iload_n hx hb dX1_seenBy_59 rfl (lv_at hl 0 rfl) ?_
    have hq := Option.some.inj hF
    subst hq
    exact hret _ _ _ _ hW dX1_seenBy_60
  · have hF := if_y c1 hF
    refine lv_iconst (v := (0 : Int32)) hx hb dX1_seenBy_8 (by decide) ?_
    have hq := Option.some.inj hF
    subst hq
    exact hret _ _ _ _ hW dX1_seenBy_9
abbrev wd_Floor_lookersIn (E : m_E) (a_t : Nat) (a_t_place : Nat) (a_t_way : Nat) (a_t_tell : Nat) (a_t_farSquare : Nat) (a_t_look : Nat) (t_pillars : Int64) (t_weavers : Int32) (t_look : Nat → Int32) : va_W := [(a_t, .inr (1, [.long t_pillars, .int t_weavers, .ref a_t_place, .ref a_t_way, .ref a_t_tell, .ref a_t_look, .ref a_t_farSquare])), (a_t_look, .inl (E.2.1 0, 8, .inl t_look))]
def rm_Floor_lookersIn : Room := { frames := 0, cells := 0, slots := 0, locals := 0 }
set_option maxHeartbeats 4000000 in
set_option maxRecDepth 100000 in
theorem c_Floor_lookersIn (l : Launch) (E : m_E) (sz N : Nat) (a_t : Nat) (a_t_place : Nat) (a_t_way : Nat) (a_t_tell : Nat) (a_t_farSquare : Nat) (a_t_look : Nat) (t_pillars : Int64) (t_weavers : Int32) (t_look : Nat → Int32) (p1 : Int32) (ures : Int32) (hF : F_Floor_lookersIn N p1 t_weavers t_look = some ures) : m_Met l yX1_lookersIn cX1_lookersIn 4 (some .int) rm_Floor_lookersIn E (wd_Floor_lookersIn E a_t a_t_place a_t_way a_t_tell a_t_farSquare a_t_look t_pillars t_weavers t_look) (wd_Floor_lookersIn E a_t a_t_place a_t_way a_t_tell a_t_farSquare a_t_look t_pillars t_weavers t_look) sz [.ref a_t, .int p1] (some (.int ures)) := by
  refine m_ofI (by decide) (Nat.le_of_ble_eq_true rfl) ?_
  intro p e s m args below meth c A Q ls X hW hA hl hret
  obtain ⟨hx, hb, -, hown, hts, hK, -, hG⟩ := id X
  have hl : lv_has ls 4 [(0, .ref a_t), (1, .int p1)] := hl
  unfold F_Floor_lookersIn at hF
  refine lv_iconst (v := (0 : Int32)) hx hb dX1_lookersIn_0 (by decide) ?_
  refine lv_istore_n (lv' := [(2, .int (0 : Int32)), (0, .ref a_t), (1, .int p1)]) hx hb dX1_lookersIn_1 rfl hl (by decide) rfl (fun ls hl => ?_)
  refine lv_iconst (v := (0 : Int32)) hx hb dX1_lookersIn_2 (by decide) ?_
  refine lv_istore_n (lv' := [(3, .int (0 : Int32)), (2, .int (0 : Int32)), (0, .ref a_t), (1, .int p1)]) hx hb dX1_lookersIn_3 rfl hl (by decide) rfl (fun ls hl => ?_)
  obtain ⟨x2_2, hX2, hF⟩ := bO_s1 hF
  have L1 : ∀ (k0 : Nat) (x2 : Int32) (x3 : Int32) (x2_2 : Int32) (H : Heap) (locs : List Loc) (ls : Array Slot), Floor_lookersIn_L4 t_weavers t_look p1 k0 x2 x3 = some x2_2 → m_H E A (wd_Floor_lookersIn E a_t a_t_place a_t_way a_t_tell a_t_farSquare a_t_look t_pillars t_weavers t_look) s.heap H locs → lv_has ls 4 [(3, .int x3), (2, .int x2), (0, .ref a_t), (1, .int p1)] → (∀ (H : Heap) (locs : List Loc) (ls : Array Slot), m_H E A (wd_Floor_lookersIn E a_t a_t_place a_t_way a_t_tell a_t_farSquare a_t_look t_pillars t_weavers t_look) s.heap H locs → lv_has ls 4 [(2, .int x2_2)] → W p l e rm_Floor_lookersIn s m args below meth c H locs 0 0 Q (F0 m 36 ls [])) → W p l e rm_Floor_lookersIn s m args below meth c H locs 0 0 Q (F0 m 4 ls []) := by
    clear hF
    intro k0
    induction k0 with
    | zero =>
      intro x2 x3 x2_2 H locs ls hF
      cases hF
    | succ k0 ih4 =>
      intro x2 x3 x2_2 H locs ls hF hW hl hk3
      rw [Floor_lookersIn_L4] at hF
      refine lv_iload_n hx hb dX1_lookersIn_4 rfl (lv_at hl 0 rfl) ?_
      refine lv_aload_n hx hb dX1_lookersIn_5 rfl (lv_at hl 2 rfl) ?_
      refine m_get X hW fdX1_34 0 rfl rfl dX1_lookersIn_6 ?_
      refine lv_icmp_ge (tgt := 36) hx hb dX1_lookersIn_9 (by decide) (fun c5 => ?_) (fun c5 => ?_)
      · have hF := if_y c5 hF
        cases hF
        exact hk3 _ _ _ hW (lv_sub hl [1] rfl)
      · have hF := if_n c5 hF
        refine lv_iload_n hx hb dX1_lookersIn_12 rfl (lv_at hl 1 rfl) ?_
        refine lv_aload_n hx hb dX1_lookersIn_13 rfl (lv_at hl 2 rfl) ?_
        refine m_get X hW fdX1_21 0 rfl rfl dX1_lookersIn_14 ?_
        refine lv_iload_n hx hb dX1_lookersIn_17 rfl (lv_at hl 0 rfl) ?_
        obtain ⟨g6, hF⟩ := gd_some hF
        refine m_iald X hW 1 (k := x3.toNatClampNeg) rfl g6 rfl dX1_lookersIn_18 ?_
        refine lv_iload_n hx hb dX1_lookersIn_19 rfl (lv_at hl 3 rfl) ?_
        refine lv_bipush (v := (12 : Int32)) hx hb dX1_lookersIn_20 (by decide) ?_
        refine m_irem hx hb dX1_lookersIn_22 (by decide) ?_
        refine m_iushr hx hb dX1_lookersIn_23 ?_
        refine lv_iconst (v := (1 : Int32)) hx hb dX1_lookersIn_24 (by decide) ?_
        refine lv_iand hx hb dX1_lookersIn_25 ?_
        refine lv_iload_n hx hb dX1_lookersIn_26 rfl (lv_at hl 0 rfl) ?_
        refine m_ishl hx hb dX1_lookersIn_27 ?_
        refine lv_ior hx hb dX1_lookersIn_28 ?_
        refine lv_istore_n (lv' := [(2, .int (x2 ||| (jshl ((jushr (t_look x3.toNatClampNeg) (jrem p1 (12 : Int32))) &&& (1 : Int32)) x3))), (3, .int x3), (0, .ref a_t), (1, .int p1)]) hx hb dX1_lookersIn_29 rfl hl (by decide) rfl (fun ls hl => ?_)
        refine lv_iinc (v := (x3 + (1 : Int32))) (lv' := [(3, .int (x3 + (1 : Int32))), (2, .int (x2 ||| (jshl ((jushr (t_look x3.toNatClampNeg) (jrem p1 (12 : Int32))) &&& (1 : Int32)) x3))), (0, .ref a_t), (1, .int p1)]) hx hb dX1_lookersIn_30 hl (k := 1) rfl rfl (by decide) rfl (fun ls hl => ?_)
        refine lv_goto (tgt := 4) hx hb dX1_lookersIn_33 (by decide) ?_
        exact ih4 (x2 ||| (jshl ((jushr (t_look x3.toNatClampNeg) (jrem p1 (12 : Int32))) &&& (1 : Int32)) x3)) (x3 + (1 : Int32)) x2_2 _ _ _ hF hW (lv_sub hl [0, 1, 2, 3] rfl) hk3
  refine L1 N (0 : Int32) (0 : Int32) x2_2 _ _ _ hX2 hW (lv_sub hl [0, 1, 2, 3] rfl) ?_
  intro H locs ls hW hl
  clear L1
  refine lv_iload_n hx hb dX1_lookersIn_36 rfl (lv_at hl 0 rfl) ?_
  have hq := Option.some.inj hF
  subst hq
  exact hret _ _ _ _ hW dX1_lookersIn_37
abbrev wd_S_hasBit (E : m_E)   : va_W := []
def rm_S_hasBit : Room := { frames := 0, cells := 0, slots := 0, locals := 0 }
set_option maxHeartbeats 4000000 in
set_option maxRecDepth 100000 in
theorem c_S_hasBit (l : Launch) (E : m_E) (sz N : Nat)   (p1 : Int32) (p2 : Int32) (ures : Int32) (hF : F_S_hasBit p1 p2 = ures) : m_Met l yX11_hasBit cX11_hasBit 2 (some .boolean) rm_S_hasBit E (wd_S_hasBit E) (wd_S_hasBit E) sz [.int p1, .int p2] (some (.int ures)) := by
  refine m_ofZ (by decide) (Nat.le_of_ble_eq_true rfl) ?_
  intro p e s m args below meth c A Q ls X hW hA hl hret
  obtain ⟨hx, hb, -, hown, hts, hK, -, hG⟩ := id X
  have hl : lv_has ls 2 [(0, .int p1), (1, .int p2)] := hl
  unfold F_S_hasBit at hF
  refine lv_iload_n hx hb dX11_hasBit_0 rfl (lv_at hl 0 rfl) ?_
  refine lv_iload_n hx hb dX11_hasBit_1 rfl (lv_at hl 1 rfl) ?_
  refine m_iushr hx hb dX11_hasBit_2 ?_
  refine lv_iconst (v := (1 : Int32)) hx hb dX11_hasBit_3 (by decide) ?_
  refine lv_iand hx hb dX11_hasBit_4 ?_
  refine lv_if_eq (tgt := 12) hx hb dX11_hasBit_5 (by decide) (fun c1 => ?_) (fun c1 => ?_)
  · have hF := if_y c1 hF
    refine lv_iconst (v := (0 : Int32)) hx hb dX11_hasBit_12 (by decide) ?_
    have hq := hF
    subst hq
    exact hret _ _ _ _ _ rfl hW dX11_hasBit_13
  · have hF := if_n c1 hF
    refine lv_iconst (v := (1 : Int32)) hx hb dX11_hasBit_8 (by decide) ?_
    refine lv_goto (tgt := 13) hx hb dX11_hasBit_9 (by decide) ?_
    have hq := hF
    subst hq
    exact hret _ _ _ _ _ rfl hW dX11_hasBit_13
abbrev wd_Floor_tellersIn (E : m_E) (a_t : Nat) (a_t_place : Nat) (a_t_way : Nat) (a_t_look : Nat) (a_t_farSquare : Nat) (a_t_tell : Nat) (t_pillars : Int64) (t_weavers : Int32) (t_tell : Nat → Int32) : va_W := [(a_t, .inr (1, [.long t_pillars, .int t_weavers, .ref a_t_place, .ref a_t_way, .ref a_t_tell, .ref a_t_look, .ref a_t_farSquare])), (a_t_tell, .inl (E.2.1 0, 8, .inl t_tell))]
def rm_Floor_tellersIn : Room := { frames := 0, cells := 0, slots := 0, locals := 0 }
set_option maxHeartbeats 4000000 in
set_option maxRecDepth 100000 in
theorem c_Floor_tellersIn (l : Launch) (E : m_E) (sz N : Nat) (a_t : Nat) (a_t_place : Nat) (a_t_way : Nat) (a_t_look : Nat) (a_t_farSquare : Nat) (a_t_tell : Nat) (t_pillars : Int64) (t_weavers : Int32) (t_tell : Nat → Int32) (p1 : Int32) (ures : Int32) (hF : F_Floor_tellersIn N p1 t_weavers t_tell = some ures) : m_Met l yX1_tellersIn cX1_tellersIn 4 (some .int) rm_Floor_tellersIn E (wd_Floor_tellersIn E a_t a_t_place a_t_way a_t_look a_t_farSquare a_t_tell t_pillars t_weavers t_tell) (wd_Floor_tellersIn E a_t a_t_place a_t_way a_t_look a_t_farSquare a_t_tell t_pillars t_weavers t_tell) sz [.ref a_t, .int p1] (some (.int ures)) := by
  refine m_ofI (by decide) (Nat.le_of_ble_eq_true rfl) ?_
  intro p e s m args below meth c A Q ls X hW hA hl hret
  obtain ⟨hx, hb, -, hown, hts, hK, -, hG⟩ := id X
  have hl : lv_has ls 4 [(0, .ref a_t), (1, .int p1)] := hl
  unfold F_Floor_tellersIn at hF
  refine lv_iconst (v := (0 : Int32)) hx hb dX1_tellersIn_0 (by decide) ?_
  refine lv_istore_n (lv' := [(2, .int (0 : Int32)), (0, .ref a_t), (1, .int p1)]) hx hb dX1_tellersIn_1 rfl hl (by decide) rfl (fun ls hl => ?_)
  refine lv_iconst (v := (0 : Int32)) hx hb dX1_tellersIn_2 (by decide) ?_
  refine lv_istore_n (lv' := [(3, .int (0 : Int32)), (2, .int (0 : Int32)), (0, .ref a_t), (1, .int p1)]) hx hb dX1_tellersIn_3 rfl hl (by decide) rfl (fun ls hl => ?_)
  obtain ⟨x2_2, hX2, hF⟩ := bO_s1 hF
  have L1 : ∀ (k0 : Nat) (x2 : Int32) (x3 : Int32) (x2_2 : Int32) (H : Heap) (locs : List Loc) (ls : Array Slot), Floor_tellersIn_L4 t_weavers t_tell p1 k0 x2 x3 = some x2_2 → m_H E A (wd_Floor_tellersIn E a_t a_t_place a_t_way a_t_look a_t_farSquare a_t_tell t_pillars t_weavers t_tell) s.heap H locs → lv_has ls 4 [(3, .int x3), (2, .int x2), (0, .ref a_t), (1, .int p1)] → (∀ (H : Heap) (locs : List Loc) (ls : Array Slot), m_H E A (wd_Floor_tellersIn E a_t a_t_place a_t_way a_t_look a_t_farSquare a_t_tell t_pillars t_weavers t_tell) s.heap H locs → lv_has ls 4 [(2, .int x2_2)] → W p l e rm_Floor_tellersIn s m args below meth c H locs 0 0 Q (F0 m 36 ls [])) → W p l e rm_Floor_tellersIn s m args below meth c H locs 0 0 Q (F0 m 4 ls []) := by
    clear hF
    intro k0
    induction k0 with
    | zero =>
      intro x2 x3 x2_2 H locs ls hF
      cases hF
    | succ k0 ih4 =>
      intro x2 x3 x2_2 H locs ls hF hW hl hk3
      rw [Floor_tellersIn_L4] at hF
      refine lv_iload_n hx hb dX1_tellersIn_4 rfl (lv_at hl 0 rfl) ?_
      refine lv_aload_n hx hb dX1_tellersIn_5 rfl (lv_at hl 2 rfl) ?_
      refine m_get X hW fdX1_34 0 rfl rfl dX1_tellersIn_6 ?_
      refine lv_icmp_ge (tgt := 36) hx hb dX1_tellersIn_9 (by decide) (fun c5 => ?_) (fun c5 => ?_)
      · have hF := if_y c5 hF
        cases hF
        exact hk3 _ _ _ hW (lv_sub hl [1] rfl)
      · have hF := if_n c5 hF
        refine lv_iload_n hx hb dX1_tellersIn_12 rfl (lv_at hl 1 rfl) ?_
        refine lv_aload_n hx hb dX1_tellersIn_13 rfl (lv_at hl 2 rfl) ?_
        refine m_get X hW fdX1_18 0 rfl rfl dX1_tellersIn_14 ?_
        refine lv_iload_n hx hb dX1_tellersIn_17 rfl (lv_at hl 0 rfl) ?_
        obtain ⟨g6, hF⟩ := gd_some hF
        refine m_iald X hW 1 (k := x3.toNatClampNeg) rfl g6 rfl dX1_tellersIn_18 ?_
        refine lv_iload_n hx hb dX1_tellersIn_19 rfl (lv_at hl 3 rfl) ?_
        refine lv_bipush (v := (12 : Int32)) hx hb dX1_tellersIn_20 (by decide) ?_
        refine m_irem hx hb dX1_tellersIn_22 (by decide) ?_
        refine m_iushr hx hb dX1_tellersIn_23 ?_
        refine lv_iconst (v := (1 : Int32)) hx hb dX1_tellersIn_24 (by decide) ?_
        refine lv_iand hx hb dX1_tellersIn_25 ?_
        refine lv_iload_n hx hb dX1_tellersIn_26 rfl (lv_at hl 0 rfl) ?_
        refine m_ishl hx hb dX1_tellersIn_27 ?_
        refine lv_ior hx hb dX1_tellersIn_28 ?_
        refine lv_istore_n (lv' := [(2, .int (x2 ||| (jshl ((jushr (t_tell x3.toNatClampNeg) (jrem p1 (12 : Int32))) &&& (1 : Int32)) x3))), (3, .int x3), (0, .ref a_t), (1, .int p1)]) hx hb dX1_tellersIn_29 rfl hl (by decide) rfl (fun ls hl => ?_)
        refine lv_iinc (v := (x3 + (1 : Int32))) (lv' := [(3, .int (x3 + (1 : Int32))), (2, .int (x2 ||| (jshl ((jushr (t_tell x3.toNatClampNeg) (jrem p1 (12 : Int32))) &&& (1 : Int32)) x3))), (0, .ref a_t), (1, .int p1)]) hx hb dX1_tellersIn_30 hl (k := 1) rfl rfl (by decide) rfl (fun ls hl => ?_)
        refine lv_goto (tgt := 4) hx hb dX1_tellersIn_33 (by decide) ?_
        exact ih4 (x2 ||| (jshl ((jushr (t_tell x3.toNatClampNeg) (jrem p1 (12 : Int32))) &&& (1 : Int32)) x3)) (x3 + (1 : Int32)) x2_2 _ _ _ hF hW (lv_sub hl [0, 1, 2, 3] rfl) hk3
  refine L1 N (0 : Int32) (0 : Int32) x2_2 _ _ _ hX2 hW (lv_sub hl [0, 1, 2, 3] rfl) ?_
  intro H locs ls hW hl
  clear L1
  refine lv_iload_n hx hb dX1_tellersIn_36 rfl (lv_at hl 0 rfl) ?_
  have hq := Option.some.inj hF
  subst hq
  exact hret _ _ _ _ hW dX1_tellersIn_37
abbrev wd_News_write (E : m_E) (a_t : Nat) (a_t_audience : Nat) (a_t_since : Nat) (a_t_toldBy : Nat) (t_since : Nat → Int32) (t_toldBy : Nat → Int32) : va_W := [(a_t, .inr (5, [.ref a_t_since, .ref a_t_toldBy, .ref a_t_audience])), (a_t_since, .inl (E.2.1 0, 8, .inl t_since)), (a_t_toldBy, .inl (E.2.1 0, 8, .inl t_toldBy))]
def rm_News_write : Room := { frames := 1, cells := 0, slots := 0, locals := 21 }
set_option maxHeartbeats 4000000 in
set_option maxRecDepth 100000 in
theorem c_News_write (l : Launch) (E : m_E) (sz N : Nat) (a_t : Nat) (a_t_audience : Nat) (a_t_since : Nat) (a_t_toldBy : Nat) (t_since : Nat → Int32) (t_toldBy : Nat → Int32) (p1 : Int32) (p2 : Int32) (p3 : Int32) (ures : (Nat → Int32) × (Nat → Int32)) (hF : F_News_write N p1 p2 p3 t_since t_toldBy = some ures) : m_Met l yX5_write cX5_write 5 none rm_News_write E (wd_News_write E a_t a_t_audience a_t_since a_t_toldBy t_since t_toldBy) (wd_News_write E a_t a_t_audience a_t_since a_t_toldBy ures.1 ures.2) sz [.ref a_t, .int p1, .int p2, .int p3] none := by
  refine m_ofV (by decide) (Nat.le_of_ble_eq_true rfl) ?_
  intro p e s m args below meth c A Q ls X hW hA hl hret
  obtain ⟨hx, hb, -, hown, hts, hK, -, hG⟩ := id X
  have hl : lv_has ls 5 [(0, .ref a_t), (1, .int p1), (2, .int p2), (3, .int p3)] := hl
  unfold F_News_write at hF
  refine lv_iconst (v := (0 : Int32)) hx hb dX5_write_0 (by decide) ?_
  refine lv_istore (lv' := [(4, .int (0 : Int32)), (0, .ref a_t), (1, .int p1), (2, .int p2), (3, .int p3)]) hx hb dX5_write_1 hl (by decide) rfl (fun ls hl => ?_)
  obtain ⟨t_since'_4, t_toldBy'_4, hX2, hF⟩ := bO_s2 hF
  have L1 : ∀ (k0 : Nat) (x4 : Int32) (t_since'_3 : Nat → Int32) (t_toldBy'_3 : Nat → Int32) (t_since'_4 : Nat → Int32) (t_toldBy'_4 : Nat → Int32) (H : Heap) (locs : List Loc) (ls : Array Slot), News_write_L3 p1 p2 p3 k0 x4 t_since'_3 t_toldBy'_3 = some (t_since'_4, t_toldBy'_4) → m_H E A (wd_News_write E a_t a_t_audience a_t_since a_t_toldBy t_since'_3 t_toldBy'_3) s.heap H locs → lv_has ls 5 [(4, .int x4), (0, .ref a_t), (1, .int p1), (2, .int p2), (3, .int p3)] → (∀ (H : Heap) (locs : List Loc) (ls : Array Slot), m_H E A (wd_News_write E a_t a_t_audience a_t_since a_t_toldBy t_since'_4 t_toldBy'_4) s.heap H locs → lv_has ls 5 [] → W p l e rm_News_write s m args below meth c H locs 0 0 Q (F0 m 41 ls [])) → W p l e rm_News_write s m args below meth c H locs 0 0 Q (F0 m 3 ls []) := by
    clear hF
    intro k0
    induction k0 with
    | zero =>
      intro x4 t_since'_3 t_toldBy'_3 t_since'_4 t_toldBy'_4 H locs ls hF
      cases hF
    | succ k0 ih4 =>
      intro x4 t_since'_3 t_toldBy'_3 t_since'_4 t_toldBy'_4 H locs ls hF hW hl hk3
      rw [News_write_L3] at hF
      refine lv_iload hx hb dX5_write_3 (lv_at hl 0 rfl) ?_
      refine lv_bipush (v := (8 : Int32)) hx hb dX5_write_5 (by decide) ?_
      refine lv_icmp_ge (tgt := 41) hx hb dX5_write_7 (by decide) (fun c5 => ?_) (fun c5 => ?_)
      · have hF := if_y c5 hF
        cases hF
        exact hk3 _ _ _ hW (lv_sub hl [] rfl)
      · have hF := if_n c5 hF
        refine lv_iload_n hx hb dX5_write_10 rfl (lv_at hl 2 rfl) ?_
        refine lv_iload hx hb dX5_write_11 (lv_at hl 0 rfl) ?_
        refine m_callN X hW hA hl.1 lkX5_38 (c_S_hasBit l E _ N   p1 x4 (F_S_hasBit p1 x4) rfl) ([]) (by decide) rfl rfl (ws' := (wd_News_write E a_t a_t_audience a_t_since a_t_toldBy t_since'_3 t_toldBy'_3)) rfl (As := [.int p1, .int x4]) (rest := []) rfl rfl ⟨rfl, rfl, Nat.le_of_ble_eq_true rfl, Nat.le_of_ble_eq_true rfl⟩ (Nat.le_of_ble_eq_true rfl) (Nat.zero_le _) (Nat.zero_le _) dX5_write_13 (fun H locs hW => ?_)
        refine lv_if_eq (tgt := 35) hx hb dX5_write_16 (by decide) (fun c6 => ?_) (fun c6 => ?_)
        · have hF := if_y c6 hF
          refine lv_iinc (v := (x4 + (1 : Int32))) (lv' := [(4, .int (x4 + (1 : Int32))), (0, .ref a_t), (1, .int p1), (2, .int p2), (3, .int p3)]) hx hb dX5_write_35 hl (k := 0) rfl rfl (by decide) rfl (fun ls hl => ?_)
          refine lv_goto (tgt := 3) hx hb dX5_write_38 (by decide) ?_
          exact ih4 (x4 + (1 : Int32)) t_since'_3 t_toldBy'_3 t_since'_4 t_toldBy'_4 _ _ _ hF hW (lv_sub hl [0, 1, 2, 3, 4] rfl) hk3
        · have hF := if_n c6 hF
          refine lv_aload_n hx hb dX5_write_19 rfl (lv_at hl 1 rfl) ?_
          refine m_get X hW fdX5_11 0 rfl rfl dX5_write_20 ?_
          refine lv_iload hx hb dX5_write_23 (lv_at hl 0 rfl) ?_
          refine lv_iload_n hx hb dX5_write_25 rfl (lv_at hl 3 rfl) ?_
          obtain ⟨g7, hF⟩ := gd_some hF
          refine m_iast X hW 1 (k := x4.toNatClampNeg) rfl g7 rfl dX5_write_26 (ws' := (wd_News_write E a_t a_t_audience a_t_since a_t_toldBy (upd t_since'_3 x4.toNatClampNeg p2) t_toldBy'_3)) rfl (fun H locs hW => ?_)
          refine lv_aload_n hx hb dX5_write_27 rfl (lv_at hl 1 rfl) ?_
          refine m_get X hW fdX5_17 0 rfl rfl dX5_write_28 ?_
          refine lv_iload hx hb dX5_write_31 (lv_at hl 0 rfl) ?_
          refine lv_iload_n hx hb dX5_write_33 rfl (lv_at hl 4 rfl) ?_
          refine m_iast X hW 2 (k := x4.toNatClampNeg) rfl g7 rfl dX5_write_34 (ws' := (wd_News_write E a_t a_t_audience a_t_since a_t_toldBy (upd t_since'_3 x4.toNatClampNeg p2) (upd t_toldBy'_3 x4.toNatClampNeg p3))) rfl (fun H locs hW => ?_)
          refine lv_iinc (v := (x4 + (1 : Int32))) (lv' := [(4, .int (x4 + (1 : Int32))), (0, .ref a_t), (1, .int p1), (2, .int p2), (3, .int p3)]) hx hb dX5_write_35 hl (k := 0) rfl rfl (by decide) rfl (fun ls hl => ?_)
          refine lv_goto (tgt := 3) hx hb dX5_write_38 (by decide) ?_
          exact ih4 (x4 + (1 : Int32)) (upd t_since'_3 x4.toNatClampNeg p2) (upd t_toldBy'_3 x4.toNatClampNeg p3) t_since'_4 t_toldBy'_4 _ _ _ hF hW (lv_sub hl [0, 1, 2, 3, 4] rfl) hk3
  refine L1 N (0 : Int32) t_since t_toldBy t_since'_4 t_toldBy'_4 _ _ _ hX2 hW (lv_sub hl [0, 1, 2, 3, 4] rfl) ?_
  intro H locs ls hW hl
  clear L1
  have hq := Option.some.inj hF
  subst hq
  exact hret _ _ _ _ hW dX5_write_41
abbrev wd_News_tellInSecond (E : m_E) (a_t : Nat) (a_t_since : Nat) (a_t_toldBy : Nat) (a_t_audience : Nat) (t_since : Nat → Int32) (t_toldBy : Nat → Int32) (t_audience : Nat → Int32) : va_W := [(a_t, .inr (5, [.ref a_t_since, .ref a_t_toldBy, .ref a_t_audience])), (a_t_since, .inl (E.2.1 0, 8, .inl t_since)), (a_t_toldBy, .inl (E.2.1 0, 8, .inl t_toldBy)), (a_t_audience, .inl (E.2.1 0, 8, .inl t_audience))]
def rm_News_tellInSecond : Room := { frames := 2, cells := 0, slots := 0, locals := 45 }
set_option maxHeartbeats 4000000 in
set_option maxRecDepth 100000 in
theorem c_News_tellInSecond (l : Launch) (E : m_E) (sz N : Nat) (a_t : Nat) (a_t_since : Nat) (a_t_toldBy : Nat) (a_t_audience : Nat) (t_since : Nat → Int32) (t_toldBy : Nat → Int32) (t_audience : Nat → Int32) (p1 : Int32) (p2 : Int32) (p3 : Int32) (ures : Int32 × (Nat → Int32) × (Nat → Int32)) (hF : F_News_tellInSecond N p1 p2 p3 t_since t_toldBy t_audience = some ures) : m_Met l yX5_tellInSecond cX5_tellInSecond 7 (some .int) rm_News_tellInSecond E (wd_News_tellInSecond E a_t a_t_since a_t_toldBy a_t_audience t_since t_toldBy t_audience) (wd_News_tellInSecond E a_t a_t_since a_t_toldBy a_t_audience ures.2.1 ures.2.2 t_audience) sz [.ref a_t, .int p1, .int p2, .int p3] (some (.int ures.1)) := by
  refine m_ofI (by decide) (Nat.le_of_ble_eq_true rfl) ?_
  intro p e s m args below meth c A Q ls X hW hA hl hret
  obtain ⟨hx, hb, -, hown, hts, hK, -, hG⟩ := id X
  have hl : lv_has ls 7 [(0, .ref a_t), (1, .int p1), (2, .int p2), (3, .int p3)] := hl
  unfold F_News_tellInSecond at hF
  refine lv_iconst (v := (0 : Int32)) hx hb dX5_tellInSecond_0 (by decide) ?_
  refine lv_istore (lv' := [(4, .int (0 : Int32)), (0, .ref a_t), (1, .int p1), (2, .int p2), (3, .int p3)]) hx hb dX5_tellInSecond_1 hl (by decide) rfl (fun ls hl => ?_)
  refine lv_iconst (v := (0 : Int32)) hx hb dX5_tellInSecond_3 (by decide) ?_
  refine lv_istore (lv' := [(5, .int (0 : Int32)), (4, .int (0 : Int32)), (0, .ref a_t), (1, .int p1), (2, .int p2), (3, .int p3)]) hx hb dX5_tellInSecond_4 hl (by decide) rfl (fun ls hl => ?_)
  obtain ⟨x4_2, t_since'_6, t_toldBy'_6, hX2, hF⟩ := bO_s3 hF
  have L1 : ∀ (k0 : Nat) (x4 : Int32) (x5 : Int32) (t_since'_4 : Nat → Int32) (t_toldBy'_4 : Nat → Int32) (x4_2 : Int32) (t_since'_6 : Nat → Int32) (t_toldBy'_6 : Nat → Int32) (H : Heap) (locs : List Loc) (ls : Array Slot), News_tellInSecond_L6 N p2 t_audience p3 p1 k0 x4 x5 t_since'_4 t_toldBy'_4 = some (x4_2, t_since'_6, t_toldBy'_6) → m_H E A (wd_News_tellInSecond E a_t a_t_since a_t_toldBy a_t_audience t_since'_4 t_toldBy'_4 t_audience) s.heap H locs → lv_has ls 7 [(5, .int x5), (4, .int x4), (0, .ref a_t), (1, .int p1), (2, .int p2), (3, .int p3)] → (∀ (H : Heap) (locs : List Loc) (ls : Array Slot), m_H E A (wd_News_tellInSecond E a_t a_t_since a_t_toldBy a_t_audience t_since'_6 t_toldBy'_6 t_audience) s.heap H locs → lv_has ls 7 [(4, .int x4_2)] → W p l e rm_News_tellInSecond s m args below meth c H locs 0 0 Q (F0 m 62 ls [])) → W p l e rm_News_tellInSecond s m args below meth c H locs 0 0 Q (F0 m 6 ls []) := by
    clear hF
    intro k0
    induction k0 with
    | zero =>
      intro x4 x5 t_since'_4 t_toldBy'_4 x4_2 t_since'_6 t_toldBy'_6 H locs ls hF
      cases hF
    | succ k0 ih4 =>
      intro x4 x5 t_since'_4 t_toldBy'_4 x4_2 t_since'_6 t_toldBy'_6 H locs ls hF hW hl hk3
      rw [News_tellInSecond_L6] at hF
      refine lv_iload hx hb dX5_tellInSecond_6 (lv_at hl 0 rfl) ?_
      refine lv_bipush (v := (8 : Int32)) hx hb dX5_tellInSecond_8 (by decide) ?_
      refine lv_icmp_ge (tgt := 62) hx hb dX5_tellInSecond_10 (by decide) (fun c5 => ?_) (fun c5 => ?_)
      · have hF := if_y c5 hF
        cases hF
        exact hk3 _ _ _ hW (lv_sub hl [1] rfl)
      · have hF := if_n c5 hF
        refine lv_iload_n hx hb dX5_tellInSecond_13 rfl (lv_at hl 4 rfl) ?_
        refine lv_iload hx hb dX5_tellInSecond_14 (lv_at hl 0 rfl) ?_
        refine m_callN X hW hA hl.1 lkX5_38 (c_S_hasBit l E _ N   p2 x5 (F_S_hasBit p2 x5) rfl) ([]) (by decide) rfl rfl (ws' := (wd_News_tellInSecond E a_t a_t_since a_t_toldBy a_t_audience t_since'_4 t_toldBy'_4 t_audience)) rfl (As := [.int p2, .int x5]) (rest := []) rfl rfl ⟨rfl, rfl, Nat.le_of_ble_eq_true rfl, Nat.le_of_ble_eq_true rfl⟩ (Nat.le_of_ble_eq_true rfl) (Nat.zero_le _) (Nat.zero_le _) dX5_tellInSecond_16 (fun H locs hW => ?_)
        refine lv_if_eq (tgt := 56) hx hb dX5_tellInSecond_19 (by decide) (fun c6 => ?_) (fun c6 => ?_)
        · have hF := if_y c6 hF
          refine lv_iinc (v := (x5 + (1 : Int32))) (lv' := [(5, .int (x5 + (1 : Int32))), (4, .int x4), (0, .ref a_t), (1, .int p1), (2, .int p2), (3, .int p3)]) hx hb dX5_tellInSecond_56 hl (k := 0) rfl rfl (by decide) rfl (fun ls hl => ?_)
          refine lv_goto (tgt := 6) hx hb dX5_tellInSecond_59 (by decide) ?_
          exact ih4 x4 (x5 + (1 : Int32)) t_since'_4 t_toldBy'_4 x4_2 t_since'_6 t_toldBy'_6 _ _ _ hF hW (lv_sub hl [0, 1, 2, 3, 4, 5] rfl) hk3
        · have hF := if_n c6 hF
          refine lv_aload_n hx hb dX5_tellInSecond_22 rfl (lv_at hl 2 rfl) ?_
          refine m_get X hW fdX5_20 0 rfl rfl dX5_tellInSecond_23 ?_
          refine lv_iload hx hb dX5_tellInSecond_26 (lv_at hl 0 rfl) ?_
          obtain ⟨g7, hF⟩ := gd_some hF
          refine m_iald X hW 3 (k := x5.toNatClampNeg) rfl g7 rfl dX5_tellInSecond_28 ?_
          refine lv_iload_n hx hb dX5_tellInSecond_29 rfl (lv_at hl 5 rfl) ?_
          refine lv_iand hx hb dX5_tellInSecond_30 ?_
          refine lv_iload hx hb dX5_tellInSecond_31 (lv_at hl 1 rfl) ?_
          refine lv_iconst (v := (-1 : Int32)) hx hb dX5_tellInSecond_33 (by decide) ?_
          refine lv_ixor hx hb dX5_tellInSecond_34 ?_
          refine lv_iand hx hb dX5_tellInSecond_35 ?_
          refine lv_istore (lv' := [(6, .int (((t_audience x5.toNatClampNeg) &&& p3) &&& (x4 ^^^ (-1 : Int32)))), (5, .int x5), (4, .int x4), (0, .ref a_t), (1, .int p1), (2, .int p2), (3, .int p3)]) hx hb dX5_tellInSecond_36 hl (by decide) rfl (fun ls hl => ?_)
          refine lv_aload_n hx hb dX5_tellInSecond_38 rfl (lv_at hl 3 rfl) ?_
          refine lv_iload hx hb dX5_tellInSecond_39 (lv_at hl 0 rfl) ?_
          refine lv_iload_n hx hb dX5_tellInSecond_41 rfl (lv_at hl 4 rfl) ?_
          refine lv_iconst (v := (1 : Int32)) hx hb dX5_tellInSecond_42 (by decide) ?_
          refine lv_iadd hx hb dX5_tellInSecond_43 ?_
          refine lv_iload hx hb dX5_tellInSecond_44 (lv_at hl 1 rfl) ?_
          obtain ⟨t_since'_5, t_toldBy'_5, hC8, hF⟩ := bO_s2 hF
          refine m_callV X hW hA hl.1 lkX5_49 (c_News_write l E _ N a_t a_t_audience a_t_since a_t_toldBy t_since'_4 t_toldBy'_4 (((t_audience x5.toNatClampNeg) &&& p3) &&& (x4 ^^^ (-1 : Int32))) (p1 + (1 : Int32)) x5 (t_since'_5, t_toldBy'_5) hC8) ([0, 1, 2]) (by decide) rfl rfl (ws' := (wd_News_tellInSecond E a_t a_t_since a_t_toldBy a_t_audience t_since'_5 t_toldBy'_5 t_audience)) rfl 0 rfl rfl rfl (As := [.int (((t_audience x5.toNatClampNeg) &&& p3) &&& (x4 ^^^ (-1 : Int32))), .int (p1 + (1 : Int32)), .int x5]) (rest := []) rfl rfl ⟨rfl, rfl, Nat.le_of_ble_eq_true rfl, Nat.le_of_ble_eq_true rfl⟩ (Nat.le_of_ble_eq_true rfl) (Nat.zero_le _) (Nat.zero_le _) dX5_tellInSecond_46 (fun H locs hW => ?_)
          clear hC8
          refine lv_iload hx hb dX5_tellInSecond_49 (lv_at hl 2 rfl) ?_
          refine lv_iload hx hb dX5_tellInSecond_51 (lv_at hl 0 rfl) ?_
          refine lv_ior hx hb dX5_tellInSecond_53 ?_
          refine lv_istore (lv' := [(4, .int (x4 ||| (((t_audience x5.toNatClampNeg) &&& p3) &&& (x4 ^^^ (-1 : Int32))))), (6, .int (((t_audience x5.toNatClampNeg) &&& p3) &&& (x4 ^^^ (-1 : Int32)))), (5, .int x5), (0, .ref a_t), (1, .int p1), (2, .int p2), (3, .int p3)]) hx hb dX5_tellInSecond_54 hl (by decide) rfl (fun ls hl => ?_)
          refine lv_iinc (v := (x5 + (1 : Int32))) (lv' := [(5, .int (x5 + (1 : Int32))), (4, .int (x4 ||| (((t_audience x5.toNatClampNeg) &&& p3) &&& (x4 ^^^ (-1 : Int32))))), (6, .int (((t_audience x5.toNatClampNeg) &&& p3) &&& (x4 ^^^ (-1 : Int32)))), (0, .ref a_t), (1, .int p1), (2, .int p2), (3, .int p3)]) hx hb dX5_tellInSecond_56 hl (k := 2) rfl rfl (by decide) rfl (fun ls hl => ?_)
          refine lv_goto (tgt := 6) hx hb dX5_tellInSecond_59 (by decide) ?_
          exact ih4 (x4 ||| (((t_audience x5.toNatClampNeg) &&& p3) &&& (x4 ^^^ (-1 : Int32)))) (x5 + (1 : Int32)) t_since'_5 t_toldBy'_5 x4_2 t_since'_6 t_toldBy'_6 _ _ _ hF hW (lv_sub hl [0, 1, 3, 4, 5, 6] rfl) hk3
  refine L1 N (0 : Int32) (0 : Int32) t_since t_toldBy x4_2 t_since'_6 t_toldBy'_6 _ _ _ hX2 hW (lv_sub hl [0, 1, 2, 3, 4, 5] rfl) ?_
  intro H locs ls hW hl
  clear L1
  refine lv_iload hx hb dX5_tellInSecond_62 (lv_at hl 0 rfl) ?_
  have hq := Option.some.inj hF
  subst hq
  exact hret _ _ _ _ hW dX5_tellInSecond_64
abbrev wd_News_spread (E : m_E) (a_t : Nat) (a_t_since : Nat) (a_t_toldBy : Nat) (a_t_audience : Nat) (a_p1 : Nat) (a_p1_place : Nat) (a_p1_way : Nat) (a_p1_tell : Nat) (a_p1_look : Nat) (a_p1_farSquare : Nat) (t_since : Nat → Int32) (t_toldBy : Nat → Int32) (t_audience : Nat → Int32) (p1_pillars : Int64) (p1_weavers : Int32) (p1_place : Nat → Int32) (p1_way : Nat → Int32) (p1_tell : Nat → Int32) (p1_look : Nat → Int32) (p1_farSquare : Nat → Int32) : va_W := [(a_t, .inr (5, [.ref a_t_since, .ref a_t_toldBy, .ref a_t_audience])), (a_t_since, .inl (E.2.1 0, 8, .inl t_since)), (a_t_toldBy, .inl (E.2.1 0, 8, .inl t_toldBy)), (a_t_audience, .inl (E.2.1 0, 8, .inl t_audience)), (a_p1, .inr (1, [.long p1_pillars, .int p1_weavers, .ref a_p1_place, .ref a_p1_way, .ref a_p1_tell, .ref a_p1_look, .ref a_p1_farSquare])), (a_p1_place, .inl (E.2.1 0, 8, .inl p1_place)), (a_p1_way, .inl (E.2.1 0, 8, .inl p1_way)), (a_p1_tell, .inl (E.2.1 0, 8, .inl p1_tell)), (a_p1_look, .inl (E.2.1 0, 8, .inl p1_look)), (a_p1_farSquare, .inl (E.2.1 0, 2, .inl p1_farSquare))]
def rm_News_spread : Room := { frames := 5, cells := 0, slots := 0, locals := 121 }
set_option maxHeartbeats 4000000 in
set_option maxRecDepth 100000 in
theorem c_News_spread (l : Launch) (E : m_E) (sz N : Nat) (a_t : Nat) (a_t_since : Nat) (a_t_toldBy : Nat) (a_t_audience : Nat) (a_p1 : Nat) (a_p1_place : Nat) (a_p1_way : Nat) (a_p1_tell : Nat) (a_p1_look : Nat) (a_p1_farSquare : Nat) (t_since : Nat → Int32) (t_toldBy : Nat → Int32) (t_audience : Nat → Int32) (p1_pillars : Int64) (p1_weavers : Int32) (p1_place : Nat → Int32) (p1_way : Nat → Int32) (p1_tell : Nat → Int32) (p1_look : Nat → Int32) (p1_farSquare : Nat → Int32) (p2 : Int32) (p3 : Int32) (p4 : Int32) (p5 : Int32) (ures : (Nat → Int32) × (Nat → Int32) × (Nat → Int32)) (hF : F_News_spread N p2 p3 p4 p5 t_since t_toldBy t_audience p1_pillars p1_weavers p1_place p1_way p1_tell p1_look p1_farSquare = some ures) : m_Met l yX5_spread cX5_spread 13 none rm_News_spread E (wd_News_spread E a_t a_t_since a_t_toldBy a_t_audience a_p1 a_p1_place a_p1_way a_p1_tell a_p1_look a_p1_farSquare t_since t_toldBy t_audience p1_pillars p1_weavers p1_place p1_way p1_tell p1_look p1_farSquare) (wd_News_spread E a_t a_t_since a_t_toldBy a_t_audience a_p1 a_p1_place a_p1_way a_p1_tell a_p1_look a_p1_farSquare ures.1 ures.2.1 ures.2.2 p1_pillars p1_weavers p1_place p1_way p1_tell p1_look p1_farSquare) sz [.ref a_t, .ref a_p1, .int p2, .int p3, .int p4, .int p5] none := by
  refine m_ofV (by decide) (Nat.le_of_ble_eq_true rfl) ?_
  intro p e s m args below meth c A Q ls X hW hA hl hret
  obtain ⟨hx, hb, -, hown, hts, hK, -, hG⟩ := id X
  have hl : lv_has ls 13 [(0, .ref a_t), (1, .ref a_p1), (2, .int p2), (3, .int p3), (4, .int p4), (5, .int p5)] := hl
  unfold F_News_spread at hF
  refine lv_iconst (v := (0 : Int32)) hx hb dX5_spread_0 (by decide) ?_
  refine lv_istore (lv' := [(6, .int (0 : Int32)), (0, .ref a_t), (1, .ref a_p1), (2, .int p2), (3, .int p3), (4, .int p4), (5, .int p5)]) hx hb dX5_spread_1 hl (by decide) rfl (fun ls hl => ?_)
  obtain ⟨t_since'_7, t_toldBy'_7, t_audience'_4, hX2, hF⟩ := bO_s3 hF
  have L1 : ∀ (k0 : Nat) (x6 : Int32) (t_since'_6 : Nat → Int32) (t_toldBy'_6 : Nat → Int32) (t_audience'_3 : Nat → Int32) (t_since'_7 : Nat → Int32) (t_toldBy'_7 : Nat → Int32) (t_audience'_4 : Nat → Int32) (H : Heap) (locs : List Loc) (ls : Array Slot), News_spread_L3 N p4 p1_pillars p1_weavers p1_place p1_way p1_farSquare k0 x6 t_since'_6 t_toldBy'_6 t_audience'_3 = some (t_since'_7, t_toldBy'_7, t_audience'_4) → m_H E A (wd_News_spread E a_t a_t_since a_t_toldBy a_t_audience a_p1 a_p1_place a_p1_way a_p1_tell a_p1_look a_p1_farSquare t_since'_6 t_toldBy'_6 t_audience'_3 p1_pillars p1_weavers p1_place p1_way p1_tell p1_look p1_farSquare) s.heap H locs → lv_has ls 13 [(6, .int x6), (0, .ref a_t), (1, .ref a_p1), (2, .int p2), (3, .int p3), (4, .int p4), (5, .int p5)] → (∀ (H : Heap) (locs : List Loc) (ls : Array Slot), m_H E A (wd_News_spread E a_t a_t_since a_t_toldBy a_t_audience a_p1 a_p1_place a_p1_way a_p1_tell a_p1_look a_p1_farSquare t_since'_7 t_toldBy'_7 t_audience'_4 p1_pillars p1_weavers p1_place p1_way p1_tell p1_look p1_farSquare) s.heap H locs → lv_has ls 13 [(0, .ref a_t), (1, .ref a_p1), (2, .int p2), (3, .int p3), (5, .int p5)] → W p l e rm_News_spread s m args below meth c H locs 0 0 Q (F0 m 47 ls [])) → W p l e rm_News_spread s m args below meth c H locs 0 0 Q (F0 m 3 ls []) := by
    clear hF
    intro k0
    induction k0 with
    | zero =>
      intro x6 t_since'_6 t_toldBy'_6 t_audience'_3 t_since'_7 t_toldBy'_7 t_audience'_4 H locs ls hF
      cases hF
    | succ k0 ih4 =>
      intro x6 t_since'_6 t_toldBy'_6 t_audience'_3 t_since'_7 t_toldBy'_7 t_audience'_4 H locs ls hF hW hl hk3
      rw [News_spread_L3] at hF
      refine lv_iload hx hb dX5_spread_3 (lv_at hl 0 rfl) ?_
      refine lv_bipush (v := (8 : Int32)) hx hb dX5_spread_5 (by decide) ?_
      refine lv_icmp_ge (tgt := 47) hx hb dX5_spread_7 (by decide) (fun c5 => ?_) (fun c5 => ?_)
      · have hF := if_y c5 hF
        cases hF
        exact hk3 _ _ _ hW (lv_sub hl [1, 2, 3, 4, 6] rfl)
      · have hF := if_n c5 hF
        refine lv_aload_n hx hb dX5_spread_10 rfl (lv_at hl 1 rfl) ?_
        refine m_get X hW fdX5_20 0 rfl rfl dX5_spread_11 ?_
        refine lv_iload hx hb dX5_spread_14 (lv_at hl 0 rfl) ?_
        refine lv_aload_n hx hb dX5_spread_16 rfl (lv_at hl 2 rfl) ?_
        refine lv_iload hx hb dX5_spread_17 (lv_at hl 0 rfl) ?_
        refine lv_iload hx hb dX5_spread_19 (lv_at hl 5 rfl) ?_
        obtain ⟨r21, hC6, hF⟩ := bO_s1 hF
        refine m_callV X hW hA hl.1 lkX5_23 (c_Floor_perceiversOf l E _ N a_p1 a_p1_tell a_p1_look a_p1_place a_p1_way a_p1_farSquare p1_pillars p1_weavers p1_place p1_way p1_farSquare x6 p4 r21 hC6) ([4, 5, 6, 9]) (by decide) rfl rfl (ws' := (wd_News_spread E a_t a_t_since a_t_toldBy a_t_audience a_p1 a_p1_place a_p1_way a_p1_tell a_p1_look a_p1_farSquare t_since'_6 t_toldBy'_6 t_audience'_3 p1_pillars p1_weavers p1_place p1_way p1_tell p1_look p1_farSquare)) rfl 4 rfl rfl rfl (As := [.int x6, .int p4]) (rest := [.int x6, .ref a_t_audience]) rfl rfl ⟨rfl, rfl, Nat.le_of_ble_eq_true rfl, Nat.le_of_ble_eq_true rfl⟩ (Nat.le_of_ble_eq_true rfl) (Nat.zero_le _) (Nat.zero_le _) dX5_spread_21 (fun H locs hW => ?_)
        clear hC6
        obtain ⟨g7, hF⟩ := gd_some hF
        refine m_iast X hW 3 (k := x6.toNatClampNeg) rfl g7 rfl dX5_spread_24 (ws' := (wd_News_spread E a_t a_t_since a_t_toldBy a_t_audience a_p1 a_p1_place a_p1_way a_p1_tell a_p1_look a_p1_farSquare t_since'_6 t_toldBy'_6 (upd t_audience'_3 x6.toNatClampNeg r21) p1_pillars p1_weavers p1_place p1_way p1_tell p1_look p1_farSquare)) rfl (fun H locs hW => ?_)
        refine lv_aload_n hx hb dX5_spread_25 rfl (lv_at hl 1 rfl) ?_
        refine m_get X hW fdX5_11 0 rfl rfl dX5_spread_26 ?_
        refine lv_iload hx hb dX5_spread_29 (lv_at hl 0 rfl) ?_
        refine lv_iconst (v := (-1 : Int32)) hx hb dX5_spread_31 (by decide) ?_
        refine m_iast X hW 1 (k := x6.toNatClampNeg) rfl g7 rfl dX5_spread_32 (ws' := (wd_News_spread E a_t a_t_since a_t_toldBy a_t_audience a_p1 a_p1_place a_p1_way a_p1_tell a_p1_look a_p1_farSquare (upd t_since'_6 x6.toNatClampNeg (-1 : Int32)) t_toldBy'_6 (upd t_audience'_3 x6.toNatClampNeg r21) p1_pillars p1_weavers p1_place p1_way p1_tell p1_look p1_farSquare)) rfl (fun H locs hW => ?_)
        refine lv_aload_n hx hb dX5_spread_33 rfl (lv_at hl 1 rfl) ?_
        refine m_get X hW fdX5_17 0 rfl rfl dX5_spread_34 ?_
        refine lv_iload hx hb dX5_spread_37 (lv_at hl 0 rfl) ?_
        refine lv_iconst (v := (-1 : Int32)) hx hb dX5_spread_39 (by decide) ?_
        refine m_iast X hW 2 (k := x6.toNatClampNeg) rfl g7 rfl dX5_spread_40 (ws' := (wd_News_spread E a_t a_t_since a_t_toldBy a_t_audience a_p1 a_p1_place a_p1_way a_p1_tell a_p1_look a_p1_farSquare (upd t_since'_6 x6.toNatClampNeg (-1 : Int32)) (upd t_toldBy'_6 x6.toNatClampNeg (-1 : Int32)) (upd t_audience'_3 x6.toNatClampNeg r21) p1_pillars p1_weavers p1_place p1_way p1_tell p1_look p1_farSquare)) rfl (fun H locs hW => ?_)
        refine lv_iinc (v := (x6 + (1 : Int32))) (lv' := [(6, .int (x6 + (1 : Int32))), (0, .ref a_t), (1, .ref a_p1), (2, .int p2), (3, .int p3), (4, .int p4), (5, .int p5)]) hx hb dX5_spread_41 hl (k := 0) rfl rfl (by decide) rfl (fun ls hl => ?_)
        refine lv_goto (tgt := 3) hx hb dX5_spread_44 (by decide) ?_
        exact ih4 (x6 + (1 : Int32)) (upd t_since'_6 x6.toNatClampNeg (-1 : Int32)) (upd t_toldBy'_6 x6.toNatClampNeg (-1 : Int32)) (upd t_audience'_3 x6.toNatClampNeg r21) t_since'_7 t_toldBy'_7 t_audience'_4 _ _ _ hF hW (lv_sub hl [0, 1, 2, 3, 4, 5, 6] rfl) hk3
  refine L1 N (0 : Int32) t_since t_toldBy t_audience t_since'_7 t_toldBy'_7 t_audience'_4 _ _ _ hX2 hW (lv_sub hl [0, 1, 2, 3, 4, 5, 6] rfl) ?_
  intro H locs ls hW hl
  clear L1
  refine lv_aload_n hx hb dX5_spread_47 rfl (lv_at hl 0 rfl) ?_
  refine m_get X hW fdX5_11 0 rfl rfl dX5_spread_48 ?_
  refine lv_iload_n hx hb dX5_spread_51 rfl (lv_at hl 2 rfl) ?_
  refine lv_iload_n hx hb dX5_spread_52 rfl (lv_at hl 3 rfl) ?_
  obtain ⟨g8, hF⟩ := gd_some hF
  refine m_iast X hW 1 (k := p2.toNatClampNeg) rfl g8 rfl dX5_spread_53 (ws' := (wd_News_spread E a_t a_t_since a_t_toldBy a_t_audience a_p1 a_p1_place a_p1_way a_p1_tell a_p1_look a_p1_farSquare (upd t_since'_7 p2.toNatClampNeg p3) t_toldBy'_7 t_audience'_4 p1_pillars p1_weavers p1_place p1_way p1_tell p1_look p1_farSquare)) rfl (fun H locs hW => ?_)
  refine lv_aload_n hx hb dX5_spread_54 rfl (lv_at hl 1 rfl) ?_
  refine lv_iload hx hb dX5_spread_55 (lv_at hl 4 rfl) ?_
  obtain ⟨r57, hC9, hF⟩ := bO_s1 hF
  refine m_callV X hW hA hl.1 lkX5_27 (c_Floor_seenBy l E _ N a_p1 a_p1_tell a_p1_look a_p1_place a_p1_way a_p1_farSquare p1_pillars p1_weavers p1_place p1_way p1_farSquare p5 r57 hC9) ([4, 5, 6, 9]) (by decide) rfl rfl (ws' := (wd_News_spread E a_t a_t_since a_t_toldBy a_t_audience a_p1 a_p1_place a_p1_way a_p1_tell a_p1_look a_p1_farSquare (upd t_since'_7 p2.toNatClampNeg p3) t_toldBy'_7 t_audience'_4 p1_pillars p1_weavers p1_place p1_way p1_tell p1_look p1_farSquare)) rfl 4 rfl rfl rfl (As := [.int p5]) (rest := []) rfl rfl ⟨rfl, rfl, Nat.le_of_ble_eq_true rfl, Nat.le_of_ble_eq_true rfl⟩ (Nat.le_of_ble_eq_true rfl) (Nat.zero_le _) (Nat.zero_le _) dX5_spread_57 (fun H locs hW => ?_)
  clear hC9
  refine lv_istore (lv' := [(6, .int r57), (0, .ref a_t), (1, .ref a_p1), (2, .int p2), (3, .int p3), (5, .int p5)]) hx hb dX5_spread_60 hl (by decide) rfl (fun ls hl => ?_)
  refine lv_iconst (v := (1 : Int32)) hx hb dX5_spread_62 (by decide) ?_
  refine lv_iload_n hx hb dX5_spread_63 rfl (lv_at hl 3 rfl) ?_
  refine m_ishl hx hb dX5_spread_64 ?_
  refine lv_istore (lv' := [(7, .int (jshl (1 : Int32) p2)), (6, .int r57), (0, .ref a_t), (1, .ref a_p1), (2, .int p2), (3, .int p3), (5, .int p5)]) hx hb dX5_spread_65 hl (by decide) rfl (fun ls hl => ?_)
  refine lv_iconst (v := (1 : Int32)) hx hb dX5_spread_67 (by decide) ?_
  refine lv_aload_n hx hb dX5_spread_68 rfl (lv_at hl 3 rfl) ?_
  refine m_get X hW fdX5_31 4 rfl rfl dX5_spread_69 ?_
  refine m_ishl hx hb dX5_spread_72 ?_
  refine lv_iconst (v := (1 : Int32)) hx hb dX5_spread_73 (by decide) ?_
  refine lv_isub hx hb dX5_spread_74 ?_
  refine lv_istore (lv' := [(8, .int ((jshl (1 : Int32) p1_weavers) - (1 : Int32))), (7, .int (jshl (1 : Int32) p2)), (6, .int r57), (0, .ref a_t), (1, .ref a_p1), (2, .int p2), (3, .int p3), (5, .int p5)]) hx hb dX5_spread_75 hl (by decide) rfl (fun ls hl => ?_)
  refine lv_iload_n hx hb dX5_spread_77 rfl (lv_at hl 6 rfl) ?_
  refine lv_istore (lv' := [(9, .int p3), (8, .int ((jshl (1 : Int32) p1_weavers) - (1 : Int32))), (7, .int (jshl (1 : Int32) p2)), (6, .int r57), (0, .ref a_t), (1, .ref a_p1), (2, .int p2), (3, .int p3), (5, .int p5)]) hx hb dX5_spread_78 hl (by decide) rfl (fun ls hl => ?_)
  obtain ⟨t_since'_10, t_toldBy'_10, hX11, hF⟩ := bO_s2 hF
  obtain ⟨c8, ec8⟩ : ∃ z : Int32, z = ((jshl (1 : Int32) p1_weavers) - (1 : Int32)) := ⟨_, rfl⟩
  have L10 : ∀ (k0 : Nat) (x7 : Int32) (x9 : Int32) (t_since'_8 : Nat → Int32) (t_toldBy'_8 : Nat → Int32) (t_since'_10 : Nat → Int32) (t_toldBy'_10 : Nat → Int32) (H : Heap) (locs : List Loc) (ls : Array Slot), News_spread_L80 N c8 p1_weavers p1_look p5 r57 p1_tell t_audience'_4 k0 x7 x9 t_since'_8 t_toldBy'_8 = some (t_since'_10, t_toldBy'_10) → m_H E A (wd_News_spread E a_t a_t_since a_t_toldBy a_t_audience a_p1 a_p1_place a_p1_way a_p1_tell a_p1_look a_p1_farSquare t_since'_8 t_toldBy'_8 t_audience'_4 p1_pillars p1_weavers p1_place p1_way p1_tell p1_look p1_farSquare) s.heap H locs → lv_has ls 13 [(9, .int x9), (8, .int c8), (7, .int x7), (6, .int r57), (0, .ref a_t), (1, .ref a_p1), (5, .int p5)] → (∀ (H : Heap) (locs : List Loc) (ls : Array Slot), m_H E A (wd_News_spread E a_t a_t_since a_t_toldBy a_t_audience a_p1 a_p1_place a_p1_way a_p1_tell a_p1_look a_p1_farSquare t_since'_10 t_toldBy'_10 t_audience'_4 p1_pillars p1_weavers p1_place p1_way p1_tell p1_look p1_farSquare) s.heap H locs → lv_has ls 13 [] → W p l e rm_News_spread s m args below meth c H locs 0 0 Q (F0 m 169 ls [])) → W p l e rm_News_spread s m args below meth c H locs 0 0 Q (F0 m 80 ls []) := by
    clear hF
    intro k0
    induction k0 with
    | zero =>
      intro x7 x9 t_since'_8 t_toldBy'_8 t_since'_10 t_toldBy'_10 H locs ls hF
      cases hF
    | succ k0 ih13 =>
      intro x7 x9 t_since'_8 t_toldBy'_8 t_since'_10 t_toldBy'_10 H locs ls hF hW hl hk12
      rw [News_spread_L80] at hF
      refine lv_iload hx hb dX5_spread_80 (lv_at hl 0 rfl) ?_
      refine lv_sipush (v := (240 : Int32)) hx hb dX5_spread_82 (by decide) ?_
      refine lv_icmp_ge (tgt := 169) hx hb dX5_spread_85 (by decide) (fun c14 => ?_) (fun c14 => ?_)
      · have hF := if_y c14 hF
        cases hF
        exact hk12 _ _ _ hW (lv_sub hl [] rfl)
      · have hF := if_n c14 hF
        refine lv_iload hx hb dX5_spread_88 (lv_at hl 2 rfl) ?_
        refine lv_iload hx hb dX5_spread_90 (lv_at hl 1 rfl) ?_
        refine lv_icmp_eq (tgt := 169) hx hb dX5_spread_92 (by decide) (fun c15 => ?_) (fun c15 => ?_)
        · have hF := if_y c15 hF
          cases hF
          exact hk12 _ _ _ hW (lv_sub hl [] rfl)
        · have hF := if_n c15 hF
          refine lv_aload_n hx hb dX5_spread_95 rfl (lv_at hl 5 rfl) ?_
          refine lv_iload hx hb dX5_spread_96 (lv_at hl 0 rfl) ?_
          obtain ⟨r98, hC16, hF⟩ := bO_s1 hF
          refine m_callV X hW hA hl.1 lkX5_35 (c_Floor_lookersIn l E _ N a_p1 a_p1_place a_p1_way a_p1_tell a_p1_farSquare a_p1_look p1_pillars p1_weavers p1_look x9 r98 hC16) ([4, 8]) (by decide) rfl rfl (ws' := (wd_News_spread E a_t a_t_since a_t_toldBy a_t_audience a_p1 a_p1_place a_p1_way a_p1_tell a_p1_look a_p1_farSquare t_since'_8 t_toldBy'_8 t_audience'_4 p1_pillars p1_weavers p1_place p1_way p1_tell p1_look p1_farSquare)) rfl 4 rfl rfl rfl (As := [.int x9]) (rest := []) rfl rfl ⟨rfl, rfl, Nat.le_of_ble_eq_true rfl, Nat.le_of_ble_eq_true rfl⟩ (Nat.le_of_ble_eq_true rfl) (Nat.zero_le _) (Nat.zero_le _) dX5_spread_98 (fun H locs hW => ?_)
          clear hC16
          refine lv_istore (lv' := [(10, .int r98), (9, .int x9), (8, .int c8), (7, .int x7), (6, .int r57), (0, .ref a_t), (1, .ref a_p1), (5, .int p5)]) hx hb dX5_spread_101 hl (by decide) rfl (fun ls hl => ?_)
          refine lv_iload hx hb dX5_spread_103 (lv_at hl 7 rfl) ?_
          refine lv_iconst (v := (-1 : Int32)) hx hb dX5_spread_105 (by decide) ?_
          obtain ⟨y0, hX18, hF⟩ := bO_s1 hF
          have J17 : ∀ (H : Heap) (locs : List Loc) (ls : Array Slot), m_H E A (wd_News_spread E a_t a_t_since a_t_toldBy a_t_audience a_p1 a_p1_place a_p1_way a_p1_tell a_p1_look a_p1_farSquare t_since'_8 t_toldBy'_8 t_audience'_4 p1_pillars p1_weavers p1_place p1_way p1_tell p1_look p1_farSquare) s.heap H locs → lv_has ls 13 [(10, .int r98), (9, .int x9), (8, .int c8), (7, .int x7), (6, .int r57), (0, .ref a_t), (1, .ref a_p1), (5, .int p5)] → W p l e rm_News_spread s m args below meth c H locs 0 0 Q (F0 m 125 ls [.int y0]) := by
            intro H locs ls hW hl
            refine lv_istore (lv' := [(11, .int y0), (10, .int r98), (9, .int x9), (8, .int c8), (7, .int x7), (6, .int r57), (0, .ref a_t), (1, .ref a_p1), (5, .int p5)]) hx hb dX5_spread_125 hl (by decide) rfl (fun ls hl => ?_)
            refine lv_iload hx hb dX5_spread_127 (lv_at hl 4 rfl) ?_
            refine lv_aload_n hx hb dX5_spread_129 rfl (lv_at hl 7 rfl) ?_
            refine lv_iload hx hb dX5_spread_130 (lv_at hl 2 rfl) ?_
            obtain ⟨r132, hC19, hF⟩ := bO_s1 hF
            refine m_callV X hW hA hl.1 lkX5_42 (c_Floor_tellersIn l E _ N a_p1 a_p1_place a_p1_way a_p1_look a_p1_farSquare a_p1_tell p1_pillars p1_weavers p1_tell x9 r132 hC19) ([4, 7]) (by decide) rfl rfl (ws' := (wd_News_spread E a_t a_t_since a_t_toldBy a_t_audience a_p1 a_p1_place a_p1_way a_p1_tell a_p1_look a_p1_farSquare t_since'_8 t_toldBy'_8 t_audience'_4 p1_pillars p1_weavers p1_place p1_way p1_tell p1_look p1_farSquare)) rfl 4 rfl rfl rfl (As := [.int x9]) (rest := [.int x7]) rfl rfl ⟨rfl, rfl, Nat.le_of_ble_eq_true rfl, Nat.le_of_ble_eq_true rfl⟩ (Nat.le_of_ble_eq_true rfl) (Nat.zero_le _) (Nat.zero_le _) dX5_spread_132 (fun H locs hW => ?_)
            clear hC19
            refine lv_iand hx hb dX5_spread_135 ?_
            refine lv_iload hx hb dX5_spread_136 (lv_at hl 0 rfl) ?_
            refine lv_iconst (v := (-1 : Int32)) hx hb dX5_spread_138 (by decide) ?_
            refine lv_ixor hx hb dX5_spread_139 ?_
            refine lv_iand hx hb dX5_spread_140 ?_
            refine lv_istore (lv' := [(12, .int ((x7 &&& r132) &&& (y0 ^^^ (-1 : Int32)))), (11, .int y0), (10, .int r98), (9, .int x9), (8, .int c8), (7, .int x7), (6, .int r57), (0, .ref a_t), (1, .ref a_p1), (5, .int p5)]) hx hb dX5_spread_141 hl (by decide) rfl (fun ls hl => ?_)
            refine lv_iload hx hb dX5_spread_143 (lv_at hl 5 rfl) ?_
            refine lv_aload_n hx hb dX5_spread_145 rfl (lv_at hl 7 rfl) ?_
            refine lv_iload hx hb dX5_spread_146 (lv_at hl 3 rfl) ?_
            refine lv_iload hx hb dX5_spread_148 (lv_at hl 0 rfl) ?_
            refine lv_iload hx hb dX5_spread_150 (lv_at hl 2 rfl) ?_
            refine lv_iload hx hb dX5_spread_152 (lv_at hl 5 rfl) ?_
            refine lv_iconst (v := (-1 : Int32)) hx hb dX5_spread_154 (by decide) ?_
            refine lv_ixor hx hb dX5_spread_155 ?_
            refine lv_iand hx hb dX5_spread_156 ?_
            obtain ⟨r157, t_since'_9, t_toldBy'_9, hC20, hF⟩ := bO_s3 hF
            refine m_callV X hW hA hl.1 lkX5_45 (c_News_tellInSecond l E _ N a_t a_t_since a_t_toldBy a_t_audience t_since'_8 t_toldBy'_8 t_audience'_4 x9 ((x7 &&& r132) &&& (y0 ^^^ (-1 : Int32))) (r98 &&& (x7 ^^^ (-1 : Int32))) (r157, t_since'_9, t_toldBy'_9) hC20) ([0, 1, 2, 3]) (by decide) rfl rfl (ws' := (wd_News_spread E a_t a_t_since a_t_toldBy a_t_audience a_p1 a_p1_place a_p1_way a_p1_tell a_p1_look a_p1_farSquare t_since'_9 t_toldBy'_9 t_audience'_4 p1_pillars p1_weavers p1_place p1_way p1_tell p1_look p1_farSquare)) rfl 0 rfl rfl rfl (As := [.int x9, .int ((x7 &&& r132) &&& (y0 ^^^ (-1 : Int32))), .int (r98 &&& (x7 ^^^ (-1 : Int32)))]) (rest := [.int x7]) rfl rfl ⟨rfl, rfl, Nat.le_of_ble_eq_true rfl, Nat.le_of_ble_eq_true rfl⟩ (Nat.le_of_ble_eq_true rfl) (Nat.zero_le _) (Nat.zero_le _) dX5_spread_157 (fun H locs hW => ?_)
            clear hC20
            refine lv_ior hx hb dX5_spread_160 ?_
            refine lv_istore (lv' := [(7, .int (x7 ||| r157)), (12, .int ((x7 &&& r132) &&& (y0 ^^^ (-1 : Int32)))), (11, .int y0), (10, .int r98), (9, .int x9), (8, .int c8), (6, .int r57), (0, .ref a_t), (1, .ref a_p1), (5, .int p5)]) hx hb dX5_spread_161 hl (by decide) rfl (fun ls hl => ?_)
            refine lv_iinc (v := (x9 + (1 : Int32))) (lv' := [(9, .int (x9 + (1 : Int32))), (7, .int (x7 ||| r157)), (12, .int ((x7 &&& r132) &&& (y0 ^^^ (-1 : Int32)))), (11, .int y0), (10, .int r98), (8, .int c8), (6, .int r57), (0, .ref a_t), (1, .ref a_p1), (5, .int p5)]) hx hb dX5_spread_163 hl (k := 4) rfl rfl (by decide) rfl (fun ls hl => ?_)
            refine lv_goto (tgt := 80) hx hb dX5_spread_166 (by decide) ?_
            exact ih13 (x7 ||| r157) (x9 + (1 : Int32)) t_since'_9 t_toldBy'_9 t_since'_10 t_toldBy'_10 _ _ _ hF hW (lv_sub hl [0, 5, 1, 6, 7, 8, 9] rfl) hk12
          clear hF
          have hF := hX18
          clear hX18
          refine lv_icmp_eq (tgt := 124) hx hb dX5_spread_106 (by decide) (fun c21 => ?_) (fun c21 => ?_)
          · have hF := if_y c21 hF
            refine lv_iconst (v := (0 : Int32)) hx hb dX5_spread_124 (by decide) ?_
            cases hF
            exact J17 _ _ _ hW (lv_sub hl [0, 1, 2, 3, 4, 5, 6, 7] rfl)
          · have hF := if_n c21 hF
            refine lv_iload hx hb dX5_spread_109 (lv_at hl 0 rfl) ?_
            refine lv_iload hx hb dX5_spread_111 (lv_at hl 7 rfl) ?_
            refine m_callN X hW hA hl.1 lkX5_38 (c_S_hasBit l E _ N   r98 p5 (F_S_hasBit r98 p5) rfl) ([]) (by decide) rfl rfl (ws' := (wd_News_spread E a_t a_t_since a_t_toldBy a_t_audience a_p1 a_p1_place a_p1_way a_p1_tell a_p1_look a_p1_farSquare t_since'_8 t_toldBy'_8 t_audience'_4 p1_pillars p1_weavers p1_place p1_way p1_tell p1_look p1_farSquare)) rfl (As := [.int r98, .int p5]) (rest := []) rfl rfl ⟨rfl, rfl, Nat.le_of_ble_eq_true rfl, Nat.le_of_ble_eq_true rfl⟩ (Nat.le_of_ble_eq_true rfl) (Nat.zero_le _) (Nat.zero_le _) dX5_spread_113 (fun H locs hW => ?_)
            refine lv_if_eq (tgt := 124) hx hb dX5_spread_116 (by decide) (fun c22 => ?_) (fun c22 => ?_)
            · have hF := if_y c22 hF
              refine lv_iconst (v := (0 : Int32)) hx hb dX5_spread_124 (by decide) ?_
              cases hF
              exact J17 _ _ _ hW (lv_sub hl [0, 1, 2, 3, 4, 5, 6, 7] rfl)
            · have hF := if_n c22 hF
              refine lv_iload hx hb dX5_spread_119 (lv_at hl 4 rfl) ?_
              refine lv_goto (tgt := 125) hx hb dX5_spread_121 (by decide) ?_
              cases hF
              exact J17 _ _ _ hW (lv_sub hl [0, 1, 2, 3, 4, 5, 6, 7] rfl)
  subst ec8
  refine L10 N (jshl (1 : Int32) p2) p3 (upd t_since'_7 p2.toNatClampNeg p3) t_toldBy'_7 t_since'_10 t_toldBy'_10 _ _ _ hX11 hW (lv_sub hl [0, 1, 2, 3, 4, 5, 8] rfl) ?_
  intro H locs ls hW hl
  clear L10
  have hq := Option.some.inj hF
  subst hq
  exact hret _ _ _ _ hW dX5_spread_169
abbrev wd_S_knows (E : m_E) (a_t : Nat) (a_t_draft : Nat) (a_t_firstImage : Nat) (a_t_secondImage : Nat) (a_t_otherNews : Nat) (a_t_readings : Nat) (a_t_chances : Nat) (a_t_turning : Nat) (a_t_text : Nat) (a_t_fraction : Nat) (a_t_now : Nat) (a_t_now_sightings : Nat) (a_t_now_lexicon : Nat) (a_t_now_level : Nat) (a_t_now_loss : Nat) (a_t_now_floor : Nat) (a_t_now_floor_place : Nat) (a_t_now_floor_way : Nat) (a_t_now_floor_tell : Nat) (a_t_now_floor_look : Nat) (a_t_now_floor_farSquare : Nat) (a_t_news : Nat) (a_t_news_since : Nat) (a_t_news_toldBy : Nat) (a_t_news_audience : Nat) (t_now_clearness : Int32) (t_now_isKept : Int32) (t_now_floor_pillars : Int64) (t_now_floor_weavers : Int32) (t_now_floor_place : Nat → Int32) (t_now_floor_way : Nat → Int32) (t_now_floor_tell : Nat → Int32) (t_now_floor_look : Nat → Int32) (t_now_floor_farSquare : Nat → Int32) (t_news_since : Nat → Int32) (t_news_toldBy : Nat → Int32) (t_news_audience : Nat → Int32) : va_W := [(a_t, .inr (11, [.ref a_t_now, .ref a_t_draft, .ref a_t_firstImage, .ref a_t_secondImage, .ref a_t_news, .ref a_t_otherNews, .ref a_t_readings, .ref a_t_chances, .ref a_t_turning, .ref a_t_text, .ref a_t_fraction])), (a_t_now, .inr (7, [.ref a_t_now_floor, .ref a_t_now_sightings, .ref a_t_now_lexicon, .ref a_t_now_level, .ref a_t_now_loss, .int t_now_clearness, .int t_now_isKept])), (a_t_now_floor, .inr (1, [.long t_now_floor_pillars, .int t_now_floor_weavers, .ref a_t_now_floor_place, .ref a_t_now_floor_way, .ref a_t_now_floor_tell, .ref a_t_now_floor_look, .ref a_t_now_floor_farSquare])), (a_t_now_floor_place, .inl (E.2.1 0, 8, .inl t_now_floor_place)), (a_t_now_floor_way, .inl (E.2.1 0, 8, .inl t_now_floor_way)), (a_t_now_floor_tell, .inl (E.2.1 0, 8, .inl t_now_floor_tell)), (a_t_now_floor_look, .inl (E.2.1 0, 8, .inl t_now_floor_look)), (a_t_now_floor_farSquare, .inl (E.2.1 0, 2, .inl t_now_floor_farSquare)), (a_t_news, .inr (5, [.ref a_t_news_since, .ref a_t_news_toldBy, .ref a_t_news_audience])), (a_t_news_since, .inl (E.2.1 0, 8, .inl t_news_since)), (a_t_news_toldBy, .inl (E.2.1 0, 8, .inl t_news_toldBy)), (a_t_news_audience, .inl (E.2.1 0, 8, .inl t_news_audience))]
def rm_S_knows : Room := { frames := 6, cells := 0, slots := 0, locals := 153 }
set_option maxHeartbeats 4000000 in
set_option maxRecDepth 100000 in
theorem c_S_knows (l : Launch) (E : m_E) (sz N : Nat) (a_t : Nat) (a_t_draft : Nat) (a_t_firstImage : Nat) (a_t_secondImage : Nat) (a_t_otherNews : Nat) (a_t_readings : Nat) (a_t_chances : Nat) (a_t_turning : Nat) (a_t_text : Nat) (a_t_fraction : Nat) (a_t_now : Nat) (a_t_now_sightings : Nat) (a_t_now_lexicon : Nat) (a_t_now_level : Nat) (a_t_now_loss : Nat) (a_t_now_floor : Nat) (a_t_now_floor_place : Nat) (a_t_now_floor_way : Nat) (a_t_now_floor_tell : Nat) (a_t_now_floor_look : Nat) (a_t_now_floor_farSquare : Nat) (a_t_news : Nat) (a_t_news_since : Nat) (a_t_news_toldBy : Nat) (a_t_news_audience : Nat) (t_now_clearness : Int32) (t_now_isKept : Int32) (t_now_floor_pillars : Int64) (t_now_floor_weavers : Int32) (t_now_floor_place : Nat → Int32) (t_now_floor_way : Nat → Int32) (t_now_floor_tell : Nat → Int32) (t_now_floor_look : Nat → Int32) (t_now_floor_farSquare : Nat → Int32) (t_news_since : Nat → Int32) (t_news_toldBy : Nat → Int32) (t_news_audience : Nat → Int32) (p1 : Int32) (p2 : Int32) (p3 : Int32) (p4 : Int32) (ures : Int32 × (Nat → Int32) × (Nat → Int32) × (Nat → Int32)) (hF : F_S_knows N p1 p2 p3 p4 t_now_floor_pillars t_now_floor_weavers t_now_floor_place t_now_floor_way t_now_floor_tell t_now_floor_look t_now_floor_farSquare t_news_since t_news_toldBy t_news_audience = some ures) : m_Met l yX11_knows cX11_knows 5 (some .int) rm_S_knows E (wd_S_knows E a_t a_t_draft a_t_firstImage a_t_secondImage a_t_otherNews a_t_readings a_t_chances a_t_turning a_t_text a_t_fraction a_t_now a_t_now_sightings a_t_now_lexicon a_t_now_level a_t_now_loss a_t_now_floor a_t_now_floor_place a_t_now_floor_way a_t_now_floor_tell a_t_now_floor_look a_t_now_floor_farSquare a_t_news a_t_news_since a_t_news_toldBy a_t_news_audience t_now_clearness t_now_isKept t_now_floor_pillars t_now_floor_weavers t_now_floor_place t_now_floor_way t_now_floor_tell t_now_floor_look t_now_floor_farSquare t_news_since t_news_toldBy t_news_audience) (wd_S_knows E a_t a_t_draft a_t_firstImage a_t_secondImage a_t_otherNews a_t_readings a_t_chances a_t_turning a_t_text a_t_fraction a_t_now a_t_now_sightings a_t_now_lexicon a_t_now_level a_t_now_loss a_t_now_floor a_t_now_floor_place a_t_now_floor_way a_t_now_floor_tell a_t_now_floor_look a_t_now_floor_farSquare a_t_news a_t_news_since a_t_news_toldBy a_t_news_audience t_now_clearness t_now_isKept t_now_floor_pillars t_now_floor_weavers t_now_floor_place t_now_floor_way t_now_floor_tell t_now_floor_look t_now_floor_farSquare ures.2.1 ures.2.2.1 ures.2.2.2) sz [.ref a_t, .int p1, .int p2, .int p3, .int p4] (some (.int ures.1)) := by
  refine m_ofI (by decide) (Nat.le_of_ble_eq_true rfl) ?_
  intro p e s m args below meth c A Q ls X hW hA hl hret
  obtain ⟨hx, hb, -, hown, hts, hK, -, hG⟩ := id X
  have hl : lv_has ls 5 [(0, .ref a_t), (1, .int p1), (2, .int p2), (3, .int p3), (4, .int p4)] := hl
  unfold F_S_knows at hF
  refine lv_aload_n hx hb dX11_knows_0 rfl (lv_at hl 0 rfl) ?_
  refine lv_iload_n hx hb dX11_knows_1 rfl (lv_at hl 1 rfl) ?_
  refine lv_iload_n hx hb dX11_knows_2 rfl (lv_at hl 2 rfl) ?_
  refine lv_iload_n hx hb dX11_knows_3 rfl (lv_at hl 3 rfl) ?_
  refine lv_iload hx hb dX11_knows_4 (lv_at hl 4 rfl) ?_
  refine m_callV X hW hA hl.1 lkX11_112 (c_S_canAskNews l E _ N a_t a_t_draft a_t_firstImage a_t_secondImage a_t_news a_t_otherNews a_t_readings a_t_chances a_t_turning a_t_text a_t_fraction a_t_now a_t_now_sightings a_t_now_lexicon a_t_now_level a_t_now_loss a_t_now_floor a_t_now_floor_place a_t_now_floor_way a_t_now_floor_tell a_t_now_floor_look a_t_now_floor_farSquare t_now_clearness t_now_isKept t_now_floor_pillars t_now_floor_weavers p1 p2 p3 p4 (F_S_canAskNews p1 p2 p3 p4 t_now_floor_weavers) rfl) ([0, 1, 2]) (by decide) rfl rfl (ws' := (wd_S_knows E a_t a_t_draft a_t_firstImage a_t_secondImage a_t_otherNews a_t_readings a_t_chances a_t_turning a_t_text a_t_fraction a_t_now a_t_now_sightings a_t_now_lexicon a_t_now_level a_t_now_loss a_t_now_floor a_t_now_floor_place a_t_now_floor_way a_t_now_floor_tell a_t_now_floor_look a_t_now_floor_farSquare a_t_news a_t_news_since a_t_news_toldBy a_t_news_audience t_now_clearness t_now_isKept t_now_floor_pillars t_now_floor_weavers t_now_floor_place t_now_floor_way t_now_floor_tell t_now_floor_look t_now_floor_farSquare t_news_since t_news_toldBy t_news_audience)) rfl 0 rfl rfl rfl (As := [.int p1, .int p2, .int p3, .int p4]) (rest := []) rfl rfl ⟨rfl, rfl, Nat.le_of_ble_eq_true rfl, Nat.le_of_ble_eq_true rfl⟩ (Nat.le_of_ble_eq_true rfl) (Nat.zero_le _) (Nat.zero_le _) dX11_knows_6 (fun H locs hW => ?_)
  refine lv_if_ne (tgt := 15) hx hb dX11_knows_9 (by decide) (fun c1 => ?_) (fun c1 => ?_)
  · have hF := if_n c1 hF
    refine lv_aload_n hx hb dX11_knows_15 rfl (lv_at hl 0 rfl) ?_
    refine m_get X hW fdX11_28 0 rfl rfl dX11_knows_16 ?_
    refine lv_aload_n hx hb dX11_knows_19 rfl (lv_at hl 0 rfl) ?_
    refine m_get X hW fdX11_10 0 rfl rfl dX11_knows_20 ?_
    refine m_get X hW fdX11_70 1 rfl rfl dX11_knows_23 ?_
    refine lv_iload_n hx hb dX11_knows_26 rfl (lv_at hl 1 rfl) ?_
    refine lv_iconst (v := (0 : Int32)) hx hb dX11_knows_27 (by decide) ?_
    refine lv_iload_n hx hb dX11_knows_28 rfl (lv_at hl 3 rfl) ?_
    refine lv_iload hx hb dX11_knows_29 (lv_at hl 4 rfl) ?_
    obtain ⟨t_news_since'_2, t_news_toldBy'_2, t_news_audience'_2, hC2, hF⟩ := bO_s3 hF
    refine m_callV X hW hA hl.1 lkX11_116 (c_News_spread l E _ N a_t_news a_t_news_since a_t_news_toldBy a_t_news_audience a_t_now_floor a_t_now_floor_place a_t_now_floor_way a_t_now_floor_tell a_t_now_floor_look a_t_now_floor_farSquare t_news_since t_news_toldBy t_news_audience t_now_floor_pillars t_now_floor_weavers t_now_floor_place t_now_floor_way t_now_floor_tell t_now_floor_look t_now_floor_farSquare p1 (0 : Int32) p3 p4 (t_news_since'_2, t_news_toldBy'_2, t_news_audience'_2) hC2) ([8, 9, 10, 11, 2, 3, 4, 5, 6, 7]) (by decide) rfl rfl (ws' := (wd_S_knows E a_t a_t_draft a_t_firstImage a_t_secondImage a_t_otherNews a_t_readings a_t_chances a_t_turning a_t_text a_t_fraction a_t_now a_t_now_sightings a_t_now_lexicon a_t_now_level a_t_now_loss a_t_now_floor a_t_now_floor_place a_t_now_floor_way a_t_now_floor_tell a_t_now_floor_look a_t_now_floor_farSquare a_t_news a_t_news_since a_t_news_toldBy a_t_news_audience t_now_clearness t_now_isKept t_now_floor_pillars t_now_floor_weavers t_now_floor_place t_now_floor_way t_now_floor_tell t_now_floor_look t_now_floor_farSquare t_news_since'_2 t_news_toldBy'_2 t_news_audience'_2)) (m_putS [none, none, some 4, some 5, some 6, some 7, some 8, some 9, some 0, some 1, some 2, some 3] (by decide +kernel) (by rfl) (by decide +kernel) (by rfl) (by rfl)) 8 rfl rfl rfl (As := [.ref a_t_now_floor, .int p1, .int (0 : Int32), .int p3, .int p4]) (rest := []) rfl rfl ⟨rfl, rfl, Nat.le_of_ble_eq_true rfl, Nat.le_of_ble_eq_true rfl⟩ (Nat.le_of_ble_eq_true rfl) (Nat.zero_le _) (Nat.zero_le _) dX11_knows_31 (fun H locs hW => ?_)
    clear hC2
    refine lv_aload_n hx hb dX11_knows_34 rfl (lv_at hl 0 rfl) ?_
    refine m_get X hW fdX11_28 0 rfl rfl dX11_knows_35 ?_
    refine m_get X hW fdX11_120 8 rfl rfl dX11_knows_38 ?_
    refine lv_iload_n hx hb dX11_knows_41 rfl (lv_at hl 2 rfl) ?_
    obtain ⟨g3, hF⟩ := gd_some hF
    refine m_iald X hW 9 (k := p2.toNatClampNeg) rfl g3 rfl dX11_knows_42 ?_
    have hq := Option.some.inj hF
    subst hq
    exact hret _ _ _ _ hW dX11_knows_43
  · have hF := if_y c1 hF
    refine lv_bipush (v := (-10 : Int32)) hx hb dX11_knows_12 (by decide) ?_
    have hq := Option.some.inj hF
    subst hq
    exact hret _ _ _ _ hW dX11_knows_14
abbrev wd_S_teller (E : m_E) (a_t : Nat) (a_t_draft : Nat) (a_t_firstImage : Nat) (a_t_secondImage : Nat) (a_t_otherNews : Nat) (a_t_readings : Nat) (a_t_chances : Nat) (a_t_turning : Nat) (a_t_text : Nat) (a_t_fraction : Nat) (a_t_now : Nat) (a_t_now_sightings : Nat) (a_t_now_lexicon : Nat) (a_t_now_level : Nat) (a_t_now_loss : Nat) (a_t_now_floor : Nat) (a_t_now_floor_place : Nat) (a_t_now_floor_way : Nat) (a_t_now_floor_tell : Nat) (a_t_now_floor_look : Nat) (a_t_now_floor_farSquare : Nat) (a_t_news : Nat) (a_t_news_since : Nat) (a_t_news_toldBy : Nat) (a_t_news_audience : Nat) (t_now_clearness : Int32) (t_now_isKept : Int32) (t_now_floor_pillars : Int64) (t_now_floor_weavers : Int32) (t_now_floor_place : Nat → Int32) (t_now_floor_way : Nat → Int32) (t_now_floor_tell : Nat → Int32) (t_now_floor_look : Nat → Int32) (t_now_floor_farSquare : Nat → Int32) (t_news_since : Nat → Int32) (t_news_toldBy : Nat → Int32) (t_news_audience : Nat → Int32) : va_W := [(a_t, .inr (11, [.ref a_t_now, .ref a_t_draft, .ref a_t_firstImage, .ref a_t_secondImage, .ref a_t_news, .ref a_t_otherNews, .ref a_t_readings, .ref a_t_chances, .ref a_t_turning, .ref a_t_text, .ref a_t_fraction])), (a_t_now, .inr (7, [.ref a_t_now_floor, .ref a_t_now_sightings, .ref a_t_now_lexicon, .ref a_t_now_level, .ref a_t_now_loss, .int t_now_clearness, .int t_now_isKept])), (a_t_now_floor, .inr (1, [.long t_now_floor_pillars, .int t_now_floor_weavers, .ref a_t_now_floor_place, .ref a_t_now_floor_way, .ref a_t_now_floor_tell, .ref a_t_now_floor_look, .ref a_t_now_floor_farSquare])), (a_t_now_floor_place, .inl (E.2.1 0, 8, .inl t_now_floor_place)), (a_t_now_floor_way, .inl (E.2.1 0, 8, .inl t_now_floor_way)), (a_t_now_floor_tell, .inl (E.2.1 0, 8, .inl t_now_floor_tell)), (a_t_now_floor_look, .inl (E.2.1 0, 8, .inl t_now_floor_look)), (a_t_now_floor_farSquare, .inl (E.2.1 0, 2, .inl t_now_floor_farSquare)), (a_t_news, .inr (5, [.ref a_t_news_since, .ref a_t_news_toldBy, .ref a_t_news_audience])), (a_t_news_since, .inl (E.2.1 0, 8, .inl t_news_since)), (a_t_news_toldBy, .inl (E.2.1 0, 8, .inl t_news_toldBy)), (a_t_news_audience, .inl (E.2.1 0, 8, .inl t_news_audience))]
def rm_S_teller : Room := { frames := 6, cells := 0, slots := 0, locals := 153 }
set_option maxHeartbeats 4000000 in
set_option maxRecDepth 100000 in
theorem c_S_teller (l : Launch) (E : m_E) (sz N : Nat) (a_t : Nat) (a_t_draft : Nat) (a_t_firstImage : Nat) (a_t_secondImage : Nat) (a_t_otherNews : Nat) (a_t_readings : Nat) (a_t_chances : Nat) (a_t_turning : Nat) (a_t_text : Nat) (a_t_fraction : Nat) (a_t_now : Nat) (a_t_now_sightings : Nat) (a_t_now_lexicon : Nat) (a_t_now_level : Nat) (a_t_now_loss : Nat) (a_t_now_floor : Nat) (a_t_now_floor_place : Nat) (a_t_now_floor_way : Nat) (a_t_now_floor_tell : Nat) (a_t_now_floor_look : Nat) (a_t_now_floor_farSquare : Nat) (a_t_news : Nat) (a_t_news_since : Nat) (a_t_news_toldBy : Nat) (a_t_news_audience : Nat) (t_now_clearness : Int32) (t_now_isKept : Int32) (t_now_floor_pillars : Int64) (t_now_floor_weavers : Int32) (t_now_floor_place : Nat → Int32) (t_now_floor_way : Nat → Int32) (t_now_floor_tell : Nat → Int32) (t_now_floor_look : Nat → Int32) (t_now_floor_farSquare : Nat → Int32) (t_news_since : Nat → Int32) (t_news_toldBy : Nat → Int32) (t_news_audience : Nat → Int32) (p1 : Int32) (p2 : Int32) (p3 : Int32) (p4 : Int32) (ures : Int32 × (Nat → Int32) × (Nat → Int32) × (Nat → Int32)) (hF : F_S_teller N p1 p2 p3 p4 t_now_floor_pillars t_now_floor_weavers t_now_floor_place t_now_floor_way t_now_floor_tell t_now_floor_look t_now_floor_farSquare t_news_since t_news_toldBy t_news_audience = some ures) : m_Met l yX11_teller cX11_teller 5 (some .int) rm_S_teller E (wd_S_teller E a_t a_t_draft a_t_firstImage a_t_secondImage a_t_otherNews a_t_readings a_t_chances a_t_turning a_t_text a_t_fraction a_t_now a_t_now_sightings a_t_now_lexicon a_t_now_level a_t_now_loss a_t_now_floor a_t_now_floor_place a_t_now_floor_way a_t_now_floor_tell a_t_now_floor_look a_t_now_floor_farSquare a_t_news a_t_news_since a_t_news_toldBy a_t_news_audience t_now_clearness t_now_isKept t_now_floor_pillars t_now_floor_weavers t_now_floor_place t_now_floor_way t_now_floor_tell t_now_floor_look t_now_floor_farSquare t_news_since t_news_toldBy t_news_audience) (wd_S_teller E a_t a_t_draft a_t_firstImage a_t_secondImage a_t_otherNews a_t_readings a_t_chances a_t_turning a_t_text a_t_fraction a_t_now a_t_now_sightings a_t_now_lexicon a_t_now_level a_t_now_loss a_t_now_floor a_t_now_floor_place a_t_now_floor_way a_t_now_floor_tell a_t_now_floor_look a_t_now_floor_farSquare a_t_news a_t_news_since a_t_news_toldBy a_t_news_audience t_now_clearness t_now_isKept t_now_floor_pillars t_now_floor_weavers t_now_floor_place t_now_floor_way t_now_floor_tell t_now_floor_look t_now_floor_farSquare ures.2.1 ures.2.2.1 ures.2.2.2) sz [.ref a_t, .int p1, .int p2, .int p3, .int p4] (some (.int ures.1)) := by
  refine m_ofI (by decide) (Nat.le_of_ble_eq_true rfl) ?_
  intro p e s m args below meth c A Q ls X hW hA hl hret
  obtain ⟨hx, hb, -, hown, hts, hK, -, hG⟩ := id X
  have hl : lv_has ls 5 [(0, .ref a_t), (1, .int p1), (2, .int p2), (3, .int p3), (4, .int p4)] := hl
  unfold F_S_teller at hF
  refine lv_aload_n hx hb dX11_teller_0 rfl (lv_at hl 0 rfl) ?_
  refine lv_iload_n hx hb dX11_teller_1 rfl (lv_at hl 1 rfl) ?_
  refine lv_iload_n hx hb dX11_teller_2 rfl (lv_at hl 2 rfl) ?_
  refine lv_iload_n hx hb dX11_teller_3 rfl (lv_at hl 3 rfl) ?_
  refine lv_iload hx hb dX11_teller_4 (lv_at hl 4 rfl) ?_
  refine m_callV X hW hA hl.1 lkX11_112 (c_S_canAskNews l E _ N a_t a_t_draft a_t_firstImage a_t_secondImage a_t_news a_t_otherNews a_t_readings a_t_chances a_t_turning a_t_text a_t_fraction a_t_now a_t_now_sightings a_t_now_lexicon a_t_now_level a_t_now_loss a_t_now_floor a_t_now_floor_place a_t_now_floor_way a_t_now_floor_tell a_t_now_floor_look a_t_now_floor_farSquare t_now_clearness t_now_isKept t_now_floor_pillars t_now_floor_weavers p1 p2 p3 p4 (F_S_canAskNews p1 p2 p3 p4 t_now_floor_weavers) rfl) ([0, 1, 2]) (by decide) rfl rfl (ws' := (wd_S_teller E a_t a_t_draft a_t_firstImage a_t_secondImage a_t_otherNews a_t_readings a_t_chances a_t_turning a_t_text a_t_fraction a_t_now a_t_now_sightings a_t_now_lexicon a_t_now_level a_t_now_loss a_t_now_floor a_t_now_floor_place a_t_now_floor_way a_t_now_floor_tell a_t_now_floor_look a_t_now_floor_farSquare a_t_news a_t_news_since a_t_news_toldBy a_t_news_audience t_now_clearness t_now_isKept t_now_floor_pillars t_now_floor_weavers t_now_floor_place t_now_floor_way t_now_floor_tell t_now_floor_look t_now_floor_farSquare t_news_since t_news_toldBy t_news_audience)) rfl 0 rfl rfl rfl (As := [.int p1, .int p2, .int p3, .int p4]) (rest := []) rfl rfl ⟨rfl, rfl, Nat.le_of_ble_eq_true rfl, Nat.le_of_ble_eq_true rfl⟩ (Nat.le_of_ble_eq_true rfl) (Nat.zero_le _) (Nat.zero_le _) dX11_teller_6 (fun H locs hW => ?_)
  refine lv_if_ne (tgt := 15) hx hb dX11_teller_9 (by decide) (fun c1 => ?_) (fun c1 => ?_)
  · have hF := if_n c1 hF
    refine lv_aload_n hx hb dX11_teller_15 rfl (lv_at hl 0 rfl) ?_
    refine m_get X hW fdX11_28 0 rfl rfl dX11_teller_16 ?_
    refine lv_aload_n hx hb dX11_teller_19 rfl (lv_at hl 0 rfl) ?_
    refine m_get X hW fdX11_10 0 rfl rfl dX11_teller_20 ?_
    refine m_get X hW fdX11_70 1 rfl rfl dX11_teller_23 ?_
    refine lv_iload_n hx hb dX11_teller_26 rfl (lv_at hl 1 rfl) ?_
    refine lv_iconst (v := (0 : Int32)) hx hb dX11_teller_27 (by decide) ?_
    refine lv_iload_n hx hb dX11_teller_28 rfl (lv_at hl 3 rfl) ?_
    refine lv_iload hx hb dX11_teller_29 (lv_at hl 4 rfl) ?_
    obtain ⟨t_news_since'_2, t_news_toldBy'_2, t_news_audience'_2, hC2, hF⟩ := bO_s3 hF
    refine m_callV X hW hA hl.1 lkX11_116 (c_News_spread l E _ N a_t_news a_t_news_since a_t_news_toldBy a_t_news_audience a_t_now_floor a_t_now_floor_place a_t_now_floor_way a_t_now_floor_tell a_t_now_floor_look a_t_now_floor_farSquare t_news_since t_news_toldBy t_news_audience t_now_floor_pillars t_now_floor_weavers t_now_floor_place t_now_floor_way t_now_floor_tell t_now_floor_look t_now_floor_farSquare p1 (0 : Int32) p3 p4 (t_news_since'_2, t_news_toldBy'_2, t_news_audience'_2) hC2) ([8, 9, 10, 11, 2, 3, 4, 5, 6, 7]) (by decide) rfl rfl (ws' := (wd_S_teller E a_t a_t_draft a_t_firstImage a_t_secondImage a_t_otherNews a_t_readings a_t_chances a_t_turning a_t_text a_t_fraction a_t_now a_t_now_sightings a_t_now_lexicon a_t_now_level a_t_now_loss a_t_now_floor a_t_now_floor_place a_t_now_floor_way a_t_now_floor_tell a_t_now_floor_look a_t_now_floor_farSquare a_t_news a_t_news_since a_t_news_toldBy a_t_news_audience t_now_clearness t_now_isKept t_now_floor_pillars t_now_floor_weavers t_now_floor_place t_now_floor_way t_now_floor_tell t_now_floor_look t_now_floor_farSquare t_news_since'_2 t_news_toldBy'_2 t_news_audience'_2)) (m_putS [none, none, some 4, some 5, some 6, some 7, some 8, some 9, some 0, some 1, some 2, some 3] (by decide +kernel) (by rfl) (by decide +kernel) (by rfl) (by rfl)) 8 rfl rfl rfl (As := [.ref a_t_now_floor, .int p1, .int (0 : Int32), .int p3, .int p4]) (rest := []) rfl rfl ⟨rfl, rfl, Nat.le_of_ble_eq_true rfl, Nat.le_of_ble_eq_true rfl⟩ (Nat.le_of_ble_eq_true rfl) (Nat.zero_le _) (Nat.zero_le _) dX11_teller_31 (fun H locs hW => ?_)
    clear hC2
    refine lv_aload_n hx hb dX11_teller_34 rfl (lv_at hl 0 rfl) ?_
    refine m_get X hW fdX11_28 0 rfl rfl dX11_teller_35 ?_
    refine m_get X hW fdX11_124 8 rfl rfl dX11_teller_38 ?_
    refine lv_iload_n hx hb dX11_teller_41 rfl (lv_at hl 2 rfl) ?_
    obtain ⟨g3, hF⟩ := gd_some hF
    refine m_iald X hW 10 (k := p2.toNatClampNeg) rfl g3 rfl dX11_teller_42 ?_
    have hq := Option.some.inj hF
    subst hq
    exact hret _ _ _ _ hW dX11_teller_43
  · have hF := if_y c1 hF
    refine lv_bipush (v := (-10 : Int32)) hx hb dX11_teller_12 (by decide) ?_
    have hq := Option.some.inj hF
    subst hq
    exact hret _ _ _ _ hW dX11_teller_14
abbrev wd_S_firstOf (E : m_E)   : va_W := []
def rm_S_firstOf : Room := { frames := 0, cells := 0, slots := 0, locals := 0 }
set_option maxHeartbeats 4000000 in
set_option maxRecDepth 100000 in
theorem c_S_firstOf (l : Launch) (E : m_E) (sz N : Nat)   (p1 : Int32) (p2 : Int32) (ures : Int32) (hF : F_S_firstOf p1 p2 = some ures) : m_Met l yX11_firstOf cX11_firstOf 2 (some .int) rm_S_firstOf E (wd_S_firstOf E) (wd_S_firstOf E) sz [.int p1, .int p2] (some (.int ures)) := by
  refine m_ofI (by decide) (Nat.le_of_ble_eq_true rfl) ?_
  intro p e s m args below meth c A Q ls X hW hA hl hret
  obtain ⟨hx, hb, -, hown, hts, hK, -, hG⟩ := id X
  have hl : lv_has ls 2 [(0, .int p1), (1, .int p2)] := hl
  unfold F_S_firstOf at hF
  refine lv_iload_n hx hb dX11_firstOf_0 rfl (lv_at hl 0 rfl) ?_
  refine lv_iconst (v := (-1 : Int32)) hx hb dX11_firstOf_1 (by decide) ?_
  obtain ⟨out4, hX2, hr3, hF⟩ := bT_s0 hF
  have J1 : ∀  (H : Heap) (locs : List Loc) (ls : Array Slot), out4 = .inr () → m_H E A (wd_S_firstOf E) s.heap H locs → lv_has ls 2 [(0, .int p1), (1, .int p2)] → W p l e rm_S_firstOf s m args below meth c H locs 0 0 Q (F0 m 12 ls []) := by
    intro  H locs ls ho hW hl
    have hF := hF  ho
    refine lv_iload_n hx hb dX11_firstOf_12 rfl (lv_at hl 1 rfl) ?_
    refine lv_iconst (v := (-1 : Int32)) hx hb dX11_firstOf_13 (by decide) ?_
    refine lv_icmp_ne (tgt := 19) hx hb dX11_firstOf_14 (by decide) (fun c5 => ?_) (fun c5 => ?_)
    · have hF := if_n c5 hF
      refine lv_iload_n hx hb dX11_firstOf_19 rfl (lv_at hl 0 rfl) ?_
      refine lv_iconst (v := (-1 : Int32)) hx hb dX11_firstOf_20 (by decide) ?_
      refine lv_icmp_ne (tgt := 26) hx hb dX11_firstOf_21 (by decide) (fun c6 => ?_) (fun c6 => ?_)
      · have hF := if_n c6 hF
        refine lv_iload_n hx hb dX11_firstOf_26 rfl (lv_at hl 0 rfl) ?_
        refine lv_iload_n hx hb dX11_firstOf_27 rfl (lv_at hl 1 rfl) ?_
        refine lv_icmp_ne (tgt := 33) hx hb dX11_firstOf_28 (by decide) (fun c7 => ?_) (fun c7 => ?_)
        · have hF := if_n c7 hF
          refine lv_iload_n hx hb dX11_firstOf_33 rfl (lv_at hl 0 rfl) ?_
          refine lv_iload_n hx hb dX11_firstOf_34 rfl (lv_at hl 1 rfl) ?_
          refine lv_icmp_ge (tgt := 42) hx hb dX11_firstOf_35 (by decide) (fun c8 => ?_) (fun c8 => ?_)
          · have hF := if_y c8 hF
            refine lv_iconst (v := (1 : Int32)) hx hb dX11_firstOf_42 (by decide) ?_
            have hq := Option.some.inj hF
            subst hq
            exact hret _ _ _ _ hW dX11_firstOf_43
          · have hF := if_n c8 hF
            refine lv_iconst (v := (0 : Int32)) hx hb dX11_firstOf_38 (by decide) ?_
            refine lv_goto (tgt := 43) hx hb dX11_firstOf_39 (by decide) ?_
            have hq := Option.some.inj hF
            subst hq
            exact hret _ _ _ _ hW dX11_firstOf_43
        · have hF := if_y c7 hF
          refine lv_iconst (v := (2 : Int32)) hx hb dX11_firstOf_31 (by decide) ?_
          have hq := Option.some.inj hF
          subst hq
          exact hret _ _ _ _ hW dX11_firstOf_32
      · have hF := if_y c6 hF
        refine lv_iconst (v := (1 : Int32)) hx hb dX11_firstOf_24 (by decide) ?_
        have hq := Option.some.inj hF
        subst hq
        exact hret _ _ _ _ hW dX11_firstOf_25
    · have hF := if_y c5 hF
      refine lv_iconst (v := (0 : Int32)) hx hb dX11_firstOf_17 (by decide) ?_
      have hq := Option.some.inj hF
      subst hq
      exact hret _ _ _ _ hW dX11_firstOf_18
  clear hF
  have hF := hX2
  clear hX2
  refine lv_icmp_ne (tgt := 12) hx hb dX11_firstOf_2 (by decide) (fun c9 => ?_) (fun c9 => ?_)
  · have hF := if_n c9 hF
    exact J1  _ _ _ (Option.some.inj hF).symm hW (lv_sub hl [0, 1] rfl)
  · have hF := if_y c9 hF
    refine lv_iload_n hx hb dX11_firstOf_5 rfl (lv_at hl 1 rfl) ?_
    refine lv_iconst (v := (-1 : Int32)) hx hb dX11_firstOf_6 (by decide) ?_
    refine lv_icmp_ne (tgt := 12) hx hb dX11_firstOf_7 (by decide) (fun c10 => ?_) (fun c10 => ?_)
    · have hF := if_n c10 hF
      exact J1  _ _ _ (Option.some.inj hF).symm hW (lv_sub hl [0, 1] rfl)
    · have hF := if_y c10 hF
      refine lv_iconst (v := (-1 : Int32)) hx hb dX11_firstOf_10 (by decide) ?_
      have hq := (Option.some.inj hF).symm
      have hq := hr3 _ hq
      subst hq
      exact hret _ _ _ _ hW dX11_firstOf_11
abbrev wd_S_meet (E : m_E) (a_t : Nat) (a_t_draft : Nat) (a_t_firstImage : Nat) (a_t_secondImage : Nat) (a_t_readings : Nat) (a_t_chances : Nat) (a_t_turning : Nat) (a_t_text : Nat) (a_t_fraction : Nat) (a_t_now : Nat) (a_t_now_sightings : Nat) (a_t_now_lexicon : Nat) (a_t_now_level : Nat) (a_t_now_loss : Nat) (a_t_now_floor : Nat) (a_t_now_floor_place : Nat) (a_t_now_floor_way : Nat) (a_t_now_floor_tell : Nat) (a_t_now_floor_look : Nat) (a_t_now_floor_farSquare : Nat) (a_t_news : Nat) (a_t_news_since : Nat) (a_t_news_toldBy : Nat) (a_t_news_audience : Nat) (a_t_otherNews : Nat) (a_t_otherNews_since : Nat) (a_t_otherNews_toldBy : Nat) (a_t_otherNews_audience : Nat) (t_now_clearness : Int32) (t_now_isKept : Int32) (t_now_floor_pillars : Int64) (t_now_floor_weavers : Int32) (t_now_floor_place : Nat → Int32) (t_now_floor_way : Nat → Int32) (t_now_floor_tell : Nat → Int32) (t_now_floor_look : Nat → Int32) (t_now_floor_farSquare : Nat → Int32) (t_news_since : Nat → Int32) (t_news_toldBy : Nat → Int32) (t_news_audience : Nat → Int32) (t_otherNews_since : Nat → Int32) (t_otherNews_toldBy : Nat → Int32) (t_otherNews_audience : Nat → Int32) : va_W := [(a_t, .inr (11, [.ref a_t_now, .ref a_t_draft, .ref a_t_firstImage, .ref a_t_secondImage, .ref a_t_news, .ref a_t_otherNews, .ref a_t_readings, .ref a_t_chances, .ref a_t_turning, .ref a_t_text, .ref a_t_fraction])), (a_t_now, .inr (7, [.ref a_t_now_floor, .ref a_t_now_sightings, .ref a_t_now_lexicon, .ref a_t_now_level, .ref a_t_now_loss, .int t_now_clearness, .int t_now_isKept])), (a_t_now_floor, .inr (1, [.long t_now_floor_pillars, .int t_now_floor_weavers, .ref a_t_now_floor_place, .ref a_t_now_floor_way, .ref a_t_now_floor_tell, .ref a_t_now_floor_look, .ref a_t_now_floor_farSquare])), (a_t_now_floor_place, .inl (E.2.1 0, 8, .inl t_now_floor_place)), (a_t_now_floor_way, .inl (E.2.1 0, 8, .inl t_now_floor_way)), (a_t_now_floor_tell, .inl (E.2.1 0, 8, .inl t_now_floor_tell)), (a_t_now_floor_look, .inl (E.2.1 0, 8, .inl t_now_floor_look)), (a_t_now_floor_farSquare, .inl (E.2.1 0, 2, .inl t_now_floor_farSquare)), (a_t_news, .inr (5, [.ref a_t_news_since, .ref a_t_news_toldBy, .ref a_t_news_audience])), (a_t_news_since, .inl (E.2.1 0, 8, .inl t_news_since)), (a_t_news_toldBy, .inl (E.2.1 0, 8, .inl t_news_toldBy)), (a_t_news_audience, .inl (E.2.1 0, 8, .inl t_news_audience)), (a_t_otherNews, .inr (5, [.ref a_t_otherNews_since, .ref a_t_otherNews_toldBy, .ref a_t_otherNews_audience])), (a_t_otherNews_since, .inl (E.2.1 0, 8, .inl t_otherNews_since)), (a_t_otherNews_toldBy, .inl (E.2.1 0, 8, .inl t_otherNews_toldBy)), (a_t_otherNews_audience, .inl (E.2.1 0, 8, .inl t_otherNews_audience))]
def rm_S_meet : Room := { frames := 6, cells := 0, slots := 0, locals := 153 }
set_option maxHeartbeats 4000000 in
set_option maxRecDepth 100000 in
theorem c_S_meet (l : Launch) (E : m_E) (sz N : Nat) (a_t : Nat) (a_t_draft : Nat) (a_t_firstImage : Nat) (a_t_secondImage : Nat) (a_t_readings : Nat) (a_t_chances : Nat) (a_t_turning : Nat) (a_t_text : Nat) (a_t_fraction : Nat) (a_t_now : Nat) (a_t_now_sightings : Nat) (a_t_now_lexicon : Nat) (a_t_now_level : Nat) (a_t_now_loss : Nat) (a_t_now_floor : Nat) (a_t_now_floor_place : Nat) (a_t_now_floor_way : Nat) (a_t_now_floor_tell : Nat) (a_t_now_floor_look : Nat) (a_t_now_floor_farSquare : Nat) (a_t_news : Nat) (a_t_news_since : Nat) (a_t_news_toldBy : Nat) (a_t_news_audience : Nat) (a_t_otherNews : Nat) (a_t_otherNews_since : Nat) (a_t_otherNews_toldBy : Nat) (a_t_otherNews_audience : Nat) (t_now_clearness : Int32) (t_now_isKept : Int32) (t_now_floor_pillars : Int64) (t_now_floor_weavers : Int32) (t_now_floor_place : Nat → Int32) (t_now_floor_way : Nat → Int32) (t_now_floor_tell : Nat → Int32) (t_now_floor_look : Nat → Int32) (t_now_floor_farSquare : Nat → Int32) (t_news_since : Nat → Int32) (t_news_toldBy : Nat → Int32) (t_news_audience : Nat → Int32) (t_otherNews_since : Nat → Int32) (t_otherNews_toldBy : Nat → Int32) (t_otherNews_audience : Nat → Int32) (p1 : Int32) (p2 : Int32) (p3 : Int32) (p4 : Int32) (ures : Int32 × (Nat → Int32) × (Nat → Int32) × (Nat → Int32) × (Nat → Int32) × (Nat → Int32) × (Nat → Int32)) (hF : F_S_meet N p1 p2 p3 p4 t_now_floor_pillars t_now_floor_weavers t_now_floor_place t_now_floor_way t_now_floor_tell t_now_floor_look t_now_floor_farSquare t_news_since t_news_toldBy t_news_audience t_otherNews_since t_otherNews_toldBy t_otherNews_audience = some ures) : m_Met l yX11_meet cX11_meet 6 (some .int) rm_S_meet E (wd_S_meet E a_t a_t_draft a_t_firstImage a_t_secondImage a_t_readings a_t_chances a_t_turning a_t_text a_t_fraction a_t_now a_t_now_sightings a_t_now_lexicon a_t_now_level a_t_now_loss a_t_now_floor a_t_now_floor_place a_t_now_floor_way a_t_now_floor_tell a_t_now_floor_look a_t_now_floor_farSquare a_t_news a_t_news_since a_t_news_toldBy a_t_news_audience a_t_otherNews a_t_otherNews_since a_t_otherNews_toldBy a_t_otherNews_audience t_now_clearness t_now_isKept t_now_floor_pillars t_now_floor_weavers t_now_floor_place t_now_floor_way t_now_floor_tell t_now_floor_look t_now_floor_farSquare t_news_since t_news_toldBy t_news_audience t_otherNews_since t_otherNews_toldBy t_otherNews_audience) (wd_S_meet E a_t a_t_draft a_t_firstImage a_t_secondImage a_t_readings a_t_chances a_t_turning a_t_text a_t_fraction a_t_now a_t_now_sightings a_t_now_lexicon a_t_now_level a_t_now_loss a_t_now_floor a_t_now_floor_place a_t_now_floor_way a_t_now_floor_tell a_t_now_floor_look a_t_now_floor_farSquare a_t_news a_t_news_since a_t_news_toldBy a_t_news_audience a_t_otherNews a_t_otherNews_since a_t_otherNews_toldBy a_t_otherNews_audience t_now_clearness t_now_isKept t_now_floor_pillars t_now_floor_weavers t_now_floor_place t_now_floor_way t_now_floor_tell t_now_floor_look t_now_floor_farSquare ures.2.1 ures.2.2.1 ures.2.2.2.1 ures.2.2.2.2.1 ures.2.2.2.2.2.1 ures.2.2.2.2.2.2) sz [.ref a_t, .int p1, .int p2, .int p3, .int p4] (some (.int ures.1)) := by
  refine m_ofI (by decide) (Nat.le_of_ble_eq_true rfl) ?_
  intro p e s m args below meth c A Q ls X hW hA hl hret
  obtain ⟨hx, hb, -, hown, hts, hK, -, hG⟩ := id X
  have hl : lv_has ls 6 [(0, .ref a_t), (1, .int p1), (2, .int p2), (3, .int p3), (4, .int p4)] := hl
  unfold F_S_meet at hF
  refine lv_aload_n hx hb dX11_meet_0 rfl (lv_at hl 0 rfl) ?_
  refine m_get X hW fdX11_10 0 rfl rfl dX11_meet_1 ?_
  refine m_get X hW fdX11_70 1 rfl rfl dX11_meet_4 ?_
  refine lv_astore (lv' := [(5, .ref a_t_now_floor), (0, .ref a_t), (1, .int p1), (2, .int p2), (3, .int p3), (4, .int p4)]) hx hb dX11_meet_7 hl (by decide) rfl (fun ls hl => ?_)
  refine lv_aload hx hb dX11_meet_9 (lv_at hl 0 rfl) ?_
  refine lv_iload_n hx hb dX11_meet_11 rfl (lv_at hl 2 rfl) ?_
  refine lv_iload_n hx hb dX11_meet_12 rfl (lv_at hl 3 rfl) ?_
  refine m_callV X hW hA hl.1 lkX11_94 (c_Floor_areTwo l E _ N a_t_now_floor a_t_now_floor_place a_t_now_floor_way a_t_now_floor_tell a_t_now_floor_look a_t_now_floor_farSquare t_now_floor_pillars t_now_floor_weavers p1 p2 (F_Floor_areTwo p1 p2 t_now_floor_weavers) rfl) ([2]) (by decide) rfl rfl (ws' := (wd_S_meet E a_t a_t_draft a_t_firstImage a_t_secondImage a_t_readings a_t_chances a_t_turning a_t_text a_t_fraction a_t_now a_t_now_sightings a_t_now_lexicon a_t_now_level a_t_now_loss a_t_now_floor a_t_now_floor_place a_t_now_floor_way a_t_now_floor_tell a_t_now_floor_look a_t_now_floor_farSquare a_t_news a_t_news_since a_t_news_toldBy a_t_news_audience a_t_otherNews a_t_otherNews_since a_t_otherNews_toldBy a_t_otherNews_audience t_now_clearness t_now_isKept t_now_floor_pillars t_now_floor_weavers t_now_floor_place t_now_floor_way t_now_floor_tell t_now_floor_look t_now_floor_farSquare t_news_since t_news_toldBy t_news_audience t_otherNews_since t_otherNews_toldBy t_otherNews_audience)) rfl 2 rfl rfl rfl (As := [.int p1, .int p2]) (rest := []) rfl rfl ⟨rfl, rfl, Nat.le_of_ble_eq_true rfl, Nat.le_of_ble_eq_true rfl⟩ (Nat.le_of_ble_eq_true rfl) (Nat.zero_le _) (Nat.zero_le _) dX11_meet_13 (fun H locs hW => ?_)
  refine lv_if_eq (tgt := 40) hx hb dX11_meet_16 (by decide) (fun c1 => ?_) (fun c1 => ?_)
  · have hF := if_y c1 hF
    refine lv_bipush (v := (-10 : Int32)) hx hb dX11_meet_40 (by decide) ?_
    have hq := Option.some.inj hF
    subst hq
    exact hret _ _ _ _ hW dX11_meet_42
  · have hF := if_n c1 hF
    refine lv_iload_n hx hb dX11_meet_19 rfl (lv_at hl 4 rfl) ?_
    refine lv_iconst (v := (0 : Int32)) hx hb dX11_meet_20 (by decide) ?_
    refine lv_sipush (v := (240 : Int32)) hx hb dX11_meet_21 (by decide) ?_
    refine m_callS X hW hA hl.1 lkX11_98 (c_S_within l E _ N   p3 (0 : Int32) (240 : Int32) (F_S_within p3 (0 : Int32) (240 : Int32)) rfl) ([]) (by decide) rfl rfl (ws' := (wd_S_meet E a_t a_t_draft a_t_firstImage a_t_secondImage a_t_readings a_t_chances a_t_turning a_t_text a_t_fraction a_t_now a_t_now_sightings a_t_now_lexicon a_t_now_level a_t_now_loss a_t_now_floor a_t_now_floor_place a_t_now_floor_way a_t_now_floor_tell a_t_now_floor_look a_t_now_floor_farSquare a_t_news a_t_news_since a_t_news_toldBy a_t_news_audience a_t_otherNews a_t_otherNews_since a_t_otherNews_toldBy a_t_otherNews_audience t_now_clearness t_now_isKept t_now_floor_pillars t_now_floor_weavers t_now_floor_place t_now_floor_way t_now_floor_tell t_now_floor_look t_now_floor_farSquare t_news_since t_news_toldBy t_news_audience t_otherNews_since t_otherNews_toldBy t_otherNews_audience)) rfl (As := [.int p3, .int (0 : Int32), .int (240 : Int32)]) (rest := []) rfl rfl ⟨rfl, rfl, Nat.le_of_ble_eq_true rfl, Nat.le_of_ble_eq_true rfl⟩ (Nat.le_of_ble_eq_true rfl) (Nat.zero_le _) (Nat.zero_le _) dX11_meet_24 (fun H locs hW => ?_)
    refine lv_if_eq (tgt := 40) hx hb dX11_meet_27 (by decide) (fun c2 => ?_) (fun c2 => ?_)
    · have hF := if_y c2 hF
      refine lv_bipush (v := (-10 : Int32)) hx hb dX11_meet_40 (by decide) ?_
      have hq := Option.some.inj hF
      subst hq
      exact hret _ _ _ _ hW dX11_meet_42
    · have hF := if_n c2 hF
      refine lv_aload hx hb dX11_meet_30 (lv_at hl 0 rfl) ?_
      refine lv_iload hx hb dX11_meet_32 (lv_at hl 5 rfl) ?_
      refine m_callV X hW hA hl.1 lkX11_127 (c_Floor_isWeaver l E _ N a_t_now_floor a_t_now_floor_place a_t_now_floor_way a_t_now_floor_tell a_t_now_floor_look a_t_now_floor_farSquare t_now_floor_pillars t_now_floor_weavers p4 (F_Floor_isWeaver p4 t_now_floor_weavers) rfl) ([2]) (by decide) rfl rfl (ws' := (wd_S_meet E a_t a_t_draft a_t_firstImage a_t_secondImage a_t_readings a_t_chances a_t_turning a_t_text a_t_fraction a_t_now a_t_now_sightings a_t_now_lexicon a_t_now_level a_t_now_loss a_t_now_floor a_t_now_floor_place a_t_now_floor_way a_t_now_floor_tell a_t_now_floor_look a_t_now_floor_farSquare a_t_news a_t_news_since a_t_news_toldBy a_t_news_audience a_t_otherNews a_t_otherNews_since a_t_otherNews_toldBy a_t_otherNews_audience t_now_clearness t_now_isKept t_now_floor_pillars t_now_floor_weavers t_now_floor_place t_now_floor_way t_now_floor_tell t_now_floor_look t_now_floor_farSquare t_news_since t_news_toldBy t_news_audience t_otherNews_since t_otherNews_toldBy t_otherNews_audience)) rfl 2 rfl rfl rfl (As := [.int p4]) (rest := []) rfl rfl ⟨rfl, rfl, Nat.le_of_ble_eq_true rfl, Nat.le_of_ble_eq_true rfl⟩ (Nat.le_of_ble_eq_true rfl) (Nat.zero_le _) (Nat.zero_le _) dX11_meet_34 (fun H locs hW => ?_)
      refine lv_if_ne (tgt := 43) hx hb dX11_meet_37 (by decide) (fun c3 => ?_) (fun c3 => ?_)
      · have hF := if_n c3 hF
        refine lv_aload_n hx hb dX11_meet_43 rfl (lv_at hl 1 rfl) ?_
        refine m_get X hW fdX11_28 0 rfl rfl dX11_meet_44 ?_
        refine lv_aload hx hb dX11_meet_47 (lv_at hl 0 rfl) ?_
        refine lv_iload_n hx hb dX11_meet_49 rfl (lv_at hl 2 rfl) ?_
        refine lv_iconst (v := (0 : Int32)) hx hb dX11_meet_50 (by decide) ?_
        refine lv_iconst (v := (0 : Int32)) hx hb dX11_meet_51 (by decide) ?_
        refine lv_iconst (v := (-1 : Int32)) hx hb dX11_meet_52 (by decide) ?_
        obtain ⟨t_news_since'_2, t_news_toldBy'_2, t_news_audience'_2, hC4, hF⟩ := bO_s3 hF
        refine m_callV X hW hA hl.1 lkX11_116 (c_News_spread l E _ N a_t_news a_t_news_since a_t_news_toldBy a_t_news_audience a_t_now_floor a_t_now_floor_place a_t_now_floor_way a_t_now_floor_tell a_t_now_floor_look a_t_now_floor_farSquare t_news_since t_news_toldBy t_news_audience t_now_floor_pillars t_now_floor_weavers t_now_floor_place t_now_floor_way t_now_floor_tell t_now_floor_look t_now_floor_farSquare p1 (0 : Int32) (0 : Int32) (-1 : Int32) (t_news_since'_2, t_news_toldBy'_2, t_news_audience'_2) hC4) ([8, 9, 10, 11, 2, 3, 4, 5, 6, 7]) (by decide) rfl rfl (ws' := (wd_S_meet E a_t a_t_draft a_t_firstImage a_t_secondImage a_t_readings a_t_chances a_t_turning a_t_text a_t_fraction a_t_now a_t_now_sightings a_t_now_lexicon a_t_now_level a_t_now_loss a_t_now_floor a_t_now_floor_place a_t_now_floor_way a_t_now_floor_tell a_t_now_floor_look a_t_now_floor_farSquare a_t_news a_t_news_since a_t_news_toldBy a_t_news_audience a_t_otherNews a_t_otherNews_since a_t_otherNews_toldBy a_t_otherNews_audience t_now_clearness t_now_isKept t_now_floor_pillars t_now_floor_weavers t_now_floor_place t_now_floor_way t_now_floor_tell t_now_floor_look t_now_floor_farSquare t_news_since'_2 t_news_toldBy'_2 t_news_audience'_2 t_otherNews_since t_otherNews_toldBy t_otherNews_audience)) (m_putS [none, none, some 4, some 5, some 6, some 7, some 8, some 9, some 0, some 1, some 2, some 3, none, none, none, none] (by decide +kernel) (by rfl) (by decide +kernel) (by rfl) (by rfl)) 8 rfl rfl rfl (As := [.ref a_t_now_floor, .int p1, .int (0 : Int32), .int (0 : Int32), .int (-1 : Int32)]) (rest := []) rfl rfl ⟨rfl, rfl, Nat.le_of_ble_eq_true rfl, Nat.le_of_ble_eq_true rfl⟩ (Nat.le_of_ble_eq_true rfl) (Nat.zero_le _) (Nat.zero_le _) dX11_meet_53 (fun H locs hW => ?_)
        clear hC4
        refine lv_aload_n hx hb dX11_meet_56 rfl (lv_at hl 1 rfl) ?_
        refine m_get X hW fdX11_32 0 rfl rfl dX11_meet_57 ?_
        refine lv_aload hx hb dX11_meet_60 (lv_at hl 0 rfl) ?_
        refine lv_iload_n hx hb dX11_meet_62 rfl (lv_at hl 3 rfl) ?_
        refine lv_iload_n hx hb dX11_meet_63 rfl (lv_at hl 4 rfl) ?_
        refine lv_iconst (v := (0 : Int32)) hx hb dX11_meet_64 (by decide) ?_
        refine lv_iconst (v := (-1 : Int32)) hx hb dX11_meet_65 (by decide) ?_
        obtain ⟨t_otherNews_since'_2, t_otherNews_toldBy'_2, t_otherNews_audience'_2, hC5, hF⟩ := bO_s3 hF
        refine m_callV X hW hA hl.1 lkX11_116 (c_News_spread l E _ N a_t_otherNews a_t_otherNews_since a_t_otherNews_toldBy a_t_otherNews_audience a_t_now_floor a_t_now_floor_place a_t_now_floor_way a_t_now_floor_tell a_t_now_floor_look a_t_now_floor_farSquare t_otherNews_since t_otherNews_toldBy t_otherNews_audience t_now_floor_pillars t_now_floor_weavers t_now_floor_place t_now_floor_way t_now_floor_tell t_now_floor_look t_now_floor_farSquare p2 p3 (0 : Int32) (-1 : Int32) (t_otherNews_since'_2, t_otherNews_toldBy'_2, t_otherNews_audience'_2) hC5) ([12, 13, 14, 15, 2, 3, 4, 5, 6, 7]) (by decide) rfl rfl (ws' := (wd_S_meet E a_t a_t_draft a_t_firstImage a_t_secondImage a_t_readings a_t_chances a_t_turning a_t_text a_t_fraction a_t_now a_t_now_sightings a_t_now_lexicon a_t_now_level a_t_now_loss a_t_now_floor a_t_now_floor_place a_t_now_floor_way a_t_now_floor_tell a_t_now_floor_look a_t_now_floor_farSquare a_t_news a_t_news_since a_t_news_toldBy a_t_news_audience a_t_otherNews a_t_otherNews_since a_t_otherNews_toldBy a_t_otherNews_audience t_now_clearness t_now_isKept t_now_floor_pillars t_now_floor_weavers t_now_floor_place t_now_floor_way t_now_floor_tell t_now_floor_look t_now_floor_farSquare t_news_since'_2 t_news_toldBy'_2 t_news_audience'_2 t_otherNews_since'_2 t_otherNews_toldBy'_2 t_otherNews_audience'_2)) (m_putS [none, none, some 4, some 5, some 6, some 7, some 8, some 9, none, none, none, none, some 0, some 1, some 2, some 3] (by decide +kernel) (by rfl) (by decide +kernel) (by rfl) (by rfl)) 12 rfl rfl rfl (As := [.ref a_t_now_floor, .int p2, .int p3, .int (0 : Int32), .int (-1 : Int32)]) (rest := []) rfl rfl ⟨rfl, rfl, Nat.le_of_ble_eq_true rfl, Nat.le_of_ble_eq_true rfl⟩ (Nat.le_of_ble_eq_true rfl) (Nat.zero_le _) (Nat.zero_le _) dX11_meet_66 (fun H locs hW => ?_)
        clear hC5
        refine lv_aload_n hx hb dX11_meet_69 rfl (lv_at hl 1 rfl) ?_
        refine m_get X hW fdX11_28 0 rfl rfl dX11_meet_70 ?_
        refine m_get X hW fdX11_120 8 rfl rfl dX11_meet_73 ?_
        refine lv_iload hx hb dX11_meet_76 (lv_at hl 5 rfl) ?_
        obtain ⟨g6, hF⟩ := gd_some hF
        refine m_iald X hW 9 (k := p4.toNatClampNeg) rfl g6 rfl dX11_meet_78 ?_
        refine lv_aload_n hx hb dX11_meet_79 rfl (lv_at hl 1 rfl) ?_
        refine m_get X hW fdX11_32 0 rfl rfl dX11_meet_80 ?_
        refine m_get X hW fdX11_120 12 rfl rfl dX11_meet_83 ?_
        refine lv_iload hx hb dX11_meet_86 (lv_at hl 5 rfl) ?_
        refine m_iald X hW 13 (k := p4.toNatClampNeg) rfl g6 rfl dX11_meet_88 ?_
        obtain ⟨r89, hC7, hF⟩ := bO_s1 hF
        refine m_callS X hW hA hl.1 lkX11_131 (c_S_firstOf l E _ N   (t_news_since'_2 p4.toNatClampNeg) (t_otherNews_since'_2 p4.toNatClampNeg) r89 hC7) ([]) (by decide) rfl rfl (ws' := (wd_S_meet E a_t a_t_draft a_t_firstImage a_t_secondImage a_t_readings a_t_chances a_t_turning a_t_text a_t_fraction a_t_now a_t_now_sightings a_t_now_lexicon a_t_now_level a_t_now_loss a_t_now_floor a_t_now_floor_place a_t_now_floor_way a_t_now_floor_tell a_t_now_floor_look a_t_now_floor_farSquare a_t_news a_t_news_since a_t_news_toldBy a_t_news_audience a_t_otherNews a_t_otherNews_since a_t_otherNews_toldBy a_t_otherNews_audience t_now_clearness t_now_isKept t_now_floor_pillars t_now_floor_weavers t_now_floor_place t_now_floor_way t_now_floor_tell t_now_floor_look t_now_floor_farSquare t_news_since'_2 t_news_toldBy'_2 t_news_audience'_2 t_otherNews_since'_2 t_otherNews_toldBy'_2 t_otherNews_audience'_2)) rfl (As := [.int (t_news_since'_2 p4.toNatClampNeg), .int (t_otherNews_since'_2 p4.toNatClampNeg)]) (rest := []) rfl rfl ⟨rfl, rfl, Nat.le_of_ble_eq_true rfl, Nat.le_of_ble_eq_true rfl⟩ (Nat.le_of_ble_eq_true rfl) (Nat.zero_le _) (Nat.zero_le _) dX11_meet_89 (fun H locs hW => ?_)
        clear hC7
        have hq := Option.some.inj hF
        subst hq
        exact hret _ _ _ _ hW dX11_meet_92
      · have hF := if_y c3 hF
        refine lv_bipush (v := (-10 : Int32)) hx hb dX11_meet_40 (by decide) ?_
        have hq := Option.some.inj hF
        subst hq
        exact hret _ _ _ _ hW dX11_meet_42
abbrev wd_Sightings_add (E : m_E) (a_t : Nat) (a_t_weaver : Nat) (a_t_second : Nat) (a_t_knew : Nat) (t_many : Int32) (t_weaver : Nat → Int32) (t_second : Nat → Int32) (t_knew : Nat → Int32) : va_W := [(a_t, .inr (8, [.int t_many, .ref a_t_weaver, .ref a_t_second, .ref a_t_knew])), (a_t_weaver, .inl (E.2.1 0, 10, .inl t_weaver)), (a_t_second, .inl (E.2.1 0, 10, .inl t_second)), (a_t_knew, .inl (E.2.1 0, 10, .inl t_knew))]
def rm_Sightings_add : Room := { frames := 1, cells := 0, slots := 0, locals := 22 }
set_option maxHeartbeats 4000000 in
set_option maxRecDepth 100000 in
theorem c_Sightings_add (l : Launch) (E : m_E) (sz N : Nat) (a_t : Nat) (a_t_weaver : Nat) (a_t_second : Nat) (a_t_knew : Nat) (t_many : Int32) (t_weaver : Nat → Int32) (t_second : Nat → Int32) (t_knew : Nat → Int32) (p1 : Int32) (p2 : Int32) (p3 : Int32) (ures : Int32 × Int32 × (Nat → Int32) × (Nat → Int32) × (Nat → Int32)) (hF : F_Sightings_add p1 p2 p3 t_many t_weaver t_second t_knew = some ures) : m_Met l yX8_add cX8_add 4 (some .int) rm_Sightings_add E (wd_Sightings_add E a_t a_t_weaver a_t_second a_t_knew t_many t_weaver t_second t_knew) (wd_Sightings_add E a_t a_t_weaver a_t_second a_t_knew ures.2.1 ures.2.2.1 ures.2.2.2.1 ures.2.2.2.2) sz [.ref a_t, .int p1, .int p2, .int p3] (some (.int ures.1)) := by
  refine m_ofI (by decide) (Nat.le_of_ble_eq_true rfl) ?_
  intro p e s m args below meth c A Q ls X hW hA hl hret
  obtain ⟨hx, hb, -, hown, hts, hK, -, hG⟩ := id X
  have hl : lv_has ls 4 [(0, .ref a_t), (1, .int p1), (2, .int p2), (3, .int p3)] := hl
  unfold F_Sightings_add at hF
  refine lv_iload_n hx hb dX8_add_0 rfl (lv_at hl 2 rfl) ?_
  refine lv_iconst (v := (0 : Int32)) hx hb dX8_add_1 (by decide) ?_
  refine lv_sipush (v := (240 : Int32)) hx hb dX8_add_2 (by decide) ?_
  refine m_callN X hW hA hl.1 lkX8_33 (c_S_within l E _ N   p2 (0 : Int32) (240 : Int32) (F_S_within p2 (0 : Int32) (240 : Int32)) rfl) ([]) (by decide) rfl rfl (ws' := (wd_Sightings_add E a_t a_t_weaver a_t_second a_t_knew t_many t_weaver t_second t_knew)) rfl (As := [.int p2, .int (0 : Int32), .int (240 : Int32)]) (rest := []) rfl rfl ⟨rfl, rfl, Nat.le_of_ble_eq_true rfl, Nat.le_of_ble_eq_true rfl⟩ (Nat.le_of_ble_eq_true rfl) (Nat.zero_le _) (Nat.zero_le _) dX8_add_5 (fun H locs hW => ?_)
  refine lv_if_ne (tgt := 14) hx hb dX8_add_8 (by decide) (fun c1 => ?_) (fun c1 => ?_)
  · have hF := if_n c1 hF
    refine lv_aload_n hx hb dX8_add_14 rfl (lv_at hl 0 rfl) ?_
    refine m_get X hW fdX8_21 0 rfl rfl dX8_add_15 ?_
    refine lv_bipush (v := (10 : Int32)) hx hb dX8_add_18 (by decide) ?_
    refine lv_icmp_lt (tgt := 26) hx hb dX8_add_20 (by decide) (fun c2 => ?_) (fun c2 => ?_)
    · have hF := if_y c2 hF
      refine lv_aload_n hx hb dX8_add_26 rfl (lv_at hl 0 rfl) ?_
      refine m_get X hW fdX8_11 0 rfl rfl dX8_add_27 ?_
      refine lv_aload_n hx hb dX8_add_30 rfl (lv_at hl 0 rfl) ?_
      refine m_get X hW fdX8_21 0 rfl rfl dX8_add_31 ?_
      refine lv_iload_n hx hb dX8_add_34 rfl (lv_at hl 1 rfl) ?_
      obtain ⟨g3, hF⟩ := gd_some hF
      refine m_iast X hW 1 (k := t_many.toNatClampNeg) rfl g3 rfl dX8_add_35 (ws' := (wd_Sightings_add E a_t a_t_weaver a_t_second a_t_knew t_many (upd t_weaver t_many.toNatClampNeg p1) t_second t_knew)) rfl (fun H locs hW => ?_)
      refine lv_aload_n hx hb dX8_add_36 rfl (lv_at hl 0 rfl) ?_
      refine m_get X hW fdX8_15 0 rfl rfl dX8_add_37 ?_
      refine lv_aload_n hx hb dX8_add_40 rfl (lv_at hl 0 rfl) ?_
      refine m_get X hW fdX8_21 0 rfl rfl dX8_add_41 ?_
      refine lv_iload_n hx hb dX8_add_44 rfl (lv_at hl 2 rfl) ?_
      refine m_iast X hW 2 (k := t_many.toNatClampNeg) rfl g3 rfl dX8_add_45 (ws' := (wd_Sightings_add E a_t a_t_weaver a_t_second a_t_knew t_many (upd t_weaver t_many.toNatClampNeg p1) (upd t_second t_many.toNatClampNeg p2) t_knew)) rfl (fun H locs hW => ?_)
      refine lv_aload_n hx hb dX8_add_46 rfl (lv_at hl 0 rfl) ?_
      refine m_get X hW fdX8_18 0 rfl rfl dX8_add_47 ?_
      refine lv_aload_n hx hb dX8_add_50 rfl (lv_at hl 0 rfl) ?_
      refine m_get X hW fdX8_21 0 rfl rfl dX8_add_51 ?_
      refine lv_iload_n hx hb dX8_add_54 rfl (lv_at hl 3 rfl) ?_
      refine m_callN X hW hA hl.1 lkX8_37 (c_S_oneIf l E _ N   p3 (F_S_oneIf p3) rfl) ([]) (by decide) rfl rfl (ws' := (wd_Sightings_add E a_t a_t_weaver a_t_second a_t_knew t_many (upd t_weaver t_many.toNatClampNeg p1) (upd t_second t_many.toNatClampNeg p2) t_knew)) rfl (As := [.int p3]) (rest := [.int t_many, .ref a_t_knew]) rfl rfl ⟨rfl, rfl, Nat.le_of_ble_eq_true rfl, Nat.le_of_ble_eq_true rfl⟩ (Nat.le_of_ble_eq_true rfl) (Nat.zero_le _) (Nat.zero_le _) dX8_add_55 (fun H locs hW => ?_)
      refine m_iast X hW 3 (k := t_many.toNatClampNeg) rfl g3 rfl dX8_add_58 (ws' := (wd_Sightings_add E a_t a_t_weaver a_t_second a_t_knew t_many (upd t_weaver t_many.toNatClampNeg p1) (upd t_second t_many.toNatClampNeg p2) (upd t_knew t_many.toNatClampNeg (F_S_oneIf p3)))) rfl (fun H locs hW => ?_)
      refine lv_aload_n hx hb dX8_add_59 rfl (lv_at hl 0 rfl) ?_
      refine lv_dup hx hb dX8_add_60 rfl ?_
      refine m_get X hW fdX8_21 0 rfl rfl dX8_add_61 ?_
      refine lv_iconst (v := (1 : Int32)) hx hb dX8_add_64 (by decide) ?_
      refine lv_iadd hx hb dX8_add_65 ?_
      refine m_putf X hW fdX8_21 0 rfl (Nat.le_of_ble_eq_true rfl) rfl rfl dX8_add_66 (ws' := (wd_Sightings_add E a_t a_t_weaver a_t_second a_t_knew (t_many + (1 : Int32)) (upd t_weaver t_many.toNatClampNeg p1) (upd t_second t_many.toNatClampNeg p2) (upd t_knew t_many.toNatClampNeg (F_S_oneIf p3)))) rfl (fun H locs hW => ?_)
      refine lv_aload_n hx hb dX8_add_69 rfl (lv_at hl 0 rfl) ?_
      refine m_get X hW fdX8_21 0 rfl rfl dX8_add_70 ?_
      have hq := Option.some.inj hF
      subst hq
      exact hret _ _ _ _ hW dX8_add_73
    · have hF := if_n c2 hF
      refine lv_bipush (v := (-4 : Int32)) hx hb dX8_add_23 (by decide) ?_
      have hq := Option.some.inj hF
      subst hq
      exact hret _ _ _ _ hW dX8_add_25
  · have hF := if_y c1 hF
    refine lv_bipush (v := (-2 : Int32)) hx hb dX8_add_11 (by decide) ?_
    have hq := Option.some.inj hF
    subst hq
    exact hret _ _ _ _ hW dX8_add_13
abbrev wd_S_seen (E : m_E) (a_t : Nat) (a_t_draft : Nat) (a_t_firstImage : Nat) (a_t_secondImage : Nat) (a_t_news : Nat) (a_t_otherNews : Nat) (a_t_readings : Nat) (a_t_chances : Nat) (a_t_turning : Nat) (a_t_text : Nat) (a_t_fraction : Nat) (a_t_now : Nat) (a_t_now_lexicon : Nat) (a_t_now_level : Nat) (a_t_now_loss : Nat) (a_t_now_floor : Nat) (a_t_now_floor_place : Nat) (a_t_now_floor_way : Nat) (a_t_now_floor_tell : Nat) (a_t_now_floor_look : Nat) (a_t_now_floor_farSquare : Nat) (a_t_now_sightings : Nat) (a_t_now_sightings_weaver : Nat) (a_t_now_sightings_second : Nat) (a_t_now_sightings_knew : Nat) (t_now_clearness : Int32) (t_now_isKept : Int32) (t_now_floor_pillars : Int64) (t_now_floor_weavers : Int32) (t_now_sightings_many : Int32) (t_now_sightings_weaver : Nat → Int32) (t_now_sightings_second : Nat → Int32) (t_now_sightings_knew : Nat → Int32) : va_W := [(a_t, .inr (11, [.ref a_t_now, .ref a_t_draft, .ref a_t_firstImage, .ref a_t_secondImage, .ref a_t_news, .ref a_t_otherNews, .ref a_t_readings, .ref a_t_chances, .ref a_t_turning, .ref a_t_text, .ref a_t_fraction])), (a_t_now, .inr (7, [.ref a_t_now_floor, .ref a_t_now_sightings, .ref a_t_now_lexicon, .ref a_t_now_level, .ref a_t_now_loss, .int t_now_clearness, .int t_now_isKept])), (a_t_now_floor, .inr (1, [.long t_now_floor_pillars, .int t_now_floor_weavers, .ref a_t_now_floor_place, .ref a_t_now_floor_way, .ref a_t_now_floor_tell, .ref a_t_now_floor_look, .ref a_t_now_floor_farSquare])), (a_t_now_sightings, .inr (8, [.int t_now_sightings_many, .ref a_t_now_sightings_weaver, .ref a_t_now_sightings_second, .ref a_t_now_sightings_knew])), (a_t_now_sightings_weaver, .inl (E.2.1 0, 10, .inl t_now_sightings_weaver)), (a_t_now_sightings_second, .inl (E.2.1 0, 10, .inl t_now_sightings_second)), (a_t_now_sightings_knew, .inl (E.2.1 0, 10, .inl t_now_sightings_knew))]
def rm_S_seen : Room := { frames := 2, cells := 0, slots := 0, locals := 45 }
set_option maxHeartbeats 4000000 in
set_option maxRecDepth 100000 in
theorem c_S_seen (l : Launch) (E : m_E) (sz N : Nat) (a_t : Nat) (a_t_draft : Nat) (a_t_firstImage : Nat) (a_t_secondImage : Nat) (a_t_news : Nat) (a_t_otherNews : Nat) (a_t_readings : Nat) (a_t_chances : Nat) (a_t_turning : Nat) (a_t_text : Nat) (a_t_fraction : Nat) (a_t_now : Nat) (a_t_now_lexicon : Nat) (a_t_now_level : Nat) (a_t_now_loss : Nat) (a_t_now_floor : Nat) (a_t_now_floor_place : Nat) (a_t_now_floor_way : Nat) (a_t_now_floor_tell : Nat) (a_t_now_floor_look : Nat) (a_t_now_floor_farSquare : Nat) (a_t_now_sightings : Nat) (a_t_now_sightings_weaver : Nat) (a_t_now_sightings_second : Nat) (a_t_now_sightings_knew : Nat) (t_now_clearness : Int32) (t_now_isKept : Int32) (t_now_floor_pillars : Int64) (t_now_floor_weavers : Int32) (t_now_sightings_many : Int32) (t_now_sightings_weaver : Nat → Int32) (t_now_sightings_second : Nat → Int32) (t_now_sightings_knew : Nat → Int32) (p1 : Int32) (p2 : Int32) (p3 : Int32) (ures : Int32 × Int32 × (Nat → Int32) × (Nat → Int32) × (Nat → Int32)) (hF : F_S_seen p1 p2 p3 t_now_floor_weavers t_now_sightings_many t_now_sightings_weaver t_now_sightings_second t_now_sightings_knew = some ures) : m_Met l yX11_seen cX11_seen 4 (some .int) rm_S_seen E (wd_S_seen E a_t a_t_draft a_t_firstImage a_t_secondImage a_t_news a_t_otherNews a_t_readings a_t_chances a_t_turning a_t_text a_t_fraction a_t_now a_t_now_lexicon a_t_now_level a_t_now_loss a_t_now_floor a_t_now_floor_place a_t_now_floor_way a_t_now_floor_tell a_t_now_floor_look a_t_now_floor_farSquare a_t_now_sightings a_t_now_sightings_weaver a_t_now_sightings_second a_t_now_sightings_knew t_now_clearness t_now_isKept t_now_floor_pillars t_now_floor_weavers t_now_sightings_many t_now_sightings_weaver t_now_sightings_second t_now_sightings_knew) (wd_S_seen E a_t a_t_draft a_t_firstImage a_t_secondImage a_t_news a_t_otherNews a_t_readings a_t_chances a_t_turning a_t_text a_t_fraction a_t_now a_t_now_lexicon a_t_now_level a_t_now_loss a_t_now_floor a_t_now_floor_place a_t_now_floor_way a_t_now_floor_tell a_t_now_floor_look a_t_now_floor_farSquare a_t_now_sightings a_t_now_sightings_weaver a_t_now_sightings_second a_t_now_sightings_knew t_now_clearness t_now_isKept t_now_floor_pillars t_now_floor_weavers ures.2.1 ures.2.2.1 ures.2.2.2.1 ures.2.2.2.2) sz [.ref a_t, .int p1, .int p2, .int p3] (some (.int ures.1)) := by
  refine m_ofI (by decide) (Nat.le_of_ble_eq_true rfl) ?_
  intro p e s m args below meth c A Q ls X hW hA hl hret
  obtain ⟨hx, hb, -, hown, hts, hK, -, hG⟩ := id X
  have hl : lv_has ls 4 [(0, .ref a_t), (1, .int p1), (2, .int p2), (3, .int p3)] := hl
  unfold F_S_seen at hF
  refine lv_aload_n hx hb dX11_seen_0 rfl (lv_at hl 0 rfl) ?_
  refine m_get X hW fdX11_10 0 rfl rfl dX11_seen_1 ?_
  refine m_get X hW fdX11_70 1 rfl rfl dX11_seen_4 ?_
  refine lv_iload_n hx hb dX11_seen_7 rfl (lv_at hl 1 rfl) ?_
  refine m_callV X hW hA hl.1 lkX11_127 (c_Floor_isWeaver l E _ N a_t_now_floor a_t_now_floor_place a_t_now_floor_way a_t_now_floor_tell a_t_now_floor_look a_t_now_floor_farSquare t_now_floor_pillars t_now_floor_weavers p1 (F_Floor_isWeaver p1 t_now_floor_weavers) rfl) ([2]) (by decide) rfl rfl (ws' := (wd_S_seen E a_t a_t_draft a_t_firstImage a_t_secondImage a_t_news a_t_otherNews a_t_readings a_t_chances a_t_turning a_t_text a_t_fraction a_t_now a_t_now_lexicon a_t_now_level a_t_now_loss a_t_now_floor a_t_now_floor_place a_t_now_floor_way a_t_now_floor_tell a_t_now_floor_look a_t_now_floor_farSquare a_t_now_sightings a_t_now_sightings_weaver a_t_now_sightings_second a_t_now_sightings_knew t_now_clearness t_now_isKept t_now_floor_pillars t_now_floor_weavers t_now_sightings_many t_now_sightings_weaver t_now_sightings_second t_now_sightings_knew)) rfl 2 rfl rfl rfl (As := [.int p1]) (rest := []) rfl rfl ⟨rfl, rfl, Nat.le_of_ble_eq_true rfl, Nat.le_of_ble_eq_true rfl⟩ (Nat.le_of_ble_eq_true rfl) (Nat.zero_le _) (Nat.zero_le _) dX11_seen_8 (fun H locs hW => ?_)
  refine lv_if_ne (tgt := 17) hx hb dX11_seen_11 (by decide) (fun c1 => ?_) (fun c1 => ?_)
  · have hF := if_n c1 hF
    refine lv_aload_n hx hb dX11_seen_17 rfl (lv_at hl 0 rfl) ?_
    refine m_get X hW fdX11_10 0 rfl rfl dX11_seen_18 ?_
    refine m_get X hW fdX11_134 1 rfl rfl dX11_seen_21 ?_
    refine lv_iload_n hx hb dX11_seen_24 rfl (lv_at hl 1 rfl) ?_
    refine lv_iload_n hx hb dX11_seen_25 rfl (lv_at hl 2 rfl) ?_
    refine lv_iload_n hx hb dX11_seen_26 rfl (lv_at hl 3 rfl) ?_
    obtain ⟨r27, t_now_sightings_many'_2, t_now_sightings_weaver'_2, t_now_sightings_second'_2, t_now_sightings_knew'_2, hC2, hF⟩ := bO_s5 hF
    refine m_callV X hW hA hl.1 lkX11_138 (c_Sightings_add l E _ N a_t_now_sightings a_t_now_sightings_weaver a_t_now_sightings_second a_t_now_sightings_knew t_now_sightings_many t_now_sightings_weaver t_now_sightings_second t_now_sightings_knew p1 p2 p3 (r27, t_now_sightings_many'_2, t_now_sightings_weaver'_2, t_now_sightings_second'_2, t_now_sightings_knew'_2) hC2) ([3, 4, 5, 6]) (by decide) rfl rfl (ws' := (wd_S_seen E a_t a_t_draft a_t_firstImage a_t_secondImage a_t_news a_t_otherNews a_t_readings a_t_chances a_t_turning a_t_text a_t_fraction a_t_now a_t_now_lexicon a_t_now_level a_t_now_loss a_t_now_floor a_t_now_floor_place a_t_now_floor_way a_t_now_floor_tell a_t_now_floor_look a_t_now_floor_farSquare a_t_now_sightings a_t_now_sightings_weaver a_t_now_sightings_second a_t_now_sightings_knew t_now_clearness t_now_isKept t_now_floor_pillars t_now_floor_weavers t_now_sightings_many'_2 t_now_sightings_weaver'_2 t_now_sightings_second'_2 t_now_sightings_knew'_2)) rfl 3 rfl rfl rfl (As := [.int p1, .int p2, .int p3]) (rest := []) rfl rfl ⟨rfl, rfl, Nat.le_of_ble_eq_true rfl, Nat.le_of_ble_eq_true rfl⟩ (Nat.le_of_ble_eq_true rfl) (Nat.zero_le _) (Nat.zero_le _) dX11_seen_27 (fun H locs hW => ?_)
    clear hC2
    have hq := Option.some.inj hF
    subst hq
    exact hret _ _ _ _ hW dX11_seen_30
  · have hF := if_y c1 hF
    refine lv_bipush (v := (-2 : Int32)) hx hb dX11_seen_14 (by decide) ?_
    have hq := Option.some.inj hF
    subst hq
    exact hret _ _ _ _ hW dX11_seen_16
abbrev wd_Sightings_areBorneBy (E : m_E) (a_t : Nat) (a_t_weaver : Nat) (a_t_second : Nat) (a_t_knew : Nat) (a_p1 : Nat) (a_p1_toldBy : Nat) (a_p1_audience : Nat) (a_p1_since : Nat) (t_many : Int32) (t_weaver : Nat → Int32) (t_second : Nat → Int32) (t_knew : Nat → Int32) (p1_since : Nat → Int32) : va_W := [(a_t, .inr (8, [.int t_many, .ref a_t_weaver, .ref a_t_second, .ref a_t_knew])), (a_t_weaver, .inl (E.2.1 0, 10, .inl t_weaver)), (a_t_second, .inl (E.2.1 0, 10, .inl t_second)), (a_t_knew, .inl (E.2.1 0, 10, .inl t_knew)), (a_p1, .inr (5, [.ref a_p1_since, .ref a_p1_toldBy, .ref a_p1_audience])), (a_p1_since, .inl (E.2.1 0, 8, .inl p1_since))]
def rm_Sightings_areBorneBy : Room := { frames := 1, cells := 0, slots := 0, locals := 20 }
set_option maxHeartbeats 4000000 in
set_option maxRecDepth 100000 in
theorem c_Sightings_areBorneBy (l : Launch) (E : m_E) (sz N : Nat) (a_t : Nat) (a_t_weaver : Nat) (a_t_second : Nat) (a_t_knew : Nat) (a_p1 : Nat) (a_p1_toldBy : Nat) (a_p1_audience : Nat) (a_p1_since : Nat) (t_many : Int32) (t_weaver : Nat → Int32) (t_second : Nat → Int32) (t_knew : Nat → Int32) (p1_since : Nat → Int32)  (ures : Int32) (hF : F_Sightings_areBorneBy N t_many t_weaver t_second t_knew p1_since = some ures) : m_Met l yX8_areBorneBy cX8_areBorneBy 5 (some .boolean) rm_Sightings_areBorneBy E (wd_Sightings_areBorneBy E a_t a_t_weaver a_t_second a_t_knew a_p1 a_p1_toldBy a_p1_audience a_p1_since t_many t_weaver t_second t_knew p1_since) (wd_Sightings_areBorneBy E a_t a_t_weaver a_t_second a_t_knew a_p1 a_p1_toldBy a_p1_audience a_p1_since t_many t_weaver t_second t_knew p1_since) sz [.ref a_t, .ref a_p1] (some (.int ures)) := by
  refine m_ofZ (by decide) (Nat.le_of_ble_eq_true rfl) ?_
  intro p e s m args below meth c A Q ls X hW hA hl hret
  obtain ⟨hx, hb, -, hown, hts, hK, -, hG⟩ := id X
  have hl : lv_has ls 5 [(0, .ref a_t), (1, .ref a_p1)] := hl
  unfold F_Sightings_areBorneBy at hF
  refine lv_iconst (v := (0 : Int32)) hx hb dX8_areBorneBy_0 (by decide) ?_
  refine lv_istore_n (lv' := [(2, .int (0 : Int32)), (0, .ref a_t), (1, .ref a_p1)]) hx hb dX8_areBorneBy_1 rfl hl (by decide) rfl (fun ls hl => ?_)
  obtain ⟨out6, hX2, hr5, hF⟩ := bT_s0 hF
  have L1 : ∀ (k0 : Nat) (x2 : Int32) (out8 : (Int32) ⊕ Unit)  (H : Heap) (locs : List Loc) (ls : Array Slot), Sightings_areBorneBy_L2 t_many t_weaver p1_since t_second t_knew k0 x2 = some out8 → m_H E A (wd_Sightings_areBorneBy E a_t a_t_weaver a_t_second a_t_knew a_p1 a_p1_toldBy a_p1_audience a_p1_since t_many t_weaver t_second t_knew p1_since) s.heap H locs → lv_has ls 5 [(2, .int x2), (0, .ref a_t), (1, .ref a_p1)] → (∀ a, out8 = .inl a → a = ures) → (∀  (H : Heap) (locs : List Loc) (ls : Array Slot), out8 = .inr () → m_H E A (wd_Sightings_areBorneBy E a_t a_t_weaver a_t_second a_t_knew a_p1 a_p1_toldBy a_p1_audience a_p1_since t_many t_weaver t_second t_knew p1_since) s.heap H locs → lv_has ls 5 [] → W p l e rm_Sightings_areBorneBy s m args below meth c H locs 0 0 Q (F0 m 66 ls [])) → W p l e rm_Sightings_areBorneBy s m args below meth c H locs 0 0 Q (F0 m 2 ls []) := by
    clear hF
    intro k0
    induction k0 with
    | zero =>
      intro x2 out8 H locs ls hF
      cases hF
    | succ k0 ih4 =>
      intro x2 out8 H locs ls hF hW hl hr7 hk3
      rw [Sightings_areBorneBy_L2] at hF
      refine lv_iload_n hx hb dX8_areBorneBy_2 rfl (lv_at hl 0 rfl) ?_
      refine lv_aload_n hx hb dX8_areBorneBy_3 rfl (lv_at hl 1 rfl) ?_
      refine m_get X hW fdX8_21 0 rfl rfl dX8_areBorneBy_4 ?_
      refine lv_icmp_ge (tgt := 66) hx hb dX8_areBorneBy_7 (by decide) (fun c9 => ?_) (fun c9 => ?_)
      · have hF := if_y c9 hF
        exact hk3  _ _ _ (Option.some.inj hF).symm hW (lv_sub hl [] rfl)
      · have hF := if_n c9 hF
        refine lv_aload_n hx hb dX8_areBorneBy_10 rfl (lv_at hl 2 rfl) ?_
        refine m_get X hW fdX8_41 4 rfl rfl dX8_areBorneBy_11 ?_
        refine lv_aload_n hx hb dX8_areBorneBy_14 rfl (lv_at hl 1 rfl) ?_
        refine m_get X hW fdX8_11 0 rfl rfl dX8_areBorneBy_15 ?_
        refine lv_iload_n hx hb dX8_areBorneBy_18 rfl (lv_at hl 0 rfl) ?_
        obtain ⟨g10, hF⟩ := gd_some hF
        refine m_iald X hW 1 (k := x2.toNatClampNeg) rfl g10 rfl dX8_areBorneBy_19 ?_
        obtain ⟨g11, hF⟩ := gd_some hF
        refine m_iald X hW 5 (k := (t_weaver x2.toNatClampNeg).toNatClampNeg) rfl g11 rfl dX8_areBorneBy_20 ?_
        refine lv_istore_n (lv' := [(3, .int (p1_since (t_weaver x2.toNatClampNeg).toNatClampNeg)), (2, .int x2), (0, .ref a_t), (1, .ref a_p1)]) hx hb dX8_areBorneBy_21 rfl hl (by decide) rfl (fun ls hl => ?_)
        refine lv_iload_n hx hb dX8_areBorneBy_22 rfl (lv_at hl 0 rfl) ?_
        refine lv_iconst (v := (-1 : Int32)) hx hb dX8_areBorneBy_23 (by decide) ?_
        obtain ⟨y0, hX13, hF⟩ := bO_s1 hF
        have J12 : ∀ (H : Heap) (locs : List Loc) (ls : Array Slot), m_H E A (wd_Sightings_areBorneBy E a_t a_t_weaver a_t_second a_t_knew a_p1 a_p1_toldBy a_p1_audience a_p1_since t_many t_weaver t_second t_knew p1_since) s.heap H locs → lv_has ls 5 [(2, .int x2), (0, .ref a_t), (1, .ref a_p1)] → W p l e rm_Sightings_areBorneBy s m args below meth c H locs 0 0 Q (F0 m 42 ls [.int y0]) := by
          intro H locs ls hW hl
          refine lv_istore (lv' := [(4, .int y0), (2, .int x2), (0, .ref a_t), (1, .ref a_p1)]) hx hb dX8_areBorneBy_42 hl (by decide) rfl (fun ls hl => ?_)
          refine lv_iload hx hb dX8_areBorneBy_44 (lv_at hl 0 rfl) ?_
          refine m_callN X hW hA hl.1 lkX8_37 (c_S_oneIf l E _ N   y0 (F_S_oneIf y0) rfl) ([]) (by decide) rfl rfl (ws' := (wd_Sightings_areBorneBy E a_t a_t_weaver a_t_second a_t_knew a_p1 a_p1_toldBy a_p1_audience a_p1_since t_many t_weaver t_second t_knew p1_since)) rfl (As := [.int y0]) (rest := []) rfl rfl ⟨rfl, rfl, Nat.le_of_ble_eq_true rfl, Nat.le_of_ble_eq_true rfl⟩ (Nat.le_of_ble_eq_true rfl) (Nat.zero_le _) (Nat.zero_le _) dX8_areBorneBy_46 (fun H locs hW => ?_)
          refine lv_aload_n hx hb dX8_areBorneBy_49 rfl (lv_at hl 2 rfl) ?_
          refine m_get X hW fdX8_18 0 rfl rfl dX8_areBorneBy_50 ?_
          refine lv_iload_n hx hb dX8_areBorneBy_53 rfl (lv_at hl 1 rfl) ?_
          refine m_iald X hW 3 (k := x2.toNatClampNeg) rfl g10 rfl dX8_areBorneBy_54 ?_
          refine lv_icmp_eq (tgt := 60) hx hb dX8_areBorneBy_55 (by decide) (fun c14 => ?_) (fun c14 => ?_)
          · have hF := if_y c14 hF
            refine lv_iinc (v := (x2 + (1 : Int32))) (lv' := [(2, .int (x2 + (1 : Int32))), (4, .int y0), (0, .ref a_t), (1, .ref a_p1)]) hx hb dX8_areBorneBy_60 hl (k := 1) rfl rfl (by decide) rfl (fun ls hl => ?_)
            refine lv_goto (tgt := 2) hx hb dX8_areBorneBy_63 (by decide) ?_
            exact ih4 (x2 + (1 : Int32)) out8 _ _ _ hF hW (lv_sub hl [0, 2, 3] rfl) hr7 hk3
          · have hF := if_n c14 hF
            refine lv_iconst (v := (0 : Int32)) hx hb dX8_areBorneBy_58 (by decide) ?_
            have hq := (Option.some.inj hF).symm
            have hq := hr7 _ hq
            subst hq
            exact hret _ _ _ _ _ rfl hW dX8_areBorneBy_59
        clear hF
        have hF := hX13
        clear hX13
        refine lv_icmp_eq (tgt := 41) hx hb dX8_areBorneBy_24 (by decide) (fun c15 => ?_) (fun c15 => ?_)
        · have hF := if_y c15 hF
          refine lv_iconst (v := (0 : Int32)) hx hb dX8_areBorneBy_41 (by decide) ?_
          cases hF
          exact J12 _ _ _ hW (lv_sub hl [1, 2, 3] rfl)
        · have hF := if_n c15 hF
          refine lv_iload_n hx hb dX8_areBorneBy_27 rfl (lv_at hl 0 rfl) ?_
          refine lv_aload_n hx hb dX8_areBorneBy_28 rfl (lv_at hl 2 rfl) ?_
          refine m_get X hW fdX8_15 0 rfl rfl dX8_areBorneBy_29 ?_
          refine lv_iload_n hx hb dX8_areBorneBy_32 rfl (lv_at hl 1 rfl) ?_
          refine m_iald X hW 2 (k := x2.toNatClampNeg) rfl g10 rfl dX8_areBorneBy_33 ?_
          refine lv_icmp_gt (tgt := 41) hx hb dX8_areBorneBy_34 (by decide) (fun c16 => ?_) (fun c16 => ?_)
          · have hF := if_y c16 hF
            refine lv_iconst (v := (0 : Int32)) hx hb dX8_areBorneBy_41 (by decide) ?_
            cases hF
            exact J12 _ _ _ hW (lv_sub hl [1, 2, 3] rfl)
          · have hF := if_n c16 hF
            refine lv_iconst (v := (1 : Int32)) hx hb dX8_areBorneBy_37 (by decide) ?_
            refine lv_goto (tgt := 42) hx hb dX8_areBorneBy_38 (by decide) ?_
            cases hF
            exact J12 _ _ _ hW (lv_sub hl [1, 2, 3] rfl)
  refine L1 N (0 : Int32) out6 _ _ _ hX2 hW (lv_sub hl [0, 1, 2] rfl) hr5 ?_
  intro  H locs ls ho hW hl
  have hF := hF  ho
  clear L1
  refine lv_iconst (v := (1 : Int32)) hx hb dX8_areBorneBy_66 (by decide) ?_
  have hq := Option.some.inj hF
  subst hq
  exact hret _ _ _ _ _ rfl hW dX8_areBorneBy_67
abbrev wd_S_source (E : m_E) (a_t : Nat) (a_t_draft : Nat) (a_t_firstImage : Nat) (a_t_secondImage : Nat) (a_t_otherNews : Nat) (a_t_readings : Nat) (a_t_chances : Nat) (a_t_turning : Nat) (a_t_text : Nat) (a_t_fraction : Nat) (a_t_now : Nat) (a_t_now_lexicon : Nat) (a_t_now_level : Nat) (a_t_now_loss : Nat) (a_t_now_floor : Nat) (a_t_now_floor_place : Nat) (a_t_now_floor_way : Nat) (a_t_now_floor_tell : Nat) (a_t_now_floor_look : Nat) (a_t_now_floor_farSquare : Nat) (a_t_now_sightings : Nat) (a_t_now_sightings_weaver : Nat) (a_t_now_sightings_second : Nat) (a_t_now_sightings_knew : Nat) (a_t_news : Nat) (a_t_news_since : Nat) (a_t_news_toldBy : Nat) (a_t_news_audience : Nat) (t_now_clearness : Int32) (t_now_isKept : Int32) (t_now_floor_pillars : Int64) (t_now_floor_weavers : Int32) (t_now_floor_place : Nat → Int32) (t_now_floor_way : Nat → Int32) (t_now_floor_tell : Nat → Int32) (t_now_floor_look : Nat → Int32) (t_now_floor_farSquare : Nat → Int32) (t_now_sightings_many : Int32) (t_now_sightings_weaver : Nat → Int32) (t_now_sightings_second : Nat → Int32) (t_now_sightings_knew : Nat → Int32) (t_news_since : Nat → Int32) (t_news_toldBy : Nat → Int32) (t_news_audience : Nat → Int32) : va_W := [(a_t, .inr (11, [.ref a_t_now, .ref a_t_draft, .ref a_t_firstImage, .ref a_t_secondImage, .ref a_t_news, .ref a_t_otherNews, .ref a_t_readings, .ref a_t_chances, .ref a_t_turning, .ref a_t_text, .ref a_t_fraction])), (a_t_now, .inr (7, [.ref a_t_now_floor, .ref a_t_now_sightings, .ref a_t_now_lexicon, .ref a_t_now_level, .ref a_t_now_loss, .int t_now_clearness, .int t_now_isKept])), (a_t_now_floor, .inr (1, [.long t_now_floor_pillars, .int t_now_floor_weavers, .ref a_t_now_floor_place, .ref a_t_now_floor_way, .ref a_t_now_floor_tell, .ref a_t_now_floor_look, .ref a_t_now_floor_farSquare])), (a_t_now_floor_place, .inl (E.2.1 0, 8, .inl t_now_floor_place)), (a_t_now_floor_way, .inl (E.2.1 0, 8, .inl t_now_floor_way)), (a_t_now_floor_tell, .inl (E.2.1 0, 8, .inl t_now_floor_tell)), (a_t_now_floor_look, .inl (E.2.1 0, 8, .inl t_now_floor_look)), (a_t_now_floor_farSquare, .inl (E.2.1 0, 2, .inl t_now_floor_farSquare)), (a_t_now_sightings, .inr (8, [.int t_now_sightings_many, .ref a_t_now_sightings_weaver, .ref a_t_now_sightings_second, .ref a_t_now_sightings_knew])), (a_t_now_sightings_weaver, .inl (E.2.1 0, 10, .inl t_now_sightings_weaver)), (a_t_now_sightings_second, .inl (E.2.1 0, 10, .inl t_now_sightings_second)), (a_t_now_sightings_knew, .inl (E.2.1 0, 10, .inl t_now_sightings_knew)), (a_t_news, .inr (5, [.ref a_t_news_since, .ref a_t_news_toldBy, .ref a_t_news_audience])), (a_t_news_since, .inl (E.2.1 0, 8, .inl t_news_since)), (a_t_news_toldBy, .inl (E.2.1 0, 8, .inl t_news_toldBy)), (a_t_news_audience, .inl (E.2.1 0, 8, .inl t_news_audience))]
def rm_S_source : Room := { frames := 6, cells := 0, slots := 0, locals := 153 }
set_option maxHeartbeats 4000000 in
set_option maxRecDepth 100000 in
theorem c_S_source (l : Launch) (E : m_E) (sz N : Nat) (a_t : Nat) (a_t_draft : Nat) (a_t_firstImage : Nat) (a_t_secondImage : Nat) (a_t_otherNews : Nat) (a_t_readings : Nat) (a_t_chances : Nat) (a_t_turning : Nat) (a_t_text : Nat) (a_t_fraction : Nat) (a_t_now : Nat) (a_t_now_lexicon : Nat) (a_t_now_level : Nat) (a_t_now_loss : Nat) (a_t_now_floor : Nat) (a_t_now_floor_place : Nat) (a_t_now_floor_way : Nat) (a_t_now_floor_tell : Nat) (a_t_now_floor_look : Nat) (a_t_now_floor_farSquare : Nat) (a_t_now_sightings : Nat) (a_t_now_sightings_weaver : Nat) (a_t_now_sightings_second : Nat) (a_t_now_sightings_knew : Nat) (a_t_news : Nat) (a_t_news_since : Nat) (a_t_news_toldBy : Nat) (a_t_news_audience : Nat) (t_now_clearness : Int32) (t_now_isKept : Int32) (t_now_floor_pillars : Int64) (t_now_floor_weavers : Int32) (t_now_floor_place : Nat → Int32) (t_now_floor_way : Nat → Int32) (t_now_floor_tell : Nat → Int32) (t_now_floor_look : Nat → Int32) (t_now_floor_farSquare : Nat → Int32) (t_now_sightings_many : Int32) (t_now_sightings_weaver : Nat → Int32) (t_now_sightings_second : Nat → Int32) (t_now_sightings_knew : Nat → Int32) (t_news_since : Nat → Int32) (t_news_toldBy : Nat → Int32) (t_news_audience : Nat → Int32)  (ures : Int32 × (Nat → Int32) × (Nat → Int32) × (Nat → Int32)) (hF : F_S_source N t_now_floor_pillars t_now_floor_weavers t_now_floor_place t_now_floor_way t_now_floor_tell t_now_floor_look t_now_floor_farSquare t_now_sightings_many t_now_sightings_weaver t_now_sightings_second t_now_sightings_knew t_news_since t_news_toldBy t_news_audience = some ures) : m_Met l yX11_source cX11_source 3 (some .int) rm_S_source E (wd_S_source E a_t a_t_draft a_t_firstImage a_t_secondImage a_t_otherNews a_t_readings a_t_chances a_t_turning a_t_text a_t_fraction a_t_now a_t_now_lexicon a_t_now_level a_t_now_loss a_t_now_floor a_t_now_floor_place a_t_now_floor_way a_t_now_floor_tell a_t_now_floor_look a_t_now_floor_farSquare a_t_now_sightings a_t_now_sightings_weaver a_t_now_sightings_second a_t_now_sightings_knew a_t_news a_t_news_since a_t_news_toldBy a_t_news_audience t_now_clearness t_now_isKept t_now_floor_pillars t_now_floor_weavers t_now_floor_place t_now_floor_way t_now_floor_tell t_now_floor_look t_now_floor_farSquare t_now_sightings_many t_now_sightings_weaver t_now_sightings_second t_now_sightings_knew t_news_since t_news_toldBy t_news_audience) (wd_S_source E a_t a_t_draft a_t_firstImage a_t_secondImage a_t_otherNews a_t_readings a_t_chances a_t_turning a_t_text a_t_fraction a_t_now a_t_now_lexicon a_t_now_level a_t_now_loss a_t_now_floor a_t_now_floor_place a_t_now_floor_way a_t_now_floor_tell a_t_now_floor_look a_t_now_floor_farSquare a_t_now_sightings a_t_now_sightings_weaver a_t_now_sightings_second a_t_now_sightings_knew a_t_news a_t_news_since a_t_news_toldBy a_t_news_audience t_now_clearness t_now_isKept t_now_floor_pillars t_now_floor_weavers t_now_floor_place t_now_floor_way t_now_floor_tell t_now_floor_look t_now_floor_farSquare t_now_sightings_many t_now_sightings_weaver t_now_sightings_second t_now_sightings_knew ures.2.1 ures.2.2.1 ures.2.2.2) sz [.ref a_t] (some (.int ures.1)) := by
  refine m_ofI (by decide) (Nat.le_of_ble_eq_true rfl) ?_
  intro p e s m args below meth c A Q ls X hW hA hl hret
  obtain ⟨hx, hb, -, hown, hts, hK, -, hG⟩ := id X
  have hl : lv_has ls 3 [(0, .ref a_t)] := hl
  unfold F_S_source at hF
  refine lv_iconst (v := (0 : Int32)) hx hb dX11_source_0 (by decide) ?_
  refine lv_istore_n (lv' := [(1, .int (0 : Int32)), (0, .ref a_t)]) hx hb dX11_source_1 rfl hl (by decide) rfl (fun ls hl => ?_)
  refine lv_iconst (v := (0 : Int32)) hx hb dX11_source_2 (by decide) ?_
  refine lv_istore_n (lv' := [(2, .int (0 : Int32)), (1, .int (0 : Int32)), (0, .ref a_t)]) hx hb dX11_source_3 rfl hl (by decide) rfl (fun ls hl => ?_)
  obtain ⟨x1_2, t_news_since'_6, t_news_toldBy'_6, t_news_audience'_6, hX2, hF⟩ := bO_s4 hF
  have L1 : ∀ (k0 : Nat) (x1 : Int32) (x2 : Int32) (t_news_since'_4 : Nat → Int32) (t_news_toldBy'_4 : Nat → Int32) (t_news_audience'_4 : Nat → Int32) (x1_2 : Int32) (t_news_since'_6 : Nat → Int32) (t_news_toldBy'_6 : Nat → Int32) (t_news_audience'_6 : Nat → Int32) (H : Heap) (locs : List Loc) (ls : Array Slot), S_source_L4 N t_now_floor_weavers t_now_floor_pillars t_now_floor_place t_now_floor_way t_now_floor_tell t_now_floor_look t_now_floor_farSquare t_now_sightings_many t_now_sightings_weaver t_now_sightings_second t_now_sightings_knew k0 x1 x2 t_news_since'_4 t_news_toldBy'_4 t_news_audience'_4 = some (x1_2, t_news_since'_6, t_news_toldBy'_6, t_news_audience'_6) → m_H E A (wd_S_source E a_t a_t_draft a_t_firstImage a_t_secondImage a_t_otherNews a_t_readings a_t_chances a_t_turning a_t_text a_t_fraction a_t_now a_t_now_lexicon a_t_now_level a_t_now_loss a_t_now_floor a_t_now_floor_place a_t_now_floor_way a_t_now_floor_tell a_t_now_floor_look a_t_now_floor_farSquare a_t_now_sightings a_t_now_sightings_weaver a_t_now_sightings_second a_t_now_sightings_knew a_t_news a_t_news_since a_t_news_toldBy a_t_news_audience t_now_clearness t_now_isKept t_now_floor_pillars t_now_floor_weavers t_now_floor_place t_now_floor_way t_now_floor_tell t_now_floor_look t_now_floor_farSquare t_now_sightings_many t_now_sightings_weaver t_now_sightings_second t_now_sightings_knew t_news_since'_4 t_news_toldBy'_4 t_news_audience'_4) s.heap H locs → lv_has ls 3 [(2, .int x2), (1, .int x1), (0, .ref a_t)] → (∀ (H : Heap) (locs : List Loc) (ls : Array Slot), m_H E A (wd_S_source E a_t a_t_draft a_t_firstImage a_t_secondImage a_t_otherNews a_t_readings a_t_chances a_t_turning a_t_text a_t_fraction a_t_now a_t_now_lexicon a_t_now_level a_t_now_loss a_t_now_floor a_t_now_floor_place a_t_now_floor_way a_t_now_floor_tell a_t_now_floor_look a_t_now_floor_farSquare a_t_now_sightings a_t_now_sightings_weaver a_t_now_sightings_second a_t_now_sightings_knew a_t_news a_t_news_since a_t_news_toldBy a_t_news_audience t_now_clearness t_now_isKept t_now_floor_pillars t_now_floor_weavers t_now_floor_place t_now_floor_way t_now_floor_tell t_now_floor_look t_now_floor_farSquare t_now_sightings_many t_now_sightings_weaver t_now_sightings_second t_now_sightings_knew t_news_since'_6 t_news_toldBy'_6 t_news_audience'_6) s.heap H locs → lv_has ls 3 [(1, .int x1_2)] → W p l e rm_S_source s m args below meth c H locs 0 0 Q (F0 m 65 ls [])) → W p l e rm_S_source s m args below meth c H locs 0 0 Q (F0 m 4 ls []) := by
    clear hF
    intro k0
    induction k0 with
    | zero =>
      intro x1 x2 t_news_since'_4 t_news_toldBy'_4 t_news_audience'_4 x1_2 t_news_since'_6 t_news_toldBy'_6 t_news_audience'_6 H locs ls hF
      cases hF
    | succ k0 ih4 =>
      intro x1 x2 t_news_since'_4 t_news_toldBy'_4 t_news_audience'_4 x1_2 t_news_since'_6 t_news_toldBy'_6 t_news_audience'_6 H locs ls hF hW hl hk3
      rw [S_source_L4] at hF
      refine lv_iload_n hx hb dX11_source_4 rfl (lv_at hl 0 rfl) ?_
      refine lv_aload_n hx hb dX11_source_5 rfl (lv_at hl 2 rfl) ?_
      refine m_get X hW fdX11_10 0 rfl rfl dX11_source_6 ?_
      refine m_get X hW fdX11_70 1 rfl rfl dX11_source_9 ?_
      refine m_get X hW fdX11_144 2 rfl rfl dX11_source_12 ?_
      refine lv_icmp_ge (tgt := 65) hx hb dX11_source_15 (by decide) (fun c5 => ?_) (fun c5 => ?_)
      · have hF := if_y c5 hF
        cases hF
        exact hk3 _ _ _ hW (lv_sub hl [1] rfl)
      · have hF := if_n c5 hF
        refine lv_aload_n hx hb dX11_source_18 rfl (lv_at hl 2 rfl) ?_
        refine m_get X hW fdX11_28 0 rfl rfl dX11_source_19 ?_
        refine lv_aload_n hx hb dX11_source_22 rfl (lv_at hl 2 rfl) ?_
        refine m_get X hW fdX11_10 0 rfl rfl dX11_source_23 ?_
        refine m_get X hW fdX11_70 1 rfl rfl dX11_source_26 ?_
        refine lv_iload_n hx hb dX11_source_29 rfl (lv_at hl 0 rfl) ?_
        refine lv_iconst (v := (0 : Int32)) hx hb dX11_source_30 (by decide) ?_
        refine lv_iconst (v := (0 : Int32)) hx hb dX11_source_31 (by decide) ?_
        refine lv_iconst (v := (-1 : Int32)) hx hb dX11_source_32 (by decide) ?_
        obtain ⟨t_news_since'_5, t_news_toldBy'_5, t_news_audience'_5, hC6, hF⟩ := bO_s3 hF
        refine m_callV X hW hA hl.1 lkX11_116 (c_News_spread l E _ N a_t_news a_t_news_since a_t_news_toldBy a_t_news_audience a_t_now_floor a_t_now_floor_place a_t_now_floor_way a_t_now_floor_tell a_t_now_floor_look a_t_now_floor_farSquare t_news_since'_4 t_news_toldBy'_4 t_news_audience'_4 t_now_floor_pillars t_now_floor_weavers t_now_floor_place t_now_floor_way t_now_floor_tell t_now_floor_look t_now_floor_farSquare x2 (0 : Int32) (0 : Int32) (-1 : Int32) (t_news_since'_5, t_news_toldBy'_5, t_news_audience'_5) hC6) ([12, 13, 14, 15, 2, 3, 4, 5, 6, 7]) (by decide) rfl rfl (ws' := (wd_S_source E a_t a_t_draft a_t_firstImage a_t_secondImage a_t_otherNews a_t_readings a_t_chances a_t_turning a_t_text a_t_fraction a_t_now a_t_now_lexicon a_t_now_level a_t_now_loss a_t_now_floor a_t_now_floor_place a_t_now_floor_way a_t_now_floor_tell a_t_now_floor_look a_t_now_floor_farSquare a_t_now_sightings a_t_now_sightings_weaver a_t_now_sightings_second a_t_now_sightings_knew a_t_news a_t_news_since a_t_news_toldBy a_t_news_audience t_now_clearness t_now_isKept t_now_floor_pillars t_now_floor_weavers t_now_floor_place t_now_floor_way t_now_floor_tell t_now_floor_look t_now_floor_farSquare t_now_sightings_many t_now_sightings_weaver t_now_sightings_second t_now_sightings_knew t_news_since'_5 t_news_toldBy'_5 t_news_audience'_5)) (m_putS [none, none, some 4, some 5, some 6, some 7, some 8, some 9, none, none, none, none, some 0, some 1, some 2, some 3] (by decide +kernel) (by rfl) (by decide +kernel) (by rfl) (by rfl)) 12 rfl rfl rfl (As := [.ref a_t_now_floor, .int x2, .int (0 : Int32), .int (0 : Int32), .int (-1 : Int32)]) (rest := []) rfl rfl ⟨rfl, rfl, Nat.le_of_ble_eq_true rfl, Nat.le_of_ble_eq_true rfl⟩ (Nat.le_of_ble_eq_true rfl) (Nat.zero_le _) (Nat.zero_le _) dX11_source_33 (fun H locs hW => ?_)
        clear hC6
        refine lv_aload_n hx hb dX11_source_36 rfl (lv_at hl 2 rfl) ?_
        refine m_get X hW fdX11_10 0 rfl rfl dX11_source_37 ?_
        refine m_get X hW fdX11_134 1 rfl rfl dX11_source_40 ?_
        refine lv_aload_n hx hb dX11_source_43 rfl (lv_at hl 2 rfl) ?_
        refine m_get X hW fdX11_28 0 rfl rfl dX11_source_44 ?_
        obtain ⟨r47, hC7, hF⟩ := bO_s1 hF
        refine m_callV X hW hA hl.1 lkX11_148 (c_Sightings_areBorneBy l E _ N a_t_now_sightings a_t_now_sightings_weaver a_t_now_sightings_second a_t_now_sightings_knew a_t_news a_t_news_toldBy a_t_news_audience a_t_news_since t_now_sightings_many t_now_sightings_weaver t_now_sightings_second t_now_sightings_knew t_news_since'_5  r47 hC7) ([8, 9, 10, 11, 12, 13]) (by decide) rfl rfl (ws' := (wd_S_source E a_t a_t_draft a_t_firstImage a_t_secondImage a_t_otherNews a_t_readings a_t_chances a_t_turning a_t_text a_t_fraction a_t_now a_t_now_lexicon a_t_now_level a_t_now_loss a_t_now_floor a_t_now_floor_place a_t_now_floor_way a_t_now_floor_tell a_t_now_floor_look a_t_now_floor_farSquare a_t_now_sightings a_t_now_sightings_weaver a_t_now_sightings_second a_t_now_sightings_knew a_t_news a_t_news_since a_t_news_toldBy a_t_news_audience t_now_clearness t_now_isKept t_now_floor_pillars t_now_floor_weavers t_now_floor_place t_now_floor_way t_now_floor_tell t_now_floor_look t_now_floor_farSquare t_now_sightings_many t_now_sightings_weaver t_now_sightings_second t_now_sightings_knew t_news_since'_5 t_news_toldBy'_5 t_news_audience'_5)) rfl 8 rfl rfl rfl (As := [.ref a_t_news]) (rest := []) rfl rfl ⟨rfl, rfl, Nat.le_of_ble_eq_true rfl, Nat.le_of_ble_eq_true rfl⟩ (Nat.le_of_ble_eq_true rfl) (Nat.zero_le _) (Nat.zero_le _) dX11_source_47 (fun H locs hW => ?_)
        clear hC7
        refine lv_if_eq (tgt := 59) hx hb dX11_source_50 (by decide) (fun c8 => ?_) (fun c8 => ?_)
        · have hF := if_y c8 hF
          refine lv_iinc (v := (x2 + (1 : Int32))) (lv' := [(2, .int (x2 + (1 : Int32))), (1, .int x1), (0, .ref a_t)]) hx hb dX11_source_59 hl (k := 0) rfl rfl (by decide) rfl (fun ls hl => ?_)
          refine lv_goto (tgt := 4) hx hb dX11_source_62 (by decide) ?_
          exact ih4 x1 (x2 + (1 : Int32)) t_news_since'_5 t_news_toldBy'_5 t_news_audience'_5 x1_2 t_news_since'_6 t_news_toldBy'_6 t_news_audience'_6 _ _ _ hF hW (lv_sub hl [0, 1, 2] rfl) hk3
        · have hF := if_n c8 hF
          refine lv_iload_n hx hb dX11_source_53 rfl (lv_at hl 1 rfl) ?_
          refine lv_iconst (v := (1 : Int32)) hx hb dX11_source_54 (by decide) ?_
          refine lv_iload_n hx hb dX11_source_55 rfl (lv_at hl 0 rfl) ?_
          refine m_ishl hx hb dX11_source_56 ?_
          refine lv_ior hx hb dX11_source_57 ?_
          refine lv_istore_n (lv' := [(1, .int (x1 ||| (jshl (1 : Int32) x2))), (2, .int x2), (0, .ref a_t)]) hx hb dX11_source_58 rfl hl (by decide) rfl (fun ls hl => ?_)
          refine lv_iinc (v := (x2 + (1 : Int32))) (lv' := [(2, .int (x2 + (1 : Int32))), (1, .int (x1 ||| (jshl (1 : Int32) x2))), (0, .ref a_t)]) hx hb dX11_source_59 hl (k := 1) rfl rfl (by decide) rfl (fun ls hl => ?_)
          refine lv_goto (tgt := 4) hx hb dX11_source_62 (by decide) ?_
          exact ih4 (x1 ||| (jshl (1 : Int32) x2)) (x2 + (1 : Int32)) t_news_since'_5 t_news_toldBy'_5 t_news_audience'_5 x1_2 t_news_since'_6 t_news_toldBy'_6 t_news_audience'_6 _ _ _ hF hW (lv_sub hl [0, 1, 2] rfl) hk3
  refine L1 N (0 : Int32) (0 : Int32) t_news_since t_news_toldBy t_news_audience x1_2 t_news_since'_6 t_news_toldBy'_6 t_news_audience'_6 _ _ _ hX2 hW (lv_sub hl [0, 1, 2] rfl) ?_
  intro H locs ls hW hl
  clear L1
  refine lv_iload_n hx hb dX11_source_65 rfl (lv_at hl 0 rfl) ?_
  have hq := Option.some.inj hF
  subst hq
  exact hret _ _ _ _ hW dX11_source_66
abbrev wd_News_isReached (E : m_E) (a_t : Nat) (a_t_since : Nat) (a_t_toldBy : Nat) (a_t_audience : Nat) (a_p1 : Nat) (a_p1_place : Nat) (a_p1_way : Nat) (a_p1_tell : Nat) (a_p1_look : Nat) (a_p1_farSquare : Nat) (t_audience : Nat → Int32) (p1_pillars : Int64) (p1_weavers : Int32) : va_W := [(a_t, .inr (5, [.ref a_t_since, .ref a_t_toldBy, .ref a_t_audience])), (a_t_audience, .inl (E.2.1 0, 8, .inl t_audience)), (a_p1, .inr (1, [.long p1_pillars, .int p1_weavers, .ref a_p1_place, .ref a_p1_way, .ref a_p1_tell, .ref a_p1_look, .ref a_p1_farSquare]))]
def rm_News_isReached : Room := { frames := 1, cells := 0, slots := 0, locals := 21 }
set_option maxHeartbeats 4000000 in
set_option maxRecDepth 100000 in
theorem c_News_isReached (l : Launch) (E : m_E) (sz N : Nat) (a_t : Nat) (a_t_since : Nat) (a_t_toldBy : Nat) (a_t_audience : Nat) (a_p1 : Nat) (a_p1_place : Nat) (a_p1_way : Nat) (a_p1_tell : Nat) (a_p1_look : Nat) (a_p1_farSquare : Nat) (t_audience : Nat → Int32) (p1_pillars : Int64) (p1_weavers : Int32) (p2 : Int32) (p3 : Int32) (p4 : Int32) (ures : Int32) (hF : F_News_isReached N p2 p3 p4 t_audience p1_weavers = some ures) : m_Met l yX5_isReached cX5_isReached 8 (some .boolean) rm_News_isReached E (wd_News_isReached E a_t a_t_since a_t_toldBy a_t_audience a_p1 a_p1_place a_p1_way a_p1_tell a_p1_look a_p1_farSquare t_audience p1_pillars p1_weavers) (wd_News_isReached E a_t a_t_since a_t_toldBy a_t_audience a_p1 a_p1_place a_p1_way a_p1_tell a_p1_look a_p1_farSquare t_audience p1_pillars p1_weavers) sz [.ref a_t, .ref a_p1, .int p2, .int p3, .int p4] (some (.int ures)) := by
  refine m_ofZ (by decide) (Nat.le_of_ble_eq_true rfl) ?_
  intro p e s m args below meth c A Q ls X hW hA hl hret
  obtain ⟨hx, hb, -, hown, hts, hK, -, hG⟩ := id X
  have hl : lv_has ls 8 [(0, .ref a_t), (1, .ref a_p1), (2, .int p2), (3, .int p3), (4, .int p4)] := hl
  unfold F_News_isReached at hF
  refine lv_iconst (v := (1 : Int32)) hx hb dX5_isReached_0 (by decide) ?_
  refine lv_iload_n hx hb dX5_isReached_1 rfl (lv_at hl 2 rfl) ?_
  refine m_ishl hx hb dX5_isReached_2 ?_
  refine lv_istore (lv' := [(5, .int (jshl (1 : Int32) p2)), (0, .ref a_t), (1, .ref a_p1), (2, .int p2), (3, .int p3), (4, .int p4)]) hx hb dX5_isReached_3 hl (by decide) rfl (fun ls hl => ?_)
  refine lv_iconst (v := (0 : Int32)) hx hb dX5_isReached_5 (by decide) ?_
  refine lv_istore (lv' := [(6, .int (0 : Int32)), (5, .int (jshl (1 : Int32) p2)), (0, .ref a_t), (1, .ref a_p1), (2, .int p2), (3, .int p3), (4, .int p4)]) hx hb dX5_isReached_6 hl (by decide) rfl (fun ls hl => ?_)
  obtain ⟨x5_4, hX2, hF⟩ := bO_s1 hF
  have L1 : ∀ (k0 : Nat) (x5 : Int32) (x6 : Int32) (x5_4 : Int32) (H : Heap) (locs : List Loc) (ls : Array Slot), News_isReached_L8 N p1_weavers t_audience p4 k0 x5 x6 = some x5_4 → m_H E A (wd_News_isReached E a_t a_t_since a_t_toldBy a_t_audience a_p1 a_p1_place a_p1_way a_p1_tell a_p1_look a_p1_farSquare t_audience p1_pillars p1_weavers) s.heap H locs → lv_has ls 8 [(6, .int x6), (5, .int x5), (0, .ref a_t), (1, .ref a_p1), (3, .int p3), (4, .int p4)] → (∀ (H : Heap) (locs : List Loc) (ls : Array Slot), m_H E A (wd_News_isReached E a_t a_t_since a_t_toldBy a_t_audience a_p1 a_p1_place a_p1_way a_p1_tell a_p1_look a_p1_farSquare t_audience p1_pillars p1_weavers) s.heap H locs → lv_has ls 8 [(5, .int x5_4), (3, .int p3)] → W p l e rm_News_isReached s m args below meth c H locs 0 0 Q (F0 m 68 ls [])) → W p l e rm_News_isReached s m args below meth c H locs 0 0 Q (F0 m 8 ls []) := by
    clear hF
    intro k0
    induction k0 with
    | zero =>
      intro x5 x6 x5_4 H locs ls hF
      cases hF
    | succ k0 ih4 =>
      intro x5 x6 x5_4 H locs ls hF hW hl hk3
      rw [News_isReached_L8] at hF
      refine lv_iload hx hb dX5_isReached_8 (lv_at hl 0 rfl) ?_
      refine lv_aload_n hx hb dX5_isReached_10 rfl (lv_at hl 3 rfl) ?_
      refine m_get X hW fdX5_31 2 rfl rfl dX5_isReached_11 ?_
      refine lv_icmp_ge (tgt := 68) hx hb dX5_isReached_14 (by decide) (fun c5 => ?_) (fun c5 => ?_)
      · have hF := if_y c5 hF
        cases hF
        exact hk3 _ _ _ hW (lv_sub hl [1, 4] rfl)
      · have hF := if_n c5 hF
        refine lv_iconst (v := (0 : Int32)) hx hb dX5_isReached_17 (by decide) ?_
        refine lv_istore (lv' := [(7, .int (0 : Int32)), (6, .int x6), (5, .int x5), (0, .ref a_t), (1, .ref a_p1), (3, .int p3), (4, .int p4)]) hx hb dX5_isReached_18 hl (by decide) rfl (fun ls hl => ?_)
        obtain ⟨x5_3, hX7, hF⟩ := bO_s1 hF
        have L6 : ∀ (k0 : Nat) (x5_2 : Int32) (x7 : Int32) (x5_3 : Int32) (H : Heap) (locs : List Loc) (ls : Array Slot), News_isReached_L20 p1_weavers t_audience p4 k0 x5_2 x7 = some x5_3 → m_H E A (wd_News_isReached E a_t a_t_since a_t_toldBy a_t_audience a_p1 a_p1_place a_p1_way a_p1_tell a_p1_look a_p1_farSquare t_audience p1_pillars p1_weavers) s.heap H locs → lv_has ls 8 [(7, .int x7), (6, .int x6), (5, .int x5_2), (0, .ref a_t), (1, .ref a_p1), (3, .int p3), (4, .int p4)] → (∀ (H : Heap) (locs : List Loc) (ls : Array Slot), m_H E A (wd_News_isReached E a_t a_t_since a_t_toldBy a_t_audience a_p1 a_p1_place a_p1_way a_p1_tell a_p1_look a_p1_farSquare t_audience p1_pillars p1_weavers) s.heap H locs → lv_has ls 8 [(6, .int x6), (5, .int x5_3), (0, .ref a_t), (1, .ref a_p1), (3, .int p3), (4, .int p4)] → W p l e rm_News_isReached s m args below meth c H locs 0 0 Q (F0 m 62 ls [])) → W p l e rm_News_isReached s m args below meth c H locs 0 0 Q (F0 m 20 ls []) := by
          clear hF
          intro k0
          induction k0 with
          | zero =>
            intro x5_2 x7 x5_3 H locs ls hF
            cases hF
          | succ k0 ih9 =>
            intro x5_2 x7 x5_3 H locs ls hF hW hl hk8
            rw [News_isReached_L20] at hF
            refine lv_iload hx hb dX5_isReached_20 (lv_at hl 0 rfl) ?_
            refine lv_aload_n hx hb dX5_isReached_22 rfl (lv_at hl 4 rfl) ?_
            refine m_get X hW fdX5_31 2 rfl rfl dX5_isReached_23 ?_
            refine lv_icmp_ge (tgt := 62) hx hb dX5_isReached_26 (by decide) (fun c10 => ?_) (fun c10 => ?_)
            · have hF := if_y c10 hF
              cases hF
              exact hk8 _ _ _ hW (lv_sub hl [1, 2, 3, 4, 5, 6] rfl)
            · have hF := if_n c10 hF
              refine lv_iload hx hb dX5_isReached_29 (lv_at hl 2 rfl) ?_
              refine lv_iload hx hb dX5_isReached_31 (lv_at hl 0 rfl) ?_
              refine m_callN X hW hA hl.1 lkX5_38 (c_S_hasBit l E _ N   x5_2 x7 (F_S_hasBit x5_2 x7) rfl) ([]) (by decide) rfl rfl (ws' := (wd_News_isReached E a_t a_t_since a_t_toldBy a_t_audience a_p1 a_p1_place a_p1_way a_p1_tell a_p1_look a_p1_farSquare t_audience p1_pillars p1_weavers)) rfl (As := [.int x5_2, .int x7]) (rest := []) rfl rfl ⟨rfl, rfl, Nat.le_of_ble_eq_true rfl, Nat.le_of_ble_eq_true rfl⟩ (Nat.le_of_ble_eq_true rfl) (Nat.zero_le _) (Nat.zero_le _) dX5_isReached_33 (fun H locs hW => ?_)
              refine lv_if_eq (tgt := 56) hx hb dX5_isReached_36 (by decide) (fun c11 => ?_) (fun c11 => ?_)
              · have hF := if_y c11 hF
                refine lv_iinc (v := (x7 + (1 : Int32))) (lv' := [(7, .int (x7 + (1 : Int32))), (6, .int x6), (5, .int x5_2), (0, .ref a_t), (1, .ref a_p1), (3, .int p3), (4, .int p4)]) hx hb dX5_isReached_56 hl (k := 0) rfl rfl (by decide) rfl (fun ls hl => ?_)
                refine lv_goto (tgt := 20) hx hb dX5_isReached_59 (by decide) ?_
                exact ih9 x5_2 (x7 + (1 : Int32)) x5_3 _ _ _ hF hW (lv_sub hl [0, 1, 2, 3, 4, 5, 6] rfl) hk8
              · have hF := if_n c11 hF
                refine lv_iload hx hb dX5_isReached_39 (lv_at hl 2 rfl) ?_
                refine lv_aload_n hx hb dX5_isReached_41 rfl (lv_at hl 3 rfl) ?_
                refine m_get X hW fdX5_20 0 rfl rfl dX5_isReached_42 ?_
                refine lv_iload hx hb dX5_isReached_45 (lv_at hl 0 rfl) ?_
                obtain ⟨g12, hF⟩ := gd_some hF
                refine m_iald X hW 1 (k := x7.toNatClampNeg) rfl g12 rfl dX5_isReached_47 ?_
                refine lv_iload hx hb dX5_isReached_48 (lv_at hl 6 rfl) ?_
                refine lv_iconst (v := (-1 : Int32)) hx hb dX5_isReached_50 (by decide) ?_
                refine lv_ixor hx hb dX5_isReached_51 ?_
                refine lv_iand hx hb dX5_isReached_52 ?_
                refine lv_ior hx hb dX5_isReached_53 ?_
                refine lv_istore (lv' := [(5, .int (x5_2 ||| ((t_audience x7.toNatClampNeg) &&& (p4 ^^^ (-1 : Int32))))), (7, .int x7), (6, .int x6), (0, .ref a_t), (1, .ref a_p1), (3, .int p3), (4, .int p4)]) hx hb dX5_isReached_54 hl (by decide) rfl (fun ls hl => ?_)
                refine lv_iinc (v := (x7 + (1 : Int32))) (lv' := [(7, .int (x7 + (1 : Int32))), (5, .int (x5_2 ||| ((t_audience x7.toNatClampNeg) &&& (p4 ^^^ (-1 : Int32))))), (6, .int x6), (0, .ref a_t), (1, .ref a_p1), (3, .int p3), (4, .int p4)]) hx hb dX5_isReached_56 hl (k := 1) rfl rfl (by decide) rfl (fun ls hl => ?_)
                refine lv_goto (tgt := 20) hx hb dX5_isReached_59 (by decide) ?_
                exact ih9 (x5_2 ||| ((t_audience x7.toNatClampNeg) &&& (p4 ^^^ (-1 : Int32)))) (x7 + (1 : Int32)) x5_3 _ _ _ hF hW (lv_sub hl [0, 2, 1, 3, 4, 5, 6] rfl) hk8
        refine L6 N x5 (0 : Int32) x5_3 _ _ _ hX7 hW (lv_sub hl [0, 1, 2, 3, 4, 5, 6] rfl) ?_
        intro H locs ls hW hl
        clear L6
        refine lv_iinc (v := (x6 + (1 : Int32))) (lv' := [(6, .int (x6 + (1 : Int32))), (5, .int x5_3), (0, .ref a_t), (1, .ref a_p1), (3, .int p3), (4, .int p4)]) hx hb dX5_isReached_62 hl (k := 0) rfl rfl (by decide) rfl (fun ls hl => ?_)
        refine lv_goto (tgt := 8) hx hb dX5_isReached_65 (by decide) ?_
        exact ih4 x5_3 (x6 + (1 : Int32)) x5_4 _ _ _ hF hW (lv_sub hl [0, 1, 2, 3, 4, 5] rfl) hk3
  refine L1 N (jshl (1 : Int32) p2) (0 : Int32) x5_4 _ _ _ hX2 hW (lv_sub hl [0, 1, 2, 3, 5, 6] rfl) ?_
  intro H locs ls hW hl
  clear L1
  refine lv_iload hx hb dX5_isReached_68 (lv_at hl 0 rfl) ?_
  refine lv_iload_n hx hb dX5_isReached_70 rfl (lv_at hl 1 rfl) ?_
  refine m_callN X hW hA hl.1 lkX5_38 (c_S_hasBit l E _ N   x5_4 p3 (F_S_hasBit x5_4 p3) rfl) ([]) (by decide) rfl rfl (ws' := (wd_News_isReached E a_t a_t_since a_t_toldBy a_t_audience a_p1 a_p1_place a_p1_way a_p1_tell a_p1_look a_p1_farSquare t_audience p1_pillars p1_weavers)) rfl (As := [.int x5_4, .int p3]) (rest := []) rfl rfl ⟨rfl, rfl, Nat.le_of_ble_eq_true rfl, Nat.le_of_ble_eq_true rfl⟩ (Nat.le_of_ble_eq_true rfl) (Nat.zero_le _) (Nat.zero_le _) dX5_isReached_71 (fun H locs hW => ?_)
  have hq := Option.some.inj hF
  subst hq
  exact hret _ _ _ _ _ rfl hW dX5_isReached_74
abbrev wd_Integer_bitCount (E : m_E)   : va_W := []
def rm_Integer_bitCount : Room := { frames := 0, cells := 0, slots := 0, locals := 0 }
set_option maxHeartbeats 4000000 in
set_option maxRecDepth 100000 in
theorem c_Integer_bitCount (l : Launch) (E : m_E) (sz N : Nat)   (p1 : Int32) (ures : Int32) (hF : F_Integer_bitCount p1 = ures) : m_Met l yJ6_bitCount_0f7a4 cJ6_bitCount_0f7a4 1 (some .int) rm_Integer_bitCount E (wd_Integer_bitCount E) (wd_Integer_bitCount E) sz [.int p1] (some (.int ures)) := by
  refine m_ofI (by decide) (Nat.le_of_ble_eq_true rfl) ?_
  intro p e s m args below meth c A Q ls X hW hA hl hret
  obtain ⟨hx, hb, -, hown, hts, hK, -, hG⟩ := id X
  have hl : lv_has ls 1 [(0, .int p1)] := hl
  unfold F_Integer_bitCount at hF
  refine lv_iload_n hx hb dJ6_bitCount_0f7a4_0 rfl (lv_at hl 0 rfl) ?_
  refine lv_iload_n hx hb dJ6_bitCount_0f7a4_1 rfl (lv_at hl 0 rfl) ?_
  refine lv_iconst (v := (1 : Int32)) hx hb dJ6_bitCount_0f7a4_2 (by decide) ?_
  refine m_iushr hx hb dJ6_bitCount_0f7a4_3 ?_
  refine lv_ldcw (v := (1431655765 : Int32)) hx hb hown (hts _ wk_575) dJ6_bitCount_0f7a4_4 ?_
  refine lv_iand hx hb dJ6_bitCount_0f7a4_7 ?_
  refine lv_isub hx hb dJ6_bitCount_0f7a4_8 ?_
  refine lv_istore_n (lv' := [(0, .int (p1 - ((jushr p1 (1 : Int32)) &&& (1431655765 : Int32))))]) hx hb dJ6_bitCount_0f7a4_9 rfl hl (by decide) rfl (fun ls hl => ?_)
  refine lv_iload_n hx hb dJ6_bitCount_0f7a4_10 rfl (lv_at hl 0 rfl) ?_
  refine lv_ldcw (v := (858993459 : Int32)) hx hb hown (hts _ wk_576) dJ6_bitCount_0f7a4_11 ?_
  refine lv_iand hx hb dJ6_bitCount_0f7a4_14 ?_
  refine lv_iload_n hx hb dJ6_bitCount_0f7a4_15 rfl (lv_at hl 0 rfl) ?_
  refine lv_iconst (v := (2 : Int32)) hx hb dJ6_bitCount_0f7a4_16 (by decide) ?_
  refine m_iushr hx hb dJ6_bitCount_0f7a4_17 ?_
  refine lv_ldcw (v := (858993459 : Int32)) hx hb hown (hts _ wk_576) dJ6_bitCount_0f7a4_18 ?_
  refine lv_iand hx hb dJ6_bitCount_0f7a4_21 ?_
  refine lv_iadd hx hb dJ6_bitCount_0f7a4_22 ?_
  refine lv_istore_n (lv' := [(0, .int (((p1 - ((jushr p1 (1 : Int32)) &&& (1431655765 : Int32))) &&& (858993459 : Int32)) + ((jushr (p1 - ((jushr p1 (1 : Int32)) &&& (1431655765 : Int32))) (2 : Int32)) &&& (858993459 : Int32))))]) hx hb dJ6_bitCount_0f7a4_23 rfl hl (by decide) rfl (fun ls hl => ?_)
  refine lv_iload_n hx hb dJ6_bitCount_0f7a4_24 rfl (lv_at hl 0 rfl) ?_
  refine lv_iload_n hx hb dJ6_bitCount_0f7a4_25 rfl (lv_at hl 0 rfl) ?_
  refine lv_iconst (v := (4 : Int32)) hx hb dJ6_bitCount_0f7a4_26 (by decide) ?_
  refine m_iushr hx hb dJ6_bitCount_0f7a4_27 ?_
  refine lv_iadd hx hb dJ6_bitCount_0f7a4_28 ?_
  refine lv_ldcw (v := (252645135 : Int32)) hx hb hown (hts _ wk_577) dJ6_bitCount_0f7a4_29 ?_
  refine lv_iand hx hb dJ6_bitCount_0f7a4_32 ?_
  refine lv_istore_n (lv' := [(0, .int (((((p1 - ((jushr p1 (1 : Int32)) &&& (1431655765 : Int32))) &&& (858993459 : Int32)) + ((jushr (p1 - ((jushr p1 (1 : Int32)) &&& (1431655765 : Int32))) (2 : Int32)) &&& (858993459 : Int32))) + (jushr (((p1 - ((jushr p1 (1 : Int32)) &&& (1431655765 : Int32))) &&& (858993459 : Int32)) + ((jushr (p1 - ((jushr p1 (1 : Int32)) &&& (1431655765 : Int32))) (2 : Int32)) &&& (858993459 : Int32))) (4 : Int32))) &&& (252645135 : Int32)))]) hx hb dJ6_bitCount_0f7a4_33 rfl hl (by decide) rfl (fun ls hl => ?_)
  refine lv_iload_n hx hb dJ6_bitCount_0f7a4_34 rfl (lv_at hl 0 rfl) ?_
  refine lv_iload_n hx hb dJ6_bitCount_0f7a4_35 rfl (lv_at hl 0 rfl) ?_
  refine lv_bipush (v := (8 : Int32)) hx hb dJ6_bitCount_0f7a4_36 (by decide) ?_
  refine m_iushr hx hb dJ6_bitCount_0f7a4_38 ?_
  refine lv_iadd hx hb dJ6_bitCount_0f7a4_39 ?_
  refine lv_istore_n (lv' := [(0, .int ((((((p1 - ((jushr p1 (1 : Int32)) &&& (1431655765 : Int32))) &&& (858993459 : Int32)) + ((jushr (p1 - ((jushr p1 (1 : Int32)) &&& (1431655765 : Int32))) (2 : Int32)) &&& (858993459 : Int32))) + (jushr (((p1 - ((jushr p1 (1 : Int32)) &&& (1431655765 : Int32))) &&& (858993459 : Int32)) + ((jushr (p1 - ((jushr p1 (1 : Int32)) &&& (1431655765 : Int32))) (2 : Int32)) &&& (858993459 : Int32))) (4 : Int32))) &&& (252645135 : Int32)) + (jushr (((((p1 - ((jushr p1 (1 : Int32)) &&& (1431655765 : Int32))) &&& (858993459 : Int32)) + ((jushr (p1 - ((jushr p1 (1 : Int32)) &&& (1431655765 : Int32))) (2 : Int32)) &&& (858993459 : Int32))) + (jushr (((p1 - ((jushr p1 (1 : Int32)) &&& (1431655765 : Int32))) &&& (858993459 : Int32)) + ((jushr (p1 - ((jushr p1 (1 : Int32)) &&& (1431655765 : Int32))) (2 : Int32)) &&& (858993459 : Int32))) (4 : Int32))) &&& (252645135 : Int32)) (8 : Int32))))]) hx hb dJ6_bitCount_0f7a4_40 rfl hl (by decide) rfl (fun ls hl => ?_)
  refine lv_iload_n hx hb dJ6_bitCount_0f7a4_41 rfl (lv_at hl 0 rfl) ?_
  refine lv_iload_n hx hb dJ6_bitCount_0f7a4_42 rfl (lv_at hl 0 rfl) ?_
  refine lv_bipush (v := (16 : Int32)) hx hb dJ6_bitCount_0f7a4_43 (by decide) ?_
  refine m_iushr hx hb dJ6_bitCount_0f7a4_45 ?_
  refine lv_iadd hx hb dJ6_bitCount_0f7a4_46 ?_
  refine lv_istore_n (lv' := [(0, .int (((((((p1 - ((jushr p1 (1 : Int32)) &&& (1431655765 : Int32))) &&& (858993459 : Int32)) + ((jushr (p1 - ((jushr p1 (1 : Int32)) &&& (1431655765 : Int32))) (2 : Int32)) &&& (858993459 : Int32))) + (jushr (((p1 - ((jushr p1 (1 : Int32)) &&& (1431655765 : Int32))) &&& (858993459 : Int32)) + ((jushr (p1 - ((jushr p1 (1 : Int32)) &&& (1431655765 : Int32))) (2 : Int32)) &&& (858993459 : Int32))) (4 : Int32))) &&& (252645135 : Int32)) + (jushr (((((p1 - ((jushr p1 (1 : Int32)) &&& (1431655765 : Int32))) &&& (858993459 : Int32)) + ((jushr (p1 - ((jushr p1 (1 : Int32)) &&& (1431655765 : Int32))) (2 : Int32)) &&& (858993459 : Int32))) + (jushr (((p1 - ((jushr p1 (1 : Int32)) &&& (1431655765 : Int32))) &&& (858993459 : Int32)) + ((jushr (p1 - ((jushr p1 (1 : Int32)) &&& (1431655765 : Int32))) (2 : Int32)) &&& (858993459 : Int32))) (4 : Int32))) &&& (252645135 : Int32)) (8 : Int32))) + (jushr ((((((p1 - ((jushr p1 (1 : Int32)) &&& (1431655765 : Int32))) &&& (858993459 : Int32)) + ((jushr (p1 - ((jushr p1 (1 : Int32)) &&& (1431655765 : Int32))) (2 : Int32)) &&& (858993459 : Int32))) + (jushr (((p1 - ((jushr p1 (1 : Int32)) &&& (1431655765 : Int32))) &&& (858993459 : Int32)) + ((jushr (p1 - ((jushr p1 (1 : Int32)) &&& (1431655765 : Int32))) (2 : Int32)) &&& (858993459 : Int32))) (4 : Int32))) &&& (252645135 : Int32)) + (jushr (((((p1 - ((jushr p1 (1 : Int32)) &&& (1431655765 : Int32))) &&& (858993459 : Int32)) + ((jushr (p1 - ((jushr p1 (1 : Int32)) &&& (1431655765 : Int32))) (2 : Int32)) &&& (858993459 : Int32))) + (jushr (((p1 - ((jushr p1 (1 : Int32)) &&& (1431655765 : Int32))) &&& (858993459 : Int32)) + ((jushr (p1 - ((jushr p1 (1 : Int32)) &&& (1431655765 : Int32))) (2 : Int32)) &&& (858993459 : Int32))) (4 : Int32))) &&& (252645135 : Int32)) (8 : Int32))) (16 : Int32))))]) hx hb dJ6_bitCount_0f7a4_47 rfl hl (by decide) rfl (fun ls hl => ?_)
  refine lv_iload_n hx hb dJ6_bitCount_0f7a4_48 rfl (lv_at hl 0 rfl) ?_
  refine lv_bipush (v := (63 : Int32)) hx hb dJ6_bitCount_0f7a4_49 (by decide) ?_
  refine lv_iand hx hb dJ6_bitCount_0f7a4_51 ?_
  have hq := hF
  subst hq
  exact hret _ _ _ _ hW dJ6_bitCount_0f7a4_52
abbrev wd_News_waysApart (E : m_E) (a_t : Nat) (a_t_since : Nat) (a_t_toldBy : Nat) (a_t_audience : Nat) (a_p1 : Nat) (a_p1_tell : Nat) (a_p1_look : Nat) (a_p1_place : Nat) (a_p1_way : Nat) (a_p1_farSquare : Nat) (t_audience : Nat → Int32) (p1_pillars : Int64) (p1_weavers : Int32) (p1_place : Nat → Int32) (p1_way : Nat → Int32) (p1_farSquare : Nat → Int32) : va_W := [(a_t, .inr (5, [.ref a_t_since, .ref a_t_toldBy, .ref a_t_audience])), (a_t_audience, .inl (E.2.1 0, 8, .inl t_audience)), (a_p1, .inr (1, [.long p1_pillars, .int p1_weavers, .ref a_p1_place, .ref a_p1_way, .ref a_p1_tell, .ref a_p1_look, .ref a_p1_farSquare])), (a_p1_place, .inl (E.2.1 0, 8, .inl p1_place)), (a_p1_way, .inl (E.2.1 0, 8, .inl p1_way)), (a_p1_farSquare, .inl (E.2.1 0, 2, .inl p1_farSquare))]
def rm_News_waysApart : Room := { frames := 5, cells := 0, slots := 0, locals := 121 }
set_option maxHeartbeats 4000000 in
set_option maxRecDepth 100000 in
theorem c_News_waysApart (l : Launch) (E : m_E) (sz N : Nat) (a_t : Nat) (a_t_since : Nat) (a_t_toldBy : Nat) (a_t_audience : Nat) (a_p1 : Nat) (a_p1_tell : Nat) (a_p1_look : Nat) (a_p1_place : Nat) (a_p1_way : Nat) (a_p1_farSquare : Nat) (t_audience : Nat → Int32) (p1_pillars : Int64) (p1_weavers : Int32) (p1_place : Nat → Int32) (p1_way : Nat → Int32) (p1_farSquare : Nat → Int32) (p2 : Int32) (p3 : Int32) (ures : Int32 × (Nat → Int32)) (hF : F_News_waysApart N p2 p3 t_audience p1_pillars p1_weavers p1_place p1_way p1_farSquare = some ures) : m_Met l yX5_waysApart cX5_waysApart 8 (some .int) rm_News_waysApart E (wd_News_waysApart E a_t a_t_since a_t_toldBy a_t_audience a_p1 a_p1_tell a_p1_look a_p1_place a_p1_way a_p1_farSquare t_audience p1_pillars p1_weavers p1_place p1_way p1_farSquare) (wd_News_waysApart E a_t a_t_since a_t_toldBy a_t_audience a_p1 a_p1_tell a_p1_look a_p1_place a_p1_way a_p1_farSquare ures.2 p1_pillars p1_weavers p1_place p1_way p1_farSquare) sz [.ref a_t, .ref a_p1, .int p2, .int p3] (some (.int ures.1)) := by
  refine m_ofI (by decide) (Nat.le_of_ble_eq_true rfl) ?_
  intro p e s m args below meth c A Q ls X hW hA hl hret
  obtain ⟨hx, hb, -, hown, hts, hK, -, hG⟩ := id X
  have hl : lv_has ls 8 [(0, .ref a_t), (1, .ref a_p1), (2, .int p2), (3, .int p3)] := hl
  unfold F_News_waysApart at hF
  refine lv_iconst (v := (0 : Int32)) hx hb dX5_waysApart_0 (by decide) ?_
  refine lv_istore (lv' := [(4, .int (0 : Int32)), (0, .ref a_t), (1, .ref a_p1), (2, .int p2), (3, .int p3)]) hx hb dX5_waysApart_1 hl (by decide) rfl (fun ls hl => ?_)
  obtain ⟨t_audience'_5, hX2, hF⟩ := bO_s1 hF
  have L1 : ∀ (k0 : Nat) (x4 : Int32) (t_audience'_4 : Nat → Int32) (t_audience'_5 : Nat → Int32) (H : Heap) (locs : List Loc) (ls : Array Slot), News_waysApart_L3 N p1_weavers p1_pillars p1_place p1_way p1_farSquare k0 x4 t_audience'_4 = some t_audience'_5 → m_H E A (wd_News_waysApart E a_t a_t_since a_t_toldBy a_t_audience a_p1 a_p1_tell a_p1_look a_p1_place a_p1_way a_p1_farSquare t_audience'_4 p1_pillars p1_weavers p1_place p1_way p1_farSquare) s.heap H locs → lv_has ls 8 [(4, .int x4), (0, .ref a_t), (1, .ref a_p1), (2, .int p2), (3, .int p3)] → (∀ (H : Heap) (locs : List Loc) (ls : Array Slot), m_H E A (wd_News_waysApart E a_t a_t_since a_t_toldBy a_t_audience a_p1 a_p1_tell a_p1_look a_p1_place a_p1_way a_p1_farSquare t_audience'_5 p1_pillars p1_weavers p1_place p1_way p1_farSquare) s.heap H locs → lv_has ls 8 [(0, .ref a_t), (1, .ref a_p1), (2, .int p2), (3, .int p3)] → W p l e rm_News_waysApart s m args below meth c H locs 0 0 Q (F0 m 32 ls [])) → W p l e rm_News_waysApart s m args below meth c H locs 0 0 Q (F0 m 3 ls []) := by
    clear hF
    intro k0
    induction k0 with
    | zero =>
      intro x4 t_audience'_4 t_audience'_5 H locs ls hF
      cases hF
    | succ k0 ih4 =>
      intro x4 t_audience'_4 t_audience'_5 H locs ls hF hW hl hk3
      rw [News_waysApart_L3] at hF
      refine lv_iload hx hb dX5_waysApart_3 (lv_at hl 0 rfl) ?_
      refine lv_aload_n hx hb dX5_waysApart_5 rfl (lv_at hl 2 rfl) ?_
      refine m_get X hW fdX5_31 2 rfl rfl dX5_waysApart_6 ?_
      refine lv_icmp_ge (tgt := 32) hx hb dX5_waysApart_9 (by decide) (fun c5 => ?_) (fun c5 => ?_)
      · have hF := if_y c5 hF
        cases hF
        exact hk3 _ _ _ hW (lv_sub hl [1, 2, 3, 4] rfl)
      · have hF := if_n c5 hF
        refine lv_aload_n hx hb dX5_waysApart_12 rfl (lv_at hl 1 rfl) ?_
        refine m_get X hW fdX5_20 0 rfl rfl dX5_waysApart_13 ?_
        refine lv_iload hx hb dX5_waysApart_16 (lv_at hl 0 rfl) ?_
        refine lv_aload_n hx hb dX5_waysApart_18 rfl (lv_at hl 2 rfl) ?_
        refine lv_iload hx hb dX5_waysApart_19 (lv_at hl 0 rfl) ?_
        refine lv_iconst (v := (0 : Int32)) hx hb dX5_waysApart_21 (by decide) ?_
        obtain ⟨r22, hC6, hF⟩ := bO_s1 hF
        refine m_callV X hW hA hl.1 lkX5_23 (c_Floor_perceiversOf l E _ N a_p1 a_p1_tell a_p1_look a_p1_place a_p1_way a_p1_farSquare p1_pillars p1_weavers p1_place p1_way p1_farSquare x4 (0 : Int32) r22 hC6) ([2, 3, 4, 5]) (by decide) rfl rfl (ws' := (wd_News_waysApart E a_t a_t_since a_t_toldBy a_t_audience a_p1 a_p1_tell a_p1_look a_p1_place a_p1_way a_p1_farSquare t_audience'_4 p1_pillars p1_weavers p1_place p1_way p1_farSquare)) rfl 2 rfl rfl rfl (As := [.int x4, .int (0 : Int32)]) (rest := [.int x4, .ref a_t_audience]) rfl rfl ⟨rfl, rfl, Nat.le_of_ble_eq_true rfl, Nat.le_of_ble_eq_true rfl⟩ (Nat.le_of_ble_eq_true rfl) (Nat.zero_le _) (Nat.zero_le _) dX5_waysApart_22 (fun H locs hW => ?_)
        clear hC6
        obtain ⟨g7, hF⟩ := gd_some hF
        refine m_iast X hW 1 (k := x4.toNatClampNeg) rfl g7 rfl dX5_waysApart_25 (ws' := (wd_News_waysApart E a_t a_t_since a_t_toldBy a_t_audience a_p1 a_p1_tell a_p1_look a_p1_place a_p1_way a_p1_farSquare (upd t_audience'_4 x4.toNatClampNeg r22) p1_pillars p1_weavers p1_place p1_way p1_farSquare)) rfl (fun H locs hW => ?_)
        refine lv_iinc (v := (x4 + (1 : Int32))) (lv' := [(4, .int (x4 + (1 : Int32))), (0, .ref a_t), (1, .ref a_p1), (2, .int p2), (3, .int p3)]) hx hb dX5_waysApart_26 hl (k := 0) rfl rfl (by decide) rfl (fun ls hl => ?_)
        refine lv_goto (tgt := 3) hx hb dX5_waysApart_29 (by decide) ?_
        exact ih4 (x4 + (1 : Int32)) (upd t_audience'_4 x4.toNatClampNeg r22) t_audience'_5 _ _ _ hF hW (lv_sub hl [0, 1, 2, 3, 4] rfl) hk3
  refine L1 N (0 : Int32) t_audience t_audience'_5 _ _ _ hX2 hW (lv_sub hl [0, 1, 2, 3, 4] rfl) ?_
  intro H locs ls hW hl
  clear L1
  refine lv_iconst (v := (1 : Int32)) hx hb dX5_waysApart_32 (by decide) ?_
  refine lv_iload_n hx hb dX5_waysApart_33 rfl (lv_at hl 2 rfl) ?_
  refine m_ishl hx hb dX5_waysApart_34 ?_
  refine lv_iconst (v := (1 : Int32)) hx hb dX5_waysApart_35 (by decide) ?_
  refine lv_iload_n hx hb dX5_waysApart_36 rfl (lv_at hl 3 rfl) ?_
  refine m_ishl hx hb dX5_waysApart_37 ?_
  refine lv_ior hx hb dX5_waysApart_38 ?_
  refine lv_istore (lv' := [(4, .int ((jshl (1 : Int32) p2) ||| (jshl (1 : Int32) p3))), (0, .ref a_t), (1, .ref a_p1), (2, .int p2), (3, .int p3)]) hx hb dX5_waysApart_39 hl (by decide) rfl (fun ls hl => ?_)
  refine lv_aload_n hx hb dX5_waysApart_41 rfl (lv_at hl 1 rfl) ?_
  refine m_get X hW fdX5_20 0 rfl rfl dX5_waysApart_42 ?_
  refine lv_iload_n hx hb dX5_waysApart_45 rfl (lv_at hl 3 rfl) ?_
  obtain ⟨g8, hF⟩ := gd_some hF
  refine m_iald X hW 1 (k := p2.toNatClampNeg) rfl g8 rfl dX5_waysApart_46 ?_
  refine lv_iload_n hx hb dX5_waysApart_47 rfl (lv_at hl 4 rfl) ?_
  refine m_callN X hW hA hl.1 lkX5_38 (c_S_hasBit l E _ N   (t_audience'_5 p2.toNatClampNeg) p3 (F_S_hasBit (t_audience'_5 p2.toNatClampNeg) p3) rfl) ([]) (by decide) rfl rfl (ws' := (wd_News_waysApart E a_t a_t_since a_t_toldBy a_t_audience a_p1 a_p1_tell a_p1_look a_p1_place a_p1_way a_p1_farSquare t_audience'_5 p1_pillars p1_weavers p1_place p1_way p1_farSquare)) rfl (As := [.int (t_audience'_5 p2.toNatClampNeg), .int p3]) (rest := []) rfl rfl ⟨rfl, rfl, Nat.le_of_ble_eq_true rfl, Nat.le_of_ble_eq_true rfl⟩ (Nat.le_of_ble_eq_true rfl) (Nat.zero_le _) (Nat.zero_le _) dX5_waysApart_48 (fun H locs hW => ?_)
  refine m_callN X hW hA hl.1 lkX5_53 (c_S_oneIf l E _ N   (F_S_hasBit (t_audience'_5 p2.toNatClampNeg) p3) (F_S_oneIf (F_S_hasBit (t_audience'_5 p2.toNatClampNeg) p3)) rfl) ([]) (by decide) rfl rfl (ws' := (wd_News_waysApart E a_t a_t_since a_t_toldBy a_t_audience a_p1 a_p1_tell a_p1_look a_p1_place a_p1_way a_p1_farSquare t_audience'_5 p1_pillars p1_weavers p1_place p1_way p1_farSquare)) rfl (As := [.int (F_S_hasBit (t_audience'_5 p2.toNatClampNeg) p3)]) (rest := []) rfl rfl ⟨rfl, rfl, Nat.le_of_ble_eq_true rfl, Nat.le_of_ble_eq_true rfl⟩ (Nat.le_of_ble_eq_true rfl) (Nat.zero_le _) (Nat.zero_le _) dX5_waysApart_51 (fun H locs hW => ?_)
  refine lv_istore (lv' := [(5, .int (F_S_oneIf (F_S_hasBit (t_audience'_5 p2.toNatClampNeg) p3))), (4, .int ((jshl (1 : Int32) p2) ||| (jshl (1 : Int32) p3))), (0, .ref a_t), (1, .ref a_p1), (2, .int p2), (3, .int p3)]) hx hb dX5_waysApart_54 hl (by decide) rfl (fun ls hl => ?_)
  refine lv_aload_n hx hb dX5_waysApart_56 rfl (lv_at hl 2 rfl) ?_
  refine m_get X hW fdX5_20 0 rfl rfl dX5_waysApart_57 ?_
  refine lv_iload_n hx hb dX5_waysApart_60 rfl (lv_at hl 4 rfl) ?_
  refine lv_dup2_11 hx hb dX5_waysApart_61 rfl rfl ?_
  refine m_iald X hW 1 (k := p2.toNatClampNeg) rfl g8 rfl dX5_waysApart_62 ?_
  refine lv_iconst (v := (1 : Int32)) hx hb dX5_waysApart_63 (by decide) ?_
  refine lv_iload_n hx hb dX5_waysApart_64 rfl (lv_at hl 5 rfl) ?_
  refine m_ishl hx hb dX5_waysApart_65 ?_
  refine lv_iconst (v := (-1 : Int32)) hx hb dX5_waysApart_66 (by decide) ?_
  refine lv_ixor hx hb dX5_waysApart_67 ?_
  refine lv_iand hx hb dX5_waysApart_68 ?_
  refine m_iast X hW 1 (k := p2.toNatClampNeg) rfl g8 rfl dX5_waysApart_69 (ws' := (wd_News_waysApart E a_t a_t_since a_t_toldBy a_t_audience a_p1 a_p1_tell a_p1_look a_p1_place a_p1_way a_p1_farSquare (upd t_audience'_5 p2.toNatClampNeg ((t_audience'_5 p2.toNatClampNeg) &&& ((jshl (1 : Int32) p3) ^^^ (-1 : Int32)))) p1_pillars p1_weavers p1_place p1_way p1_farSquare)) rfl (fun H locs hW => ?_)
  refine lv_bipush (v := (8 : Int32)) hx hb dX5_waysApart_70 (by decide) ?_
  refine lv_istore (lv' := [(6, .int (8 : Int32)), (5, .int (F_S_oneIf (F_S_hasBit (t_audience'_5 p2.toNatClampNeg) p3))), (4, .int ((jshl (1 : Int32) p2) ||| (jshl (1 : Int32) p3))), (0, .ref a_t), (1, .ref a_p1), (2, .int p2), (3, .int p3)]) hx hb dX5_waysApart_72 hl (by decide) rfl (fun ls hl => ?_)
  refine lv_iconst (v := (0 : Int32)) hx hb dX5_waysApart_74 (by decide) ?_
  refine lv_istore (lv' := [(7, .int (0 : Int32)), (6, .int (8 : Int32)), (5, .int (F_S_oneIf (F_S_hasBit (t_audience'_5 p2.toNatClampNeg) p3))), (4, .int ((jshl (1 : Int32) p2) ||| (jshl (1 : Int32) p3))), (0, .ref a_t), (1, .ref a_p1), (2, .int p2), (3, .int p3)]) hx hb dX5_waysApart_75 hl (by decide) rfl (fun ls hl => ?_)
  obtain ⟨x6_2, hX10, hF⟩ := bO_s1 hF
  obtain ⟨c5, ec5⟩ : ∃ z : Int32, z = (F_S_oneIf (F_S_hasBit (t_audience'_5 p2.toNatClampNeg) p3)) := ⟨_, rfl⟩
  obtain ⟨c4, ec4⟩ : ∃ z : Int32, z = ((jshl (1 : Int32) p2) ||| (jshl (1 : Int32) p3)) := ⟨_, rfl⟩
  obtain ⟨t_audience'_6, et_audience'_6⟩ : ∃ z : Nat → Int32, z = (upd t_audience'_5 p2.toNatClampNeg ((t_audience'_5 p2.toNatClampNeg) &&& ((jshl (1 : Int32) p3) ^^^ (-1 : Int32)))) := ⟨_, rfl⟩
  have L9 : ∀ (k0 : Nat) (x6 : Int32) (x7 : Int32) (x6_2 : Int32) (H : Heap) (locs : List Loc) (ls : Array Slot), News_waysApart_L77 N p1_weavers c4 p2 p3 t_audience'_6 k0 x6 x7 = some x6_2 → m_H E A (wd_News_waysApart E a_t a_t_since a_t_toldBy a_t_audience a_p1 a_p1_tell a_p1_look a_p1_place a_p1_way a_p1_farSquare t_audience'_6 p1_pillars p1_weavers p1_place p1_way p1_farSquare) s.heap H locs → lv_has ls 8 [(7, .int x7), (6, .int x6), (5, .int c5), (4, .int c4), (0, .ref a_t), (1, .ref a_p1), (2, .int p2), (3, .int p3)] → (∀ (H : Heap) (locs : List Loc) (ls : Array Slot), m_H E A (wd_News_waysApart E a_t a_t_since a_t_toldBy a_t_audience a_p1 a_p1_tell a_p1_look a_p1_place a_p1_way a_p1_farSquare t_audience'_6 p1_pillars p1_weavers p1_place p1_way p1_farSquare) s.heap H locs → lv_has ls 8 [(6, .int x6_2), (5, .int c5)] → W p l e rm_News_waysApart s m args below meth c H locs 0 0 Q (F0 m 126 ls [])) → W p l e rm_News_waysApart s m args below meth c H locs 0 0 Q (F0 m 77 ls []) := by
    clear hF
    intro k0
    induction k0 with
    | zero =>
      intro x6 x7 x6_2 H locs ls hF
      cases hF
    | succ k0 ih12 =>
      intro x6 x7 x6_2 H locs ls hF hW hl hk11
      rw [News_waysApart_L77] at hF
      refine lv_iload hx hb dX5_waysApart_77 (lv_at hl 0 rfl) ?_
      refine lv_iconst (v := (1 : Int32)) hx hb dX5_waysApart_79 (by decide) ?_
      refine lv_aload_n hx hb dX5_waysApart_80 rfl (lv_at hl 5 rfl) ?_
      refine m_get X hW fdX5_31 2 rfl rfl dX5_waysApart_81 ?_
      refine m_ishl hx hb dX5_waysApart_84 ?_
      refine lv_icmp_ge (tgt := 126) hx hb dX5_waysApart_85 (by decide) (fun c13 => ?_) (fun c13 => ?_)
      · have hF := if_y c13 hF
        cases hF
        exact hk11 _ _ _ hW (lv_sub hl [1, 2] rfl)
      · have hF := if_n c13 hF
        refine lv_iload hx hb dX5_waysApart_88 (lv_at hl 0 rfl) ?_
        refine lv_iload hx hb dX5_waysApart_90 (lv_at hl 3 rfl) ?_
        refine lv_iand hx hb dX5_waysApart_92 ?_
        refine lv_if_ne (tgt := 120) hx hb dX5_waysApart_93 (by decide) (fun c14 => ?_) (fun c14 => ?_)
        · have hF := if_n c14 hF
          refine lv_iinc (v := (x7 + (1 : Int32))) (lv' := [(7, .int (x7 + (1 : Int32))), (6, .int x6), (5, .int c5), (4, .int c4), (0, .ref a_t), (1, .ref a_p1), (2, .int p2), (3, .int p3)]) hx hb dX5_waysApart_120 hl (k := 0) rfl rfl (by decide) rfl (fun ls hl => ?_)
          refine lv_goto (tgt := 77) hx hb dX5_waysApart_123 (by decide) ?_
          exact ih12 x6 (x7 + (1 : Int32)) x6_2 _ _ _ hF hW (lv_sub hl [0, 1, 2, 3, 4, 5, 6, 7] rfl) hk11
        · have hF := if_y c14 hF
          refine lv_aload_n hx hb dX5_waysApart_96 rfl (lv_at hl 4 rfl) ?_
          refine lv_aload_n hx hb dX5_waysApart_97 rfl (lv_at hl 5 rfl) ?_
          refine lv_iload_n hx hb dX5_waysApart_98 rfl (lv_at hl 6 rfl) ?_
          refine lv_iload_n hx hb dX5_waysApart_99 rfl (lv_at hl 7 rfl) ?_
          refine lv_iload hx hb dX5_waysApart_100 (lv_at hl 0 rfl) ?_
          obtain ⟨r102, hC15, hF⟩ := bO_s1 hF
          refine m_callV X hW hA hl.1 lkX5_57 (c_News_isReached l E _ N a_t a_t_since a_t_toldBy a_t_audience a_p1 a_p1_place a_p1_way a_p1_tell a_p1_look a_p1_farSquare t_audience'_6 p1_pillars p1_weavers p2 p3 x7 r102 hC15) ([0, 1, 2]) (by decide) rfl rfl (ws' := (wd_News_waysApart E a_t a_t_since a_t_toldBy a_t_audience a_p1 a_p1_tell a_p1_look a_p1_place a_p1_way a_p1_farSquare t_audience'_6 p1_pillars p1_weavers p1_place p1_way p1_farSquare)) rfl 0 rfl rfl rfl (As := [.ref a_p1, .int p2, .int p3, .int x7]) (rest := []) rfl rfl ⟨rfl, rfl, Nat.le_of_ble_eq_true rfl, Nat.le_of_ble_eq_true rfl⟩ (Nat.le_of_ble_eq_true rfl) (Nat.zero_le _) (Nat.zero_le _) dX5_waysApart_102 (fun H locs hW => ?_)
          clear hC15
          refine lv_if_ne (tgt := 120) hx hb dX5_waysApart_105 (by decide) (fun c16 => ?_) (fun c16 => ?_)
          · have hF := if_n c16 hF
            refine lv_iinc (v := (x7 + (1 : Int32))) (lv' := [(7, .int (x7 + (1 : Int32))), (6, .int x6), (5, .int c5), (4, .int c4), (0, .ref a_t), (1, .ref a_p1), (2, .int p2), (3, .int p3)]) hx hb dX5_waysApart_120 hl (k := 0) rfl rfl (by decide) rfl (fun ls hl => ?_)
            refine lv_goto (tgt := 77) hx hb dX5_waysApart_123 (by decide) ?_
            exact ih12 x6 (x7 + (1 : Int32)) x6_2 _ _ _ hF hW (lv_sub hl [0, 1, 2, 3, 4, 5, 6, 7] rfl) hk11
          · have hF := if_y c16 hF
            refine lv_iload hx hb dX5_waysApart_108 (lv_at hl 1 rfl) ?_
            refine lv_iload hx hb dX5_waysApart_110 (lv_at hl 0 rfl) ?_
            refine m_callS X hW hA hl.1 lkX5_61 (c_Integer_bitCount l E _ N   x7 (F_Integer_bitCount x7) rfl) ([]) (by decide) rfl rfl (ws' := (wd_News_waysApart E a_t a_t_since a_t_toldBy a_t_audience a_p1 a_p1_tell a_p1_look a_p1_place a_p1_way a_p1_farSquare t_audience'_6 p1_pillars p1_weavers p1_place p1_way p1_farSquare)) rfl (As := [.int x7]) (rest := [.int x6]) rfl rfl ⟨rfl, rfl, Nat.le_of_ble_eq_true rfl, Nat.le_of_ble_eq_true rfl⟩ (Nat.le_of_ble_eq_true rfl) (Nat.zero_le _) (Nat.zero_le _) dX5_waysApart_112 (fun H locs hW => ?_)
            refine va_mmin hx hb (X.2.2.1.trans hl.1.symm) hown (hts _ wk_578) (hts _ wk_579) (hts _ wk_15) (hts _ wk_580) (Nat.le_of_ble_eq_true rfl) (Nat.le_of_ble_eq_true rfl) (Nat.zero_le _) (Nat.zero_le _) dX5_waysApart_115 ?_
            refine lv_istore (lv' := [(6, .int (jmin x6 (F_Integer_bitCount x7))), (7, .int x7), (5, .int c5), (4, .int c4), (0, .ref a_t), (1, .ref a_p1), (2, .int p2), (3, .int p3)]) hx hb dX5_waysApart_118 hl (by decide) rfl (fun ls hl => ?_)
            refine lv_iinc (v := (x7 + (1 : Int32))) (lv' := [(7, .int (x7 + (1 : Int32))), (6, .int (jmin x6 (F_Integer_bitCount x7))), (5, .int c5), (4, .int c4), (0, .ref a_t), (1, .ref a_p1), (2, .int p2), (3, .int p3)]) hx hb dX5_waysApart_120 hl (k := 1) rfl rfl (by decide) rfl (fun ls hl => ?_)
            refine lv_goto (tgt := 77) hx hb dX5_waysApart_123 (by decide) ?_
            exact ih12 (jmin x6 (F_Integer_bitCount x7)) (x7 + (1 : Int32)) x6_2 _ _ _ hF hW (lv_sub hl [0, 1, 2, 3, 4, 5, 6, 7] rfl) hk11
  subst ec5
  subst ec4
  subst et_audience'_6
  refine L9 N (8 : Int32) (0 : Int32) x6_2 _ _ _ hX10 hW (lv_sub hl [0, 1, 2, 3, 4, 5, 6, 7] rfl) ?_
  intro H locs ls hW hl
  clear L9
  refine lv_iload hx hb dX5_waysApart_126 (lv_at hl 1 rfl) ?_
  refine lv_iload hx hb dX5_waysApart_128 (lv_at hl 0 rfl) ?_
  refine lv_iadd hx hb dX5_waysApart_130 ?_
  have hq := Option.some.inj hF
  subst hq
  exact hret _ _ _ _ hW dX5_waysApart_131
abbrev wd_S_apart (E : m_E) (a_t : Nat) (a_t_draft : Nat) (a_t_firstImage : Nat) (a_t_secondImage : Nat) (a_t_otherNews : Nat) (a_t_readings : Nat) (a_t_chances : Nat) (a_t_turning : Nat) (a_t_text : Nat) (a_t_fraction : Nat) (a_t_now : Nat) (a_t_now_sightings : Nat) (a_t_now_lexicon : Nat) (a_t_now_level : Nat) (a_t_now_loss : Nat) (a_t_now_floor : Nat) (a_t_now_floor_tell : Nat) (a_t_now_floor_look : Nat) (a_t_now_floor_place : Nat) (a_t_now_floor_way : Nat) (a_t_now_floor_farSquare : Nat) (a_t_news : Nat) (a_t_news_since : Nat) (a_t_news_toldBy : Nat) (a_t_news_audience : Nat) (t_now_clearness : Int32) (t_now_isKept : Int32) (t_now_floor_pillars : Int64) (t_now_floor_weavers : Int32) (t_now_floor_place : Nat → Int32) (t_now_floor_way : Nat → Int32) (t_now_floor_farSquare : Nat → Int32) (t_news_audience : Nat → Int32) : va_W := [(a_t, .inr (11, [.ref a_t_now, .ref a_t_draft, .ref a_t_firstImage, .ref a_t_secondImage, .ref a_t_news, .ref a_t_otherNews, .ref a_t_readings, .ref a_t_chances, .ref a_t_turning, .ref a_t_text, .ref a_t_fraction])), (a_t_now, .inr (7, [.ref a_t_now_floor, .ref a_t_now_sightings, .ref a_t_now_lexicon, .ref a_t_now_level, .ref a_t_now_loss, .int t_now_clearness, .int t_now_isKept])), (a_t_now_floor, .inr (1, [.long t_now_floor_pillars, .int t_now_floor_weavers, .ref a_t_now_floor_place, .ref a_t_now_floor_way, .ref a_t_now_floor_tell, .ref a_t_now_floor_look, .ref a_t_now_floor_farSquare])), (a_t_now_floor_place, .inl (E.2.1 0, 8, .inl t_now_floor_place)), (a_t_now_floor_way, .inl (E.2.1 0, 8, .inl t_now_floor_way)), (a_t_now_floor_farSquare, .inl (E.2.1 0, 2, .inl t_now_floor_farSquare)), (a_t_news, .inr (5, [.ref a_t_news_since, .ref a_t_news_toldBy, .ref a_t_news_audience])), (a_t_news_audience, .inl (E.2.1 0, 8, .inl t_news_audience))]
def rm_S_apart : Room := { frames := 6, cells := 0, slots := 0, locals := 148 }
set_option maxHeartbeats 4000000 in
set_option maxRecDepth 100000 in
theorem c_S_apart (l : Launch) (E : m_E) (sz N : Nat) (a_t : Nat) (a_t_draft : Nat) (a_t_firstImage : Nat) (a_t_secondImage : Nat) (a_t_otherNews : Nat) (a_t_readings : Nat) (a_t_chances : Nat) (a_t_turning : Nat) (a_t_text : Nat) (a_t_fraction : Nat) (a_t_now : Nat) (a_t_now_sightings : Nat) (a_t_now_lexicon : Nat) (a_t_now_level : Nat) (a_t_now_loss : Nat) (a_t_now_floor : Nat) (a_t_now_floor_tell : Nat) (a_t_now_floor_look : Nat) (a_t_now_floor_place : Nat) (a_t_now_floor_way : Nat) (a_t_now_floor_farSquare : Nat) (a_t_news : Nat) (a_t_news_since : Nat) (a_t_news_toldBy : Nat) (a_t_news_audience : Nat) (t_now_clearness : Int32) (t_now_isKept : Int32) (t_now_floor_pillars : Int64) (t_now_floor_weavers : Int32) (t_now_floor_place : Nat → Int32) (t_now_floor_way : Nat → Int32) (t_now_floor_farSquare : Nat → Int32) (t_news_audience : Nat → Int32) (p1 : Int32) (p2 : Int32) (ures : Int32 × (Nat → Int32)) (hF : F_S_apart N p1 p2 t_now_floor_pillars t_now_floor_weavers t_now_floor_place t_now_floor_way t_now_floor_farSquare t_news_audience = some ures) : m_Met l yX11_apart cX11_apart 3 (some .int) rm_S_apart E (wd_S_apart E a_t a_t_draft a_t_firstImage a_t_secondImage a_t_otherNews a_t_readings a_t_chances a_t_turning a_t_text a_t_fraction a_t_now a_t_now_sightings a_t_now_lexicon a_t_now_level a_t_now_loss a_t_now_floor a_t_now_floor_tell a_t_now_floor_look a_t_now_floor_place a_t_now_floor_way a_t_now_floor_farSquare a_t_news a_t_news_since a_t_news_toldBy a_t_news_audience t_now_clearness t_now_isKept t_now_floor_pillars t_now_floor_weavers t_now_floor_place t_now_floor_way t_now_floor_farSquare t_news_audience) (wd_S_apart E a_t a_t_draft a_t_firstImage a_t_secondImage a_t_otherNews a_t_readings a_t_chances a_t_turning a_t_text a_t_fraction a_t_now a_t_now_sightings a_t_now_lexicon a_t_now_level a_t_now_loss a_t_now_floor a_t_now_floor_tell a_t_now_floor_look a_t_now_floor_place a_t_now_floor_way a_t_now_floor_farSquare a_t_news a_t_news_since a_t_news_toldBy a_t_news_audience t_now_clearness t_now_isKept t_now_floor_pillars t_now_floor_weavers t_now_floor_place t_now_floor_way t_now_floor_farSquare ures.2) sz [.ref a_t, .int p1, .int p2] (some (.int ures.1)) := by
  refine m_ofI (by decide) (Nat.le_of_ble_eq_true rfl) ?_
  intro p e s m args below meth c A Q ls X hW hA hl hret
  obtain ⟨hx, hb, -, hown, hts, hK, -, hG⟩ := id X
  have hl : lv_has ls 3 [(0, .ref a_t), (1, .int p1), (2, .int p2)] := hl
  unfold F_S_apart at hF
  refine lv_aload_n hx hb dX11_apart_0 rfl (lv_at hl 0 rfl) ?_
  refine m_get X hW fdX11_10 0 rfl rfl dX11_apart_1 ?_
  refine m_get X hW fdX11_70 1 rfl rfl dX11_apart_4 ?_
  refine lv_iload_n hx hb dX11_apart_7 rfl (lv_at hl 1 rfl) ?_
  refine lv_iload_n hx hb dX11_apart_8 rfl (lv_at hl 2 rfl) ?_
  refine m_callV X hW hA hl.1 lkX11_94 (c_Floor_areTwo l E _ N a_t_now_floor a_t_now_floor_place a_t_now_floor_way a_t_now_floor_tell a_t_now_floor_look a_t_now_floor_farSquare t_now_floor_pillars t_now_floor_weavers p1 p2 (F_Floor_areTwo p1 p2 t_now_floor_weavers) rfl) ([2]) (by decide) rfl rfl (ws' := (wd_S_apart E a_t a_t_draft a_t_firstImage a_t_secondImage a_t_otherNews a_t_readings a_t_chances a_t_turning a_t_text a_t_fraction a_t_now a_t_now_sightings a_t_now_lexicon a_t_now_level a_t_now_loss a_t_now_floor a_t_now_floor_tell a_t_now_floor_look a_t_now_floor_place a_t_now_floor_way a_t_now_floor_farSquare a_t_news a_t_news_since a_t_news_toldBy a_t_news_audience t_now_clearness t_now_isKept t_now_floor_pillars t_now_floor_weavers t_now_floor_place t_now_floor_way t_now_floor_farSquare t_news_audience)) rfl 2 rfl rfl rfl (As := [.int p1, .int p2]) (rest := []) rfl rfl ⟨rfl, rfl, Nat.le_of_ble_eq_true rfl, Nat.le_of_ble_eq_true rfl⟩ (Nat.le_of_ble_eq_true rfl) (Nat.zero_le _) (Nat.zero_le _) dX11_apart_9 (fun H locs hW => ?_)
  refine lv_if_ne (tgt := 18) hx hb dX11_apart_12 (by decide) (fun c1 => ?_) (fun c1 => ?_)
  · have hF := if_n c1 hF
    refine lv_aload_n hx hb dX11_apart_18 rfl (lv_at hl 0 rfl) ?_
    refine m_get X hW fdX11_28 0 rfl rfl dX11_apart_19 ?_
    refine lv_aload_n hx hb dX11_apart_22 rfl (lv_at hl 0 rfl) ?_
    refine m_get X hW fdX11_10 0 rfl rfl dX11_apart_23 ?_
    refine m_get X hW fdX11_70 1 rfl rfl dX11_apart_26 ?_
    refine lv_iload_n hx hb dX11_apart_29 rfl (lv_at hl 1 rfl) ?_
    refine lv_iload_n hx hb dX11_apart_30 rfl (lv_at hl 2 rfl) ?_
    obtain ⟨r31, t_news_audience'_2, hC2, hF⟩ := bO_s2 hF
    refine m_callV X hW hA hl.1 lkX11_152 (c_News_waysApart l E _ N a_t_news a_t_news_since a_t_news_toldBy a_t_news_audience a_t_now_floor a_t_now_floor_tell a_t_now_floor_look a_t_now_floor_place a_t_now_floor_way a_t_now_floor_farSquare t_news_audience t_now_floor_pillars t_now_floor_weavers t_now_floor_place t_now_floor_way t_now_floor_farSquare p1 p2 (r31, t_news_audience'_2) hC2) ([6, 7, 2, 3, 4, 5]) (by decide) rfl rfl (ws' := (wd_S_apart E a_t a_t_draft a_t_firstImage a_t_secondImage a_t_otherNews a_t_readings a_t_chances a_t_turning a_t_text a_t_fraction a_t_now a_t_now_sightings a_t_now_lexicon a_t_now_level a_t_now_loss a_t_now_floor a_t_now_floor_tell a_t_now_floor_look a_t_now_floor_place a_t_now_floor_way a_t_now_floor_farSquare a_t_news a_t_news_since a_t_news_toldBy a_t_news_audience t_now_clearness t_now_isKept t_now_floor_pillars t_now_floor_weavers t_now_floor_place t_now_floor_way t_now_floor_farSquare t_news_audience'_2)) rfl 6 rfl rfl rfl (As := [.ref a_t_now_floor, .int p1, .int p2]) (rest := []) rfl rfl ⟨rfl, rfl, Nat.le_of_ble_eq_true rfl, Nat.le_of_ble_eq_true rfl⟩ (Nat.le_of_ble_eq_true rfl) (Nat.zero_le _) (Nat.zero_le _) dX11_apart_31 (fun H locs hW => ?_)
    clear hC2
    have hq := Option.some.inj hF
    subst hq
    exact hret _ _ _ _ hW dX11_apart_34
  · have hF := if_y c1 hF
    refine lv_bipush (v := (-2 : Int32)) hx hb dX11_apart_15 (by decide) ?_
    have hq := Option.some.inj hF
    subst hq
    exact hret _ _ _ _ hW dX11_apart_17
abbrev wd_Lexicon_makeAlike (E : m_E) (a_t : Nat) (a_t_length : Nat) (a_t_number : Nat) (a_t_weight : Nat) (a_t_row : Nat) (a_t_lipsOf : Nat) (a_t_others : Nat) (a_t_leastLike : Nat) (t_words : Int32) (t_rowLips : Int32) (t_girlKnows : Int32) (t_leastLike : Nat → Int32) : va_W := [(a_t, .inr (3, [.int t_words, .ref a_t_length, .ref a_t_number, .ref a_t_weight, .ref a_t_leastLike, .ref a_t_row, .int t_rowLips, .int t_girlKnows, .ref a_t_lipsOf, .ref a_t_others])), (a_t_leastLike, .inl (E.2.1 0, 6, .inl t_leastLike))]
def rm_Lexicon_makeAlike : Room := { frames := 1, cells := 0, slots := 0, locals := 22 }
set_option maxHeartbeats 4000000 in
set_option maxRecDepth 100000 in
theorem c_Lexicon_makeAlike (l : Launch) (E : m_E) (sz N : Nat) (a_t : Nat) (a_t_length : Nat) (a_t_number : Nat) (a_t_weight : Nat) (a_t_row : Nat) (a_t_lipsOf : Nat) (a_t_others : Nat) (a_t_leastLike : Nat) (t_words : Int32) (t_rowLips : Int32) (t_girlKnows : Int32) (t_leastLike : Nat → Int32) (p1 : Int32) (p2 : Int32) (ures : Int32 × (Nat → Int32)) (hF : F_Lexicon_makeAlike N p1 p2 t_leastLike = some ures) : m_Met l yX3_makeAlike cX3_makeAlike 6 (some .int) rm_Lexicon_makeAlike E (wd_Lexicon_makeAlike E a_t a_t_length a_t_number a_t_weight a_t_row a_t_lipsOf a_t_others a_t_leastLike t_words t_rowLips t_girlKnows t_leastLike) (wd_Lexicon_makeAlike E a_t a_t_length a_t_number a_t_weight a_t_row a_t_lipsOf a_t_others a_t_leastLike t_words t_rowLips t_girlKnows ures.2) sz [.ref a_t, .int p1, .int p2] (some (.int ures.1)) := by
  refine m_ofI (by decide) (Nat.le_of_ble_eq_true rfl) ?_
  intro p e s m args below meth c A Q ls X hW hA hl hret
  obtain ⟨hx, hb, -, hown, hts, hK, -, hG⟩ := id X
  have hl : lv_has ls 6 [(0, .ref a_t), (1, .int p1), (2, .int p2)] := hl
  unfold F_Lexicon_makeAlike at hF
  refine lv_iload_n hx hb dX3_makeAlike_0 rfl (lv_at hl 1 rfl) ?_
  refine lv_iconst (v := (0 : Int32)) hx hb dX3_makeAlike_1 (by decide) ?_
  refine lv_iconst (v := (5 : Int32)) hx hb dX3_makeAlike_2 (by decide) ?_
  refine m_callN X hW hA hl.1 lkX3_52 (c_S_within l E _ N   p1 (0 : Int32) (5 : Int32) (F_S_within p1 (0 : Int32) (5 : Int32)) rfl) ([]) (by decide) rfl rfl (ws' := (wd_Lexicon_makeAlike E a_t a_t_length a_t_number a_t_weight a_t_row a_t_lipsOf a_t_others a_t_leastLike t_words t_rowLips t_girlKnows t_leastLike)) rfl (As := [.int p1, .int (0 : Int32), .int (5 : Int32)]) (rest := []) rfl rfl ⟨rfl, rfl, Nat.le_of_ble_eq_true rfl, Nat.le_of_ble_eq_true rfl⟩ (Nat.le_of_ble_eq_true rfl) (Nat.zero_le _) (Nat.zero_le _) dX3_makeAlike_3 (fun H locs hW => ?_)
  refine lv_if_eq (tgt := 18) hx hb dX3_makeAlike_6 (by decide) (fun c1 => ?_) (fun c1 => ?_)
  · have hF := if_y c1 hF
    refine lv_bipush (v := (-2 : Int32)) hx hb dX3_makeAlike_18 (by decide) ?_
    have hq := Option.some.inj hF
    subst hq
    exact hret _ _ _ _ hW dX3_makeAlike_20
  · have hF := if_n c1 hF
    refine lv_iload_n hx hb dX3_makeAlike_9 rfl (lv_at hl 2 rfl) ?_
    refine lv_iconst (v := (0 : Int32)) hx hb dX3_makeAlike_10 (by decide) ?_
    refine lv_iconst (v := (5 : Int32)) hx hb dX3_makeAlike_11 (by decide) ?_
    refine m_callN X hW hA hl.1 lkX3_52 (c_S_within l E _ N   p2 (0 : Int32) (5 : Int32) (F_S_within p2 (0 : Int32) (5 : Int32)) rfl) ([]) (by decide) rfl rfl (ws' := (wd_Lexicon_makeAlike E a_t a_t_length a_t_number a_t_weight a_t_row a_t_lipsOf a_t_others a_t_leastLike t_words t_rowLips t_girlKnows t_leastLike)) rfl (As := [.int p2, .int (0 : Int32), .int (5 : Int32)]) (rest := []) rfl rfl ⟨rfl, rfl, Nat.le_of_ble_eq_true rfl, Nat.le_of_ble_eq_true rfl⟩ (Nat.le_of_ble_eq_true rfl) (Nat.zero_le _) (Nat.zero_le _) dX3_makeAlike_12 (fun H locs hW => ?_)
    refine lv_if_ne (tgt := 21) hx hb dX3_makeAlike_15 (by decide) (fun c2 => ?_) (fun c2 => ?_)
    · have hF := if_n c2 hF
      refine lv_aload_n hx hb dX3_makeAlike_21 rfl (lv_at hl 0 rfl) ?_
      refine m_get X hW fdX3_21 0 rfl rfl dX3_makeAlike_22 ?_
      refine lv_iload_n hx hb dX3_makeAlike_25 rfl (lv_at hl 1 rfl) ?_
      obtain ⟨g3, hF⟩ := gd_some hF
      refine m_iald X hW 1 (k := p1.toNatClampNeg) rfl g3 rfl dX3_makeAlike_26 ?_
      refine lv_aload_n hx hb dX3_makeAlike_27 rfl (lv_at hl 0 rfl) ?_
      refine m_get X hW fdX3_21 0 rfl rfl dX3_makeAlike_28 ?_
      refine lv_iload_n hx hb dX3_makeAlike_31 rfl (lv_at hl 2 rfl) ?_
      obtain ⟨g4, hF⟩ := gd_some hF
      refine m_iald X hW 1 (k := p2.toNatClampNeg) rfl g4 rfl dX3_makeAlike_32 ?_
      refine va_mmin hx hb (X.2.2.1.trans hl.1.symm) hown (hts _ wk_590) (hts _ wk_579) (hts _ wk_15) (hts _ wk_580) (Nat.le_of_ble_eq_true rfl) (Nat.le_of_ble_eq_true rfl) (Nat.zero_le _) (Nat.zero_le _) dX3_makeAlike_33 ?_
      refine lv_istore_n (lv' := [(3, .int (jmin (t_leastLike p1.toNatClampNeg) (t_leastLike p2.toNatClampNeg))), (0, .ref a_t), (1, .int p1), (2, .int p2)]) hx hb dX3_makeAlike_36 rfl hl (by decide) rfl (fun ls hl => ?_)
      refine lv_aload_n hx hb dX3_makeAlike_37 rfl (lv_at hl 1 rfl) ?_
      refine m_get X hW fdX3_21 0 rfl rfl dX3_makeAlike_38 ?_
      refine lv_iload_n hx hb dX3_makeAlike_41 rfl (lv_at hl 2 rfl) ?_
      refine m_iald X hW 1 (k := p1.toNatClampNeg) rfl g3 rfl dX3_makeAlike_42 ?_
      refine lv_aload_n hx hb dX3_makeAlike_43 rfl (lv_at hl 1 rfl) ?_
      refine m_get X hW fdX3_21 0 rfl rfl dX3_makeAlike_44 ?_
      refine lv_iload_n hx hb dX3_makeAlike_47 rfl (lv_at hl 3 rfl) ?_
      refine m_iald X hW 1 (k := p2.toNatClampNeg) rfl g4 rfl dX3_makeAlike_48 ?_
      refine va_mmax hx hb (X.2.2.1.trans hl.1.symm) hown (hts _ wk_591) (hts _ wk_592) (hts _ wk_15) (hts _ wk_593) (Nat.le_of_ble_eq_true rfl) (Nat.le_of_ble_eq_true rfl) (Nat.zero_le _) (Nat.zero_le _) dX3_makeAlike_49 ?_
      refine lv_istore (lv' := [(4, .int (jmax (t_leastLike p1.toNatClampNeg) (t_leastLike p2.toNatClampNeg))), (3, .int (jmin (t_leastLike p1.toNatClampNeg) (t_leastLike p2.toNatClampNeg))), (0, .ref a_t), (1, .int p1), (2, .int p2)]) hx hb dX3_makeAlike_52 hl (by decide) rfl (fun ls hl => ?_)
      refine lv_iload_n hx hb dX3_makeAlike_54 rfl (lv_at hl 1 rfl) ?_
      refine lv_iload hx hb dX3_makeAlike_55 (lv_at hl 0 rfl) ?_
      refine lv_icmp_ne (tgt := 63) hx hb dX3_makeAlike_57 (by decide) (fun c5 => ?_) (fun c5 => ?_)
      · have hF := if_n c5 hF
        refine lv_iconst (v := (0 : Int32)) hx hb dX3_makeAlike_63 (by decide) ?_
        refine lv_istore (lv' := [(5, .int (0 : Int32)), (4, .int (jmax (t_leastLike p1.toNatClampNeg) (t_leastLike p2.toNatClampNeg))), (3, .int (jmin (t_leastLike p1.toNatClampNeg) (t_leastLike p2.toNatClampNeg))), (0, .ref a_t), (1, .int p1), (2, .int p2)]) hx hb dX3_makeAlike_64 hl (by decide) rfl (fun ls hl => ?_)
        obtain ⟨t_leastLike'_4, hX7, hF⟩ := bO_s1 hF
        obtain ⟨c4, ec4⟩ : ∃ z : Int32, z = (jmax (t_leastLike p1.toNatClampNeg) (t_leastLike p2.toNatClampNeg)) := ⟨_, rfl⟩
        obtain ⟨c3, ec3⟩ : ∃ z : Int32, z = (jmin (t_leastLike p1.toNatClampNeg) (t_leastLike p2.toNatClampNeg)) := ⟨_, rfl⟩
        have L6 : ∀ (k0 : Nat) (x5 : Int32) (t_leastLike'_3 : Nat → Int32) (t_leastLike'_4 : Nat → Int32) (H : Heap) (locs : List Loc) (ls : Array Slot), Lexicon_makeAlike_L66 c4 c3 k0 x5 t_leastLike'_3 = some t_leastLike'_4 → m_H E A (wd_Lexicon_makeAlike E a_t a_t_length a_t_number a_t_weight a_t_row a_t_lipsOf a_t_others a_t_leastLike t_words t_rowLips t_girlKnows t_leastLike'_3) s.heap H locs → lv_has ls 6 [(5, .int x5), (4, .int c4), (3, .int c3), (0, .ref a_t)] → (∀ (H : Heap) (locs : List Loc) (ls : Array Slot), m_H E A (wd_Lexicon_makeAlike E a_t a_t_length a_t_number a_t_weight a_t_row a_t_lipsOf a_t_others a_t_leastLike t_words t_rowLips t_girlKnows t_leastLike'_4) s.heap H locs → lv_has ls 6 [] → W p l e rm_Lexicon_makeAlike s m args below meth c H locs 0 0 Q (F0 m 99 ls [])) → W p l e rm_Lexicon_makeAlike s m args below meth c H locs 0 0 Q (F0 m 66 ls []) := by
          clear hF
          intro k0
          induction k0 with
          | zero =>
            intro x5 t_leastLike'_3 t_leastLike'_4 H locs ls hF
            cases hF
          | succ k0 ih9 =>
            intro x5 t_leastLike'_3 t_leastLike'_4 H locs ls hF hW hl hk8
            rw [Lexicon_makeAlike_L66] at hF
            refine lv_iload hx hb dX3_makeAlike_66 (lv_at hl 0 rfl) ?_
            refine lv_bipush (v := (6 : Int32)) hx hb dX3_makeAlike_68 (by decide) ?_
            refine lv_icmp_ge (tgt := 99) hx hb dX3_makeAlike_70 (by decide) (fun c10 => ?_) (fun c10 => ?_)
            · have hF := if_y c10 hF
              cases hF
              exact hk8 _ _ _ hW (lv_sub hl [] rfl)
            · have hF := if_n c10 hF
              refine lv_aload_n hx hb dX3_makeAlike_73 rfl (lv_at hl 3 rfl) ?_
              refine m_get X hW fdX3_21 0 rfl rfl dX3_makeAlike_74 ?_
              refine lv_iload hx hb dX3_makeAlike_77 (lv_at hl 0 rfl) ?_
              obtain ⟨g11, hF⟩ := gd_some hF
              refine m_iald X hW 1 (k := x5.toNatClampNeg) rfl g11 rfl dX3_makeAlike_79 ?_
              refine lv_iload hx hb dX3_makeAlike_80 (lv_at hl 1 rfl) ?_
              refine lv_icmp_ne (tgt := 93) hx hb dX3_makeAlike_82 (by decide) (fun c12 => ?_) (fun c12 => ?_)
              · have hF := if_n c12 hF
                refine lv_iinc (v := (x5 + (1 : Int32))) (lv' := [(5, .int (x5 + (1 : Int32))), (4, .int c4), (3, .int c3), (0, .ref a_t)]) hx hb dX3_makeAlike_93 hl (k := 0) rfl rfl (by decide) rfl (fun ls hl => ?_)
                refine lv_goto (tgt := 66) hx hb dX3_makeAlike_96 (by decide) ?_
                exact ih9 (x5 + (1 : Int32)) t_leastLike'_3 t_leastLike'_4 _ _ _ hF hW (lv_sub hl [0, 1, 2, 3] rfl) hk8
              · have hF := if_y c12 hF
                refine lv_aload_n hx hb dX3_makeAlike_85 rfl (lv_at hl 3 rfl) ?_
                refine m_get X hW fdX3_21 0 rfl rfl dX3_makeAlike_86 ?_
                refine lv_iload hx hb dX3_makeAlike_89 (lv_at hl 0 rfl) ?_
                refine lv_iload_n hx hb dX3_makeAlike_91 rfl (lv_at hl 2 rfl) ?_
                refine m_iast X hW 1 (k := x5.toNatClampNeg) rfl g11 rfl dX3_makeAlike_92 (ws' := (wd_Lexicon_makeAlike E a_t a_t_length a_t_number a_t_weight a_t_row a_t_lipsOf a_t_others a_t_leastLike t_words t_rowLips t_girlKnows (upd t_leastLike'_3 x5.toNatClampNeg c3))) rfl (fun H locs hW => ?_)
                refine lv_iinc (v := (x5 + (1 : Int32))) (lv' := [(5, .int (x5 + (1 : Int32))), (4, .int c4), (3, .int c3), (0, .ref a_t)]) hx hb dX3_makeAlike_93 hl (k := 0) rfl rfl (by decide) rfl (fun ls hl => ?_)
                refine lv_goto (tgt := 66) hx hb dX3_makeAlike_96 (by decide) ?_
                exact ih9 (x5 + (1 : Int32)) (upd t_leastLike'_3 x5.toNatClampNeg c3) t_leastLike'_4 _ _ _ hF hW (lv_sub hl [0, 1, 2, 3] rfl) hk8
        subst ec4
        subst ec3
        refine L6 N (0 : Int32) t_leastLike t_leastLike'_4 _ _ _ hX7 hW (lv_sub hl [0, 1, 2, 3] rfl) ?_
        intro H locs ls hW hl
        clear L6
        refine lv_iconst (v := (1 : Int32)) hx hb dX3_makeAlike_99 (by decide) ?_
        have hq := Option.some.inj hF
        subst hq
        exact hret _ _ _ _ hW dX3_makeAlike_100
      · have hF := if_y c5 hF
        refine lv_bipush (v := (-3 : Int32)) hx hb dX3_makeAlike_60 (by decide) ?_
        have hq := Option.some.inj hF
        subst hq
        exact hret _ _ _ _ hW dX3_makeAlike_62
    · have hF := if_y c2 hF
      refine lv_bipush (v := (-2 : Int32)) hx hb dX3_makeAlike_18 (by decide) ?_
      have hq := Option.some.inj hF
      subst hq
      exact hret _ _ _ _ hW dX3_makeAlike_20
