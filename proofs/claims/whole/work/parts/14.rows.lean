abbrev wd_S_heard (E : m_E) (a_t : Nat) (a_t_draft : Nat) (a_t_firstImage : Nat) (a_t_secondImage : Nat) (a_t_news : Nat) (a_t_otherNews : Nat) (a_t_readings : Nat) (a_t_chances : Nat) (a_t_turning : Nat) (a_t_text : Nat) (a_t_fraction : Nat) (a_t_now : Nat) (a_t_now_floor : Nat) (a_t_now_sightings : Nat) (a_t_now_lexicon : Nat) (a_t_now_level : Nat) (a_t_now_loss : Nat) (t_now_clearness : Int32) (t_now_isKept : Int32) (t_now_level : Nat → Int32) (t_now_loss : Nat → Int32) : va_W := [(a_t, .inr (11, [.ref a_t_now, .ref a_t_draft, .ref a_t_firstImage, .ref a_t_secondImage, .ref a_t_news, .ref a_t_otherNews, .ref a_t_readings, .ref a_t_chances, .ref a_t_turning, .ref a_t_text, .ref a_t_fraction])), (a_t_now, .inr (7, [.ref a_t_now_floor, .ref a_t_now_sightings, .ref a_t_now_lexicon, .ref a_t_now_level, .ref a_t_now_loss, .int t_now_clearness, .int t_now_isKept])), (a_t_now_level, .inl (E.2.1 0, 6, .inl t_now_level)), (a_t_now_loss, .inl (E.2.1 0, 6, .inl t_now_loss))]
def rm_S_heard : Room := { frames := 1, cells := 0, slots := 0, locals := 22 }
set_option maxHeartbeats 4000000 in
set_option maxRecDepth 100000 in
theorem c_S_heard (l : Launch) (E : m_E) (sz N : Nat) (a_t : Nat) (a_t_draft : Nat) (a_t_firstImage : Nat) (a_t_secondImage : Nat) (a_t_news : Nat) (a_t_otherNews : Nat) (a_t_readings : Nat) (a_t_chances : Nat) (a_t_turning : Nat) (a_t_text : Nat) (a_t_fraction : Nat) (a_t_now : Nat) (a_t_now_floor : Nat) (a_t_now_sightings : Nat) (a_t_now_lexicon : Nat) (a_t_now_level : Nat) (a_t_now_loss : Nat) (t_now_clearness : Int32) (t_now_isKept : Int32) (t_now_level : Nat → Int32) (t_now_loss : Nat → Int32) (p1 : Int32) (p2 : Int32) (ures : Int32) (hF : F_S_heard N p1 p2 t_now_level t_now_loss = some ures) : m_Met l yX11_heard cX11_heard 5 (some .int) rm_S_heard E (wd_S_heard E a_t a_t_draft a_t_firstImage a_t_secondImage a_t_news a_t_otherNews a_t_readings a_t_chances a_t_turning a_t_text a_t_fraction a_t_now a_t_now_floor a_t_now_sightings a_t_now_lexicon a_t_now_level a_t_now_loss t_now_clearness t_now_isKept t_now_level t_now_loss) (wd_S_heard E a_t a_t_draft a_t_firstImage a_t_secondImage a_t_news a_t_otherNews a_t_readings a_t_chances a_t_turning a_t_text a_t_fraction a_t_now a_t_now_floor a_t_now_sightings a_t_now_lexicon a_t_now_level a_t_now_loss t_now_clearness t_now_isKept t_now_level t_now_loss) sz [.ref a_t, .int p1, .int p2] (some (.int ures)) := by
  refine m_ofI (by decide) (Nat.le_of_ble_eq_true rfl) ?_
  intro p e s m args below meth c A Q ls X hW hA hl hret
  obtain ⟨hx, hb, -, hown, hts, hK, -, hG⟩ := id X
  have hl : lv_has ls 5 [(0, .ref a_t), (1, .int p1), (2, .int p2)] := hl
  unfold F_S_heard at hF
  refine lv_iload_n hx hb dX11_heard_0 rfl (lv_at hl 1 rfl) ?_
  refine lv_iconst (v := (0 : Int32)) hx hb dX11_heard_1 (by decide) ?_
  refine lv_bipush (v := (60 : Int32)) hx hb dX11_heard_2 (by decide) ?_
  refine m_callS X hW hA hl.1 lkX11_98 (c_S_within l E _ N   p1 (0 : Int32) (60 : Int32) (F_S_within p1 (0 : Int32) (60 : Int32)) rfl) [] (by decide) rfl rfl (ws' := (wd_S_heard E a_t a_t_draft a_t_firstImage a_t_secondImage a_t_news a_t_otherNews a_t_readings a_t_chances a_t_turning a_t_text a_t_fraction a_t_now a_t_now_floor a_t_now_sightings a_t_now_lexicon a_t_now_level a_t_now_loss t_now_clearness t_now_isKept t_now_level t_now_loss)) rfl (As := [.int p1, .int (0 : Int32), .int (60 : Int32)]) (rest := []) rfl rfl ⟨rfl, rfl, Nat.le_of_ble_eq_true rfl, Nat.le_of_ble_eq_true rfl⟩ (Nat.le_of_ble_eq_true rfl) (Nat.zero_le _) (Nat.zero_le _) dX11_heard_4 (fun H locs hW => ?_)
  refine lv_if_eq (tgt := 20) hx hb dX11_heard_7 (by decide) (fun c1 => ?_) (fun c1 => ?_)
  · have hF := if_y c1 hF
    refine lv_bipush (v := (-2 : Int32)) hx hb dX11_heard_20 (by decide) ?_
    have hq := Option.some.inj hF
    subst hq
    exact hret _ _ _ _ hW dX11_heard_22
  · have hF := if_n c1 hF
    refine lv_iload_n hx hb dX11_heard_10 rfl (lv_at hl 2 rfl) ?_
    refine lv_iconst (v := (0 : Int32)) hx hb dX11_heard_11 (by decide) ?_
    refine lv_bipush (v := (99 : Int32)) hx hb dX11_heard_12 (by decide) ?_
    refine m_callS X hW hA hl.1 lkX11_98 (c_S_within l E _ N   p2 (0 : Int32) (99 : Int32) (F_S_within p2 (0 : Int32) (99 : Int32)) rfl) [] (by decide) rfl rfl (ws' := (wd_S_heard E a_t a_t_draft a_t_firstImage a_t_secondImage a_t_news a_t_otherNews a_t_readings a_t_chances a_t_turning a_t_text a_t_fraction a_t_now a_t_now_floor a_t_now_sightings a_t_now_lexicon a_t_now_level a_t_now_loss t_now_clearness t_now_isKept t_now_level t_now_loss)) rfl (As := [.int p2, .int (0 : Int32), .int (99 : Int32)]) (rest := []) rfl rfl ⟨rfl, rfl, Nat.le_of_ble_eq_true rfl, Nat.le_of_ble_eq_true rfl⟩ (Nat.le_of_ble_eq_true rfl) (Nat.zero_le _) (Nat.zero_le _) dX11_heard_14 (fun H locs hW => ?_)
    refine lv_if_ne (tgt := 23) hx hb dX11_heard_17 (by decide) (fun c2 => ?_) (fun c2 => ?_)
    · have hF := if_n c2 hF
      refine lv_iconst (v := (0 : Int32)) hx hb dX11_heard_23 (by decide) ?_
      refine lv_istore_n (lv' := [(3, .int (0 : Int32)), (0, .ref a_t), (1, .int p1), (2, .int p2)]) hx hb dX11_heard_24 rfl hl (by decide) rfl (fun ls hl => ?_)
      refine lv_iconst (v := (0 : Int32)) hx hb dX11_heard_25 (by decide) ?_
      refine lv_istore (lv' := [(4, .int (0 : Int32)), (3, .int (0 : Int32)), (0, .ref a_t), (1, .int p1), (2, .int p2)]) hx hb dX11_heard_26 hl (by decide) rfl (fun ls hl => ?_)
      obtain ⟨x3_2, hX4, hF⟩ := bO_s1 hF
      have L3 : ∀ (k0 : Nat) (x3 : Int32) (x4 : Int32) (x3_2 : Int32) (H : Heap) (locs : List Loc) (ls : Array Slot), S_heard_L28 t_now_level t_now_loss p1 p2 k0 x3 x4 = some x3_2 → m_H E A (wd_S_heard E a_t a_t_draft a_t_firstImage a_t_secondImage a_t_news a_t_otherNews a_t_readings a_t_chances a_t_turning a_t_text a_t_fraction a_t_now a_t_now_floor a_t_now_sightings a_t_now_lexicon a_t_now_level a_t_now_loss t_now_clearness t_now_isKept t_now_level t_now_loss) s.heap H locs → lv_has ls 5 [(4, .int x4), (3, .int x3), (0, .ref a_t), (1, .int p1), (2, .int p2)] → (∀ (H : Heap) (locs : List Loc) (ls : Array Slot), m_H E A (wd_S_heard E a_t a_t_draft a_t_firstImage a_t_secondImage a_t_news a_t_otherNews a_t_readings a_t_chances a_t_turning a_t_text a_t_fraction a_t_now a_t_now_floor a_t_now_sightings a_t_now_lexicon a_t_now_level a_t_now_loss t_now_clearness t_now_isKept t_now_level t_now_loss) s.heap H locs → lv_has ls 5 [(3, .int x3_2)] → W p l e rm_S_heard s m args below meth c H locs 0 0 Q (F0 m 75 ls [])) → W p l e rm_S_heard s m args below meth c H locs 0 0 Q (F0 m 28 ls []) := by
        clear hF
        intro k0
        induction k0 with
        | zero =>
          intro x3 x4 x3_2 H locs ls hF
          cases hF
        | succ k0 ih6 =>
          intro x3 x4 x3_2 H locs ls hF hW hl hk5
          rw [S_heard_L28] at hF
          refine lv_iload hx hb dX11_heard_28 (lv_at hl 0 rfl) ?_
          refine lv_bipush (v := (6 : Int32)) hx hb dX11_heard_30 (by decide) ?_
          refine lv_icmp_ge (tgt := 75) hx hb dX11_heard_32 (by decide) (fun c7 => ?_) (fun c7 => ?_)
          · have hF := if_y c7 hF
            cases hF
            exact hk5 _ _ _ hW (lv_sub hl [1] rfl)
          · have hF := if_n c7 hF
            refine lv_aload_n hx hb dX11_heard_35 rfl (lv_at hl 2 rfl) ?_
            refine m_get X hW fdX11_10 0 rfl rfl dX11_heard_36 ?_
            refine m_get X hW fdX11_249 1 rfl rfl dX11_heard_39 ?_
            refine lv_iload hx hb dX11_heard_42 (lv_at hl 0 rfl) ?_
            obtain ⟨g8, hF⟩ := gd_some hF
            refine m_iald X hW 2 (k := x4.toNatClampNeg) rfl g8 rfl dX11_heard_44 ?_
            refine lv_aload_n hx hb dX11_heard_45 rfl (lv_at hl 2 rfl) ?_
            refine m_get X hW fdX11_10 0 rfl rfl dX11_heard_46 ?_
            refine m_get X hW fdX11_252 1 rfl rfl dX11_heard_49 ?_
            refine lv_iload hx hb dX11_heard_52 (lv_at hl 0 rfl) ?_
            refine m_iald X hW 3 (k := x4.toNatClampNeg) rfl g8 rfl dX11_heard_54 ?_
            refine lv_iload_n hx hb dX11_heard_55 rfl (lv_at hl 3 rfl) ?_
            refine lv_imul hx hb dX11_heard_56 ?_
            refine lv_isub hx hb dX11_heard_57 ?_
            refine lv_iload_n hx hb dX11_heard_58 rfl (lv_at hl 4 rfl) ?_
            refine lv_icmp_le (tgt := 69) hx hb dX11_heard_59 (by decide) (fun c9 => ?_) (fun c9 => ?_)
            · have hF := if_y c9 hF
              refine lv_iinc (v := (x4 + (1 : Int32))) (lv' := [(4, .int (x4 + (1 : Int32))), (3, .int x3), (0, .ref a_t), (1, .int p1), (2, .int p2)]) hx hb dX11_heard_69 hl (k := 0) rfl rfl (by decide) rfl (fun ls hl => ?_)
              refine lv_goto (tgt := 28) hx hb dX11_heard_72 (by decide) ?_
              exact ih6 x3 (x4 + (1 : Int32)) x3_2 _ _ _ hF hW (lv_sub hl [0, 1, 2, 3, 4] rfl) hk5
            · have hF := if_n c9 hF
              refine lv_iload_n hx hb dX11_heard_62 rfl (lv_at hl 1 rfl) ?_
              refine lv_iconst (v := (1 : Int32)) hx hb dX11_heard_63 (by decide) ?_
              refine lv_iload hx hb dX11_heard_64 (lv_at hl 0 rfl) ?_
              refine m_ishl hx hb dX11_heard_66 ?_
              refine lv_ior hx hb dX11_heard_67 ?_
              refine lv_istore_n (lv' := [(3, .int (x3 ||| (jshl (1 : Int32) x4))), (4, .int x4), (0, .ref a_t), (1, .int p1), (2, .int p2)]) hx hb dX11_heard_68 rfl hl (by decide) rfl (fun ls hl => ?_)
              refine lv_iinc (v := (x4 + (1 : Int32))) (lv' := [(4, .int (x4 + (1 : Int32))), (3, .int (x3 ||| (jshl (1 : Int32) x4))), (0, .ref a_t), (1, .int p1), (2, .int p2)]) hx hb dX11_heard_69 hl (k := 1) rfl rfl (by decide) rfl (fun ls hl => ?_)
              refine lv_goto (tgt := 28) hx hb dX11_heard_72 (by decide) ?_
              exact ih6 (x3 ||| (jshl (1 : Int32) x4)) (x4 + (1 : Int32)) x3_2 _ _ _ hF hW (lv_sub hl [0, 1, 2, 3, 4] rfl) hk5
      refine L3 N (0 : Int32) (0 : Int32) x3_2 _ _ _ hX4 hW (lv_sub hl [0, 1, 2, 3, 4] rfl) ?_
      intro H locs ls hW hl
      clear L3
      refine lv_iload_n hx hb dX11_heard_75 rfl (lv_at hl 0 rfl) ?_
      have hq := Option.some.inj hF
      subst hq
      exact hret _ _ _ _ hW dX11_heard_76
    · have hF := if_y c2 hF
      refine lv_bipush (v := (-2 : Int32)) hx hb dX11_heard_20 (by decide) ?_
      have hq := Option.some.inj hF
      subst hq
      exact hret _ _ _ _ hW dX11_heard_22
abbrev wd_Turning_joinWays (E : m_E) (a_t : Nat) (a_t_way : Nat) (a_t_bestWay : Nat) (a_t_chosen : Nat) (a_t_pairs : Nat) (a_t_readers : Nat) (a_p1 : Nat) (a_p1_way : Nat) (a_p1_tell : Nat) (a_p1_look : Nat) (a_p1_farSquare : Nat) (a_p1_place : Nat) (t_bestPairs : Int32) (t_readers : Nat → Int32) (p1_pillars : Int64) (p1_weavers : Int32) (p1_place : Nat → Int32) : va_W := [(a_t, .inr (10, [.int t_bestPairs, .ref a_t_way, .ref a_t_bestWay, .ref a_t_readers, .ref a_t_chosen, .ref a_t_pairs])), (a_t_readers, .inl (E.2.1 0, 24, .inl t_readers)), (a_p1, .inr (1, [.long p1_pillars, .int p1_weavers, .ref a_p1_place, .ref a_p1_way, .ref a_p1_tell, .ref a_p1_look, .ref a_p1_farSquare])), (a_p1_place, .inl (E.2.1 0, 8, .inl p1_place))]
def rm_Turning_joinWays : Room := { frames := 2, cells := 0, slots := 0, locals := 48 }
set_option maxHeartbeats 4000000 in
set_option maxRecDepth 100000 in
theorem c_Turning_joinWays (l : Launch) (E : m_E) (sz N : Nat) (a_t : Nat) (a_t_way : Nat) (a_t_bestWay : Nat) (a_t_chosen : Nat) (a_t_pairs : Nat) (a_t_readers : Nat) (a_p1 : Nat) (a_p1_way : Nat) (a_p1_tell : Nat) (a_p1_look : Nat) (a_p1_farSquare : Nat) (a_p1_place : Nat) (t_bestPairs : Int32) (t_readers : Nat → Int32) (p1_pillars : Int64) (p1_weavers : Int32) (p1_place : Nat → Int32) (p2 : Int32) (p3 : Int32) (ures : (Nat → Int32)) (hF : F_Turning_joinWays N p2 p3 t_readers p1_place = some ures) : m_Met l yX10_joinWays cX10_joinWays 6 none rm_Turning_joinWays E (wd_Turning_joinWays E a_t a_t_way a_t_bestWay a_t_chosen a_t_pairs a_t_readers a_p1 a_p1_way a_p1_tell a_p1_look a_p1_farSquare a_p1_place t_bestPairs t_readers p1_pillars p1_weavers p1_place) (wd_Turning_joinWays E a_t a_t_way a_t_bestWay a_t_chosen a_t_pairs a_t_readers a_p1 a_p1_way a_p1_tell a_p1_look a_p1_farSquare a_p1_place t_bestPairs ures p1_pillars p1_weavers p1_place) sz [.ref a_t, .ref a_p1, .int p2, .int p3] none := by
  refine m_ofV (by decide) (Nat.le_of_ble_eq_true rfl) ?_
  intro p e s m args below meth c A Q ls X hW hA hl hret
  obtain ⟨hx, hb, -, hown, hts, hK, -, hG⟩ := id X
  have hl : lv_has ls 6 [(0, .ref a_t), (1, .ref a_p1), (2, .int p2), (3, .int p3)] := hl
  unfold F_Turning_joinWays at hF
  refine lv_iconst (v := (0 : Int32)) hx hb dX10_joinWays_0 (by decide) ?_
  refine lv_istore (lv' := [(4, .int (0 : Int32)), (0, .ref a_t), (1, .ref a_p1), (2, .int p2), (3, .int p3)]) hx hb dX10_joinWays_1 hl (by decide) rfl (fun ls hl => ?_)
  obtain ⟨t_readers'_8, hX2, hF⟩ := bO_s1 hF
  have L1 : ∀ (k0 : Nat) (x4 : Int32) (t_readers'_5 : Nat → Int32) (t_readers'_8 : Nat → Int32) (H : Heap) (locs : List Loc) (ls : Array Slot), Turning_joinWays_L3 N p2 p3 p1_place k0 x4 t_readers'_5 = some t_readers'_8 → m_H E A (wd_Turning_joinWays E a_t a_t_way a_t_bestWay a_t_chosen a_t_pairs a_t_readers a_p1 a_p1_way a_p1_tell a_p1_look a_p1_farSquare a_p1_place t_bestPairs t_readers'_5 p1_pillars p1_weavers p1_place) s.heap H locs → lv_has ls 6 [(4, .int x4), (0, .ref a_t), (1, .ref a_p1), (2, .int p2), (3, .int p3)] → (∀ (H : Heap) (locs : List Loc) (ls : Array Slot), m_H E A (wd_Turning_joinWays E a_t a_t_way a_t_bestWay a_t_chosen a_t_pairs a_t_readers a_p1 a_p1_way a_p1_tell a_p1_look a_p1_farSquare a_p1_place t_bestPairs t_readers'_8 p1_pillars p1_weavers p1_place) s.heap H locs → lv_has ls 6 [] → W p l e rm_Turning_joinWays s m args below meth c H locs 0 0 Q (F0 m 65 ls [])) → W p l e rm_Turning_joinWays s m args below meth c H locs 0 0 Q (F0 m 3 ls []) := by
    clear hF
    intro k0
    induction k0 with
    | zero =>
      intro x4 t_readers'_5 t_readers'_8 H locs ls hF
      cases hF
    | succ k0 ih4 =>
      intro x4 t_readers'_5 t_readers'_8 H locs ls hF hW hl hk3
      rw [Turning_joinWays_L3] at hF
      refine lv_iload hx hb dX10_joinWays_3 (lv_at hl 0 rfl) ?_
      refine lv_iconst (v := (4 : Int32)) hx hb dX10_joinWays_5 (by decide) ?_
      refine lv_icmp_ge (tgt := 65) hx hb dX10_joinWays_6 (by decide) (fun c5 => ?_) (fun c5 => ?_)
      · have hF := if_y c5 hF
        cases hF
        exact hk3 _ _ _ hW (lv_sub hl [] rfl)
      · have hF := if_n c5 hF
        refine lv_iconst (v := (0 : Int32)) hx hb dX10_joinWays_9 (by decide) ?_
        refine lv_istore (lv' := [(5, .int (0 : Int32)), (4, .int x4), (0, .ref a_t), (1, .ref a_p1), (2, .int p2), (3, .int p3)]) hx hb dX10_joinWays_10 hl (by decide) rfl (fun ls hl => ?_)
        obtain ⟨t_readers'_7, hX7, hF⟩ := bO_s1 hF
        have L6 : ∀ (k0 : Nat) (x5 : Int32) (t_readers'_6 : Nat → Int32) (t_readers'_7 : Nat → Int32) (H : Heap) (locs : List Loc) (ls : Array Slot), Turning_joinWays_L12 p2 x4 p3 p1_place k0 x5 t_readers'_6 = some t_readers'_7 → m_H E A (wd_Turning_joinWays E a_t a_t_way a_t_bestWay a_t_chosen a_t_pairs a_t_readers a_p1 a_p1_way a_p1_tell a_p1_look a_p1_farSquare a_p1_place t_bestPairs t_readers'_6 p1_pillars p1_weavers p1_place) s.heap H locs → lv_has ls 6 [(5, .int x5), (4, .int x4), (0, .ref a_t), (1, .ref a_p1), (2, .int p2), (3, .int p3)] → (∀ (H : Heap) (locs : List Loc) (ls : Array Slot), m_H E A (wd_Turning_joinWays E a_t a_t_way a_t_bestWay a_t_chosen a_t_pairs a_t_readers a_p1 a_p1_way a_p1_tell a_p1_look a_p1_farSquare a_p1_place t_bestPairs t_readers'_7 p1_pillars p1_weavers p1_place) s.heap H locs → lv_has ls 6 [(4, .int x4), (0, .ref a_t), (1, .ref a_p1), (2, .int p2), (3, .int p3)] → W p l e rm_Turning_joinWays s m args below meth c H locs 0 0 Q (F0 m 59 ls [])) → W p l e rm_Turning_joinWays s m args below meth c H locs 0 0 Q (F0 m 12 ls []) := by
          clear hF
          intro k0
          induction k0 with
          | zero =>
            intro x5 t_readers'_6 t_readers'_7 H locs ls hF
            cases hF
          | succ k0 ih9 =>
            intro x5 t_readers'_6 t_readers'_7 H locs ls hF hW hl hk8
            rw [Turning_joinWays_L12] at hF
            refine lv_iload hx hb dX10_joinWays_12 (lv_at hl 0 rfl) ?_
            refine lv_iconst (v := (4 : Int32)) hx hb dX10_joinWays_14 (by decide) ?_
            refine lv_icmp_ge (tgt := 59) hx hb dX10_joinWays_15 (by decide) (fun c10 => ?_) (fun c10 => ?_)
            · have hF := if_y c10 hF
              cases hF
              exact hk8 _ _ _ hW (lv_sub hl [1, 2, 3, 4, 5] rfl)
            · have hF := if_n c10 hF
              refine lv_aload_n hx hb dX10_joinWays_18 rfl (lv_at hl 3 rfl) ?_
              refine lv_iload_n hx hb dX10_joinWays_19 rfl (lv_at hl 4 rfl) ?_
              refine lv_iload hx hb dX10_joinWays_20 (lv_at hl 1 rfl) ?_
              refine lv_iload_n hx hb dX10_joinWays_22 rfl (lv_at hl 5 rfl) ?_
              refine lv_iload hx hb dX10_joinWays_23 (lv_at hl 0 rfl) ?_
              obtain ⟨r25, hC11, hF⟩ := bO_s1 hF
              refine m_callV X hW hA hl.1 lkX10_72 (c_Floor_faceEachOther l E _ N a_p1 a_p1_way a_p1_tell a_p1_look a_p1_farSquare a_p1_place p1_pillars p1_weavers p1_place p2 x4 p3 x5 r25 hC11) [2, 3] (by decide) rfl rfl (ws' := (wd_Turning_joinWays E a_t a_t_way a_t_bestWay a_t_chosen a_t_pairs a_t_readers a_p1 a_p1_way a_p1_tell a_p1_look a_p1_farSquare a_p1_place t_bestPairs t_readers'_6 p1_pillars p1_weavers p1_place)) rfl 2 rfl rfl rfl (As := [.int p2, .int x4, .int p3, .int x5]) (rest := []) rfl rfl ⟨rfl, rfl, Nat.le_of_ble_eq_true rfl, Nat.le_of_ble_eq_true rfl⟩ (Nat.le_of_ble_eq_true rfl) (Nat.zero_le _) (Nat.zero_le _) dX10_joinWays_25 (fun H locs hW => ?_)
              clear hC11
              refine lv_if_eq (tgt := 53) hx hb dX10_joinWays_28 (by decide) (fun c12 => ?_) (fun c12 => ?_)
              · have hF := if_y c12 hF
                refine lv_iinc (v := (x5 + (1 : Int32))) (lv' := [(5, .int (x5 + (1 : Int32))), (4, .int x4), (0, .ref a_t), (1, .ref a_p1), (2, .int p2), (3, .int p3)]) hx hb dX10_joinWays_53 hl (k := 0) rfl rfl (by decide) rfl (fun ls hl => ?_)
                refine lv_goto (tgt := 12) hx hb dX10_joinWays_56 (by decide) ?_
                exact ih9 (x5 + (1 : Int32)) t_readers'_6 t_readers'_7 _ _ _ hF hW (lv_sub hl [0, 1, 2, 3, 4, 5] rfl) hk8
              · have hF := if_n c12 hF
                refine lv_aload_n hx hb dX10_joinWays_31 rfl (lv_at hl 2 rfl) ?_
                refine m_get X hW fdX10_18 0 rfl rfl dX10_joinWays_32 ?_
                refine lv_iload_n hx hb dX10_joinWays_35 rfl (lv_at hl 4 rfl) ?_
                refine lv_iconst (v := (4 : Int32)) hx hb dX10_joinWays_36 (by decide) ?_
                refine lv_imul hx hb dX10_joinWays_37 ?_
                refine lv_iload hx hb dX10_joinWays_38 (lv_at hl 1 rfl) ?_
                refine lv_iadd hx hb dX10_joinWays_40 ?_
                refine lv_dup2_11 hx hb dX10_joinWays_41 rfl rfl ?_
                obtain ⟨g13, hF⟩ := gd_some hF
                refine m_iald X hW 1 (k := ((p2 * (4 : Int32)) + x4).toNatClampNeg) rfl g13 rfl dX10_joinWays_42 ?_
                refine lv_iconst (v := (1 : Int32)) hx hb dX10_joinWays_43 (by decide) ?_
                refine lv_iload_n hx hb dX10_joinWays_44 rfl (lv_at hl 5 rfl) ?_
                refine lv_iconst (v := (4 : Int32)) hx hb dX10_joinWays_45 (by decide) ?_
                refine lv_imul hx hb dX10_joinWays_46 ?_
                refine lv_iload hx hb dX10_joinWays_47 (lv_at hl 0 rfl) ?_
                refine lv_iadd hx hb dX10_joinWays_49 ?_
                refine m_ishl hx hb dX10_joinWays_50 ?_
                refine lv_ior hx hb dX10_joinWays_51 ?_
                refine m_iast X hW 1 (k := ((p2 * (4 : Int32)) + x4).toNatClampNeg) rfl g13 rfl dX10_joinWays_52 (ws' := (wd_Turning_joinWays E a_t a_t_way a_t_bestWay a_t_chosen a_t_pairs a_t_readers a_p1 a_p1_way a_p1_tell a_p1_look a_p1_farSquare a_p1_place t_bestPairs (upd t_readers'_6 ((p2 * (4 : Int32)) + x4).toNatClampNeg ((t_readers'_6 ((p2 * (4 : Int32)) + x4).toNatClampNeg) ||| (jshl (1 : Int32) ((p3 * (4 : Int32)) + x5)))) p1_pillars p1_weavers p1_place)) rfl (fun H locs hW => ?_)
                refine lv_iinc (v := (x5 + (1 : Int32))) (lv' := [(5, .int (x5 + (1 : Int32))), (4, .int x4), (0, .ref a_t), (1, .ref a_p1), (2, .int p2), (3, .int p3)]) hx hb dX10_joinWays_53 hl (k := 0) rfl rfl (by decide) rfl (fun ls hl => ?_)
                refine lv_goto (tgt := 12) hx hb dX10_joinWays_56 (by decide) ?_
                exact ih9 (x5 + (1 : Int32)) (upd t_readers'_6 ((p2 * (4 : Int32)) + x4).toNatClampNeg ((t_readers'_6 ((p2 * (4 : Int32)) + x4).toNatClampNeg) ||| (jshl (1 : Int32) ((p3 * (4 : Int32)) + x5)))) t_readers'_7 _ _ _ hF hW (lv_sub hl [0, 1, 2, 3, 4, 5] rfl) hk8
        refine L6 N (0 : Int32) t_readers'_5 t_readers'_7 _ _ _ hX7 hW (lv_sub hl [0, 1, 2, 3, 4, 5] rfl) ?_
        intro H locs ls hW hl
        clear L6
        refine lv_iinc (v := (x4 + (1 : Int32))) (lv' := [(4, .int (x4 + (1 : Int32))), (0, .ref a_t), (1, .ref a_p1), (2, .int p2), (3, .int p3)]) hx hb dX10_joinWays_59 hl (k := 0) rfl rfl (by decide) rfl (fun ls hl => ?_)
        refine lv_goto (tgt := 3) hx hb dX10_joinWays_62 (by decide) ?_
        exact ih4 (x4 + (1 : Int32)) t_readers'_7 t_readers'_8 _ _ _ hF hW (lv_sub hl [0, 1, 2, 3, 4] rfl) hk3
  refine L1 N (0 : Int32) t_readers t_readers'_8 _ _ _ hX2 hW (lv_sub hl [0, 1, 2, 3, 4] rfl) ?_
  intro H locs ls hW hl
  clear L1
  have hq := Option.some.inj hF
  subst hq
  exact hret _ _ _ _ hW dX10_joinWays_65
abbrev wd_Turning_findReaders (E : m_E) (a_t : Nat) (a_t_way : Nat) (a_t_bestWay : Nat) (a_t_chosen : Nat) (a_t_pairs : Nat) (a_t_readers : Nat) (a_p1 : Nat) (a_p1_way : Nat) (a_p1_tell : Nat) (a_p1_look : Nat) (a_p1_place : Nat) (a_p1_farSquare : Nat) (t_bestPairs : Int32) (t_readers : Nat → Int32) (p1_pillars : Int64) (p1_weavers : Int32) (p1_place : Nat → Int32) (p1_farSquare : Nat → Int32) : va_W := [(a_t, .inr (10, [.int t_bestPairs, .ref a_t_way, .ref a_t_bestWay, .ref a_t_readers, .ref a_t_chosen, .ref a_t_pairs])), (a_t_readers, .inl (E.2.1 0, 24, .inl t_readers)), (a_p1, .inr (1, [.long p1_pillars, .int p1_weavers, .ref a_p1_place, .ref a_p1_way, .ref a_p1_tell, .ref a_p1_look, .ref a_p1_farSquare])), (a_p1_place, .inl (E.2.1 0, 8, .inl p1_place)), (a_p1_farSquare, .inl (E.2.1 0, 2, .inl p1_farSquare))]
def rm_Turning_findReaders : Room := { frames := 3, cells := 0, slots := 0, locals := 74 }
set_option maxHeartbeats 4000000 in
set_option maxRecDepth 100000 in
theorem c_Turning_findReaders (l : Launch) (E : m_E) (sz N : Nat) (a_t : Nat) (a_t_way : Nat) (a_t_bestWay : Nat) (a_t_chosen : Nat) (a_t_pairs : Nat) (a_t_readers : Nat) (a_p1 : Nat) (a_p1_way : Nat) (a_p1_tell : Nat) (a_p1_look : Nat) (a_p1_place : Nat) (a_p1_farSquare : Nat) (t_bestPairs : Int32) (t_readers : Nat → Int32) (p1_pillars : Int64) (p1_weavers : Int32) (p1_place : Nat → Int32) (p1_farSquare : Nat → Int32) (p2 : Int32) (ures : (Nat → Int32)) (hF : F_Turning_findReaders N p2 t_readers p1_pillars p1_place p1_farSquare = some ures) : m_Met l yX10_findReaders cX10_findReaders 5 none rm_Turning_findReaders E (wd_Turning_findReaders E a_t a_t_way a_t_bestWay a_t_chosen a_t_pairs a_t_readers a_p1 a_p1_way a_p1_tell a_p1_look a_p1_place a_p1_farSquare t_bestPairs t_readers p1_pillars p1_weavers p1_place p1_farSquare) (wd_Turning_findReaders E a_t a_t_way a_t_bestWay a_t_chosen a_t_pairs a_t_readers a_p1 a_p1_way a_p1_tell a_p1_look a_p1_place a_p1_farSquare t_bestPairs ures p1_pillars p1_weavers p1_place p1_farSquare) sz [.ref a_t, .ref a_p1, .int p2] none := by
  refine m_ofV (by decide) (Nat.le_of_ble_eq_true rfl) ?_
  intro p e s m args below meth c A Q ls X hW hA hl hret
  obtain ⟨hx, hb, -, hown, hts, hK, -, hG⟩ := id X
  have hl : lv_has ls 5 [(0, .ref a_t), (1, .ref a_p1), (2, .int p2)] := hl
  unfold F_Turning_findReaders at hF
  refine lv_iconst (v := (0 : Int32)) hx hb dX10_findReaders_0 (by decide) ?_
  refine lv_istore_n (lv' := [(3, .int (0 : Int32)), (0, .ref a_t), (1, .ref a_p1), (2, .int p2)]) hx hb dX10_findReaders_1 rfl hl (by decide) rfl (fun ls hl => ?_)
  obtain ⟨t_readers'_9, hX2, hF⟩ := bO_s1 hF
  have L1 : ∀ (k0 : Nat) (x3 : Int32) (t_readers'_8 : Nat → Int32) (t_readers'_9 : Nat → Int32) (H : Heap) (locs : List Loc) (ls : Array Slot), Turning_findReaders_L2  k0 x3 t_readers'_8 = some t_readers'_9 → m_H E A (wd_Turning_findReaders E a_t a_t_way a_t_bestWay a_t_chosen a_t_pairs a_t_readers a_p1 a_p1_way a_p1_tell a_p1_look a_p1_place a_p1_farSquare t_bestPairs t_readers'_8 p1_pillars p1_weavers p1_place p1_farSquare) s.heap H locs → lv_has ls 5 [(3, .int x3), (0, .ref a_t), (1, .ref a_p1), (2, .int p2)] → (∀ (H : Heap) (locs : List Loc) (ls : Array Slot), m_H E A (wd_Turning_findReaders E a_t a_t_way a_t_bestWay a_t_chosen a_t_pairs a_t_readers a_p1 a_p1_way a_p1_tell a_p1_look a_p1_place a_p1_farSquare t_bestPairs t_readers'_9 p1_pillars p1_weavers p1_place p1_farSquare) s.heap H locs → lv_has ls 5 [(0, .ref a_t), (1, .ref a_p1), (2, .int p2)] → W p l e rm_Turning_findReaders s m args below meth c H locs 0 0 Q (F0 m 21 ls [])) → W p l e rm_Turning_findReaders s m args below meth c H locs 0 0 Q (F0 m 2 ls []) := by
    clear hF
    intro k0
    induction k0 with
    | zero =>
      intro x3 t_readers'_8 t_readers'_9 H locs ls hF
      cases hF
    | succ k0 ih4 =>
      intro x3 t_readers'_8 t_readers'_9 H locs ls hF hW hl hk3
      rw [Turning_findReaders_L2] at hF
      refine lv_iload_n hx hb dX10_findReaders_2 rfl (lv_at hl 0 rfl) ?_
      refine lv_bipush (v := (24 : Int32)) hx hb dX10_findReaders_3 (by decide) ?_
      refine lv_icmp_ge (tgt := 21) hx hb dX10_findReaders_5 (by decide) (fun c5 => ?_) (fun c5 => ?_)
      · have hF := if_y c5 hF
        cases hF
        exact hk3 _ _ _ hW (lv_sub hl [1, 2, 3] rfl)
      · have hF := if_n c5 hF
        refine lv_aload_n hx hb dX10_findReaders_8 rfl (lv_at hl 1 rfl) ?_
        refine m_get X hW fdX10_18 0 rfl rfl dX10_findReaders_9 ?_
        refine lv_iload_n hx hb dX10_findReaders_12 rfl (lv_at hl 0 rfl) ?_
        refine lv_iconst (v := (0 : Int32)) hx hb dX10_findReaders_13 (by decide) ?_
        obtain ⟨g6, hF⟩ := gd_some hF
        refine m_iast X hW 1 (k := x3.toNatClampNeg) rfl g6 rfl dX10_findReaders_14 (ws' := (wd_Turning_findReaders E a_t a_t_way a_t_bestWay a_t_chosen a_t_pairs a_t_readers a_p1 a_p1_way a_p1_tell a_p1_look a_p1_place a_p1_farSquare t_bestPairs (upd t_readers'_8 x3.toNatClampNeg (0 : Int32)) p1_pillars p1_weavers p1_place p1_farSquare)) rfl (fun H locs hW => ?_)
        refine lv_iinc (v := (x3 + (1 : Int32))) (lv' := [(3, .int (x3 + (1 : Int32))), (0, .ref a_t), (1, .ref a_p1), (2, .int p2)]) hx hb dX10_findReaders_15 hl (k := 0) rfl rfl (by decide) rfl (fun ls hl => ?_)
        refine lv_goto (tgt := 2) hx hb dX10_findReaders_18 (by decide) ?_
        exact ih4 (x3 + (1 : Int32)) (upd t_readers'_8 x3.toNatClampNeg (0 : Int32)) t_readers'_9 _ _ _ hF hW (lv_sub hl [0, 1, 2, 3] rfl) hk3
  refine L1 N (0 : Int32) t_readers t_readers'_9 _ _ _ hX2 hW (lv_sub hl [0, 1, 2, 3] rfl) ?_
  intro H locs ls hW hl
  clear L1
  refine lv_iconst (v := (0 : Int32)) hx hb dX10_findReaders_21 (by decide) ?_
  refine lv_istore_n (lv' := [(3, .int (0 : Int32)), (0, .ref a_t), (1, .ref a_p1), (2, .int p2)]) hx hb dX10_findReaders_22 rfl hl (by decide) rfl (fun ls hl => ?_)
  obtain ⟨t_readers'_14, hX8, hF⟩ := bO_s1 hF
  have L7 : ∀ (k0 : Nat) (x3_2 : Int32) (t_readers'_10 : Nat → Int32) (t_readers'_14 : Nat → Int32) (H : Heap) (locs : List Loc) (ls : Array Slot), Turning_findReaders_L23 N p2 p1_pillars p1_place p1_farSquare k0 x3_2 t_readers'_10 = some t_readers'_14 → m_H E A (wd_Turning_findReaders E a_t a_t_way a_t_bestWay a_t_chosen a_t_pairs a_t_readers a_p1 a_p1_way a_p1_tell a_p1_look a_p1_place a_p1_farSquare t_bestPairs t_readers'_10 p1_pillars p1_weavers p1_place p1_farSquare) s.heap H locs → lv_has ls 5 [(3, .int x3_2), (0, .ref a_t), (1, .ref a_p1), (2, .int p2)] → (∀ (H : Heap) (locs : List Loc) (ls : Array Slot), m_H E A (wd_Turning_findReaders E a_t a_t_way a_t_bestWay a_t_chosen a_t_pairs a_t_readers a_p1 a_p1_way a_p1_tell a_p1_look a_p1_place a_p1_farSquare t_bestPairs t_readers'_14 p1_pillars p1_weavers p1_place p1_farSquare) s.heap H locs → lv_has ls 5 [] → W p l e rm_Turning_findReaders s m args below meth c H locs 0 0 Q (F0 m 67 ls [])) → W p l e rm_Turning_findReaders s m args below meth c H locs 0 0 Q (F0 m 23 ls []) := by
    clear hF
    intro k0
    induction k0 with
    | zero =>
      intro x3_2 t_readers'_10 t_readers'_14 H locs ls hF
      cases hF
    | succ k0 ih10 =>
      intro x3_2 t_readers'_10 t_readers'_14 H locs ls hF hW hl hk9
      rw [Turning_findReaders_L23] at hF
      refine lv_iload_n hx hb dX10_findReaders_23 rfl (lv_at hl 0 rfl) ?_
      refine lv_iload_n hx hb dX10_findReaders_24 rfl (lv_at hl 3 rfl) ?_
      refine lv_icmp_ge (tgt := 67) hx hb dX10_findReaders_25 (by decide) (fun c11 => ?_) (fun c11 => ?_)
      · have hF := if_y c11 hF
        cases hF
        exact hk9 _ _ _ hW (lv_sub hl [] rfl)
      · have hF := if_n c11 hF
        refine lv_iconst (v := (0 : Int32)) hx hb dX10_findReaders_28 (by decide) ?_
        refine lv_istore (lv' := [(4, .int (0 : Int32)), (3, .int x3_2), (0, .ref a_t), (1, .ref a_p1), (2, .int p2)]) hx hb dX10_findReaders_29 hl (by decide) rfl (fun ls hl => ?_)
        obtain ⟨t_readers'_13, hX13, hF⟩ := bO_s1 hF
        have L12 : ∀ (k0 : Nat) (x4 : Int32) (t_readers'_11 : Nat → Int32) (t_readers'_13 : Nat → Int32) (H : Heap) (locs : List Loc) (ls : Array Slot), Turning_findReaders_L31 N x3_2 p1_pillars p1_place p1_farSquare k0 x4 t_readers'_11 = some t_readers'_13 → m_H E A (wd_Turning_findReaders E a_t a_t_way a_t_bestWay a_t_chosen a_t_pairs a_t_readers a_p1 a_p1_way a_p1_tell a_p1_look a_p1_place a_p1_farSquare t_bestPairs t_readers'_11 p1_pillars p1_weavers p1_place p1_farSquare) s.heap H locs → lv_has ls 5 [(4, .int x4), (3, .int x3_2), (0, .ref a_t), (1, .ref a_p1), (2, .int p2)] → (∀ (H : Heap) (locs : List Loc) (ls : Array Slot), m_H E A (wd_Turning_findReaders E a_t a_t_way a_t_bestWay a_t_chosen a_t_pairs a_t_readers a_p1 a_p1_way a_p1_tell a_p1_look a_p1_place a_p1_farSquare t_bestPairs t_readers'_13 p1_pillars p1_weavers p1_place p1_farSquare) s.heap H locs → lv_has ls 5 [(3, .int x3_2), (0, .ref a_t), (1, .ref a_p1), (2, .int p2)] → W p l e rm_Turning_findReaders s m args below meth c H locs 0 0 Q (F0 m 61 ls [])) → W p l e rm_Turning_findReaders s m args below meth c H locs 0 0 Q (F0 m 31 ls []) := by
          clear hF
          intro k0
          induction k0 with
          | zero =>
            intro x4 t_readers'_11 t_readers'_13 H locs ls hF
            cases hF
          | succ k0 ih15 =>
            intro x4 t_readers'_11 t_readers'_13 H locs ls hF hW hl hk14
            rw [Turning_findReaders_L31] at hF
            refine lv_iload hx hb dX10_findReaders_31 (lv_at hl 0 rfl) ?_
            refine lv_iload_n hx hb dX10_findReaders_33 rfl (lv_at hl 1 rfl) ?_
            refine lv_icmp_ge (tgt := 61) hx hb dX10_findReaders_34 (by decide) (fun c16 => ?_) (fun c16 => ?_)
            · have hF := if_y c16 hF
              cases hF
              exact hk14 _ _ _ hW (lv_sub hl [1, 2, 3, 4] rfl)
            · have hF := if_n c16 hF
              refine lv_aload_n hx hb dX10_findReaders_37 rfl (lv_at hl 3 rfl) ?_
              refine lv_iload_n hx hb dX10_findReaders_38 rfl (lv_at hl 1 rfl) ?_
              refine lv_iload hx hb dX10_findReaders_39 (lv_at hl 0 rfl) ?_
              obtain ⟨r41, hC17, hF⟩ := bO_s1 hF
              refine m_callV X hW hA hl.1 lkX10_64 (c_Floor_mayRead l E _ N a_p1 a_p1_way a_p1_tell a_p1_look a_p1_place a_p1_farSquare p1_pillars p1_weavers p1_place p1_farSquare x3_2 x4 r41 hC17) [2, 3, 4] (by decide) rfl rfl (ws' := (wd_Turning_findReaders E a_t a_t_way a_t_bestWay a_t_chosen a_t_pairs a_t_readers a_p1 a_p1_way a_p1_tell a_p1_look a_p1_place a_p1_farSquare t_bestPairs t_readers'_11 p1_pillars p1_weavers p1_place p1_farSquare)) rfl 2 rfl rfl rfl (As := [.int x3_2, .int x4]) (rest := []) rfl rfl ⟨rfl, rfl, Nat.le_of_ble_eq_true rfl, Nat.le_of_ble_eq_true rfl⟩ (Nat.le_of_ble_eq_true rfl) (Nat.zero_le _) (Nat.zero_le _) dX10_findReaders_41 (fun H locs hW => ?_)
              clear hC17
              refine lv_if_eq (tgt := 55) hx hb dX10_findReaders_44 (by decide) (fun c18 => ?_) (fun c18 => ?_)
              · have hF := if_y c18 hF
                refine lv_iinc (v := (x4 + (1 : Int32))) (lv' := [(4, .int (x4 + (1 : Int32))), (3, .int x3_2), (0, .ref a_t), (1, .ref a_p1), (2, .int p2)]) hx hb dX10_findReaders_55 hl (k := 0) rfl rfl (by decide) rfl (fun ls hl => ?_)
                refine lv_goto (tgt := 31) hx hb dX10_findReaders_58 (by decide) ?_
                exact ih15 (x4 + (1 : Int32)) t_readers'_11 t_readers'_13 _ _ _ hF hW (lv_sub hl [0, 1, 2, 3, 4] rfl) hk14
              · have hF := if_n c18 hF
                refine lv_aload_n hx hb dX10_findReaders_47 rfl (lv_at hl 2 rfl) ?_
                refine lv_aload_n hx hb dX10_findReaders_48 rfl (lv_at hl 3 rfl) ?_
                refine lv_iload_n hx hb dX10_findReaders_49 rfl (lv_at hl 1 rfl) ?_
                refine lv_iload hx hb dX10_findReaders_50 (lv_at hl 0 rfl) ?_
                obtain ⟨t_readers'_12, hC19, hF⟩ := bO_s1 hF
                refine m_callV X hW hA hl.1 lkX10_68 (c_Turning_joinWays l E _ N a_t a_t_way a_t_bestWay a_t_chosen a_t_pairs a_t_readers a_p1 a_p1_way a_p1_tell a_p1_look a_p1_farSquare a_p1_place t_bestPairs t_readers'_11 p1_pillars p1_weavers p1_place x3_2 x4 t_readers'_12 hC19) [0, 1, 2, 3] (by decide) rfl rfl (ws' := (wd_Turning_findReaders E a_t a_t_way a_t_bestWay a_t_chosen a_t_pairs a_t_readers a_p1 a_p1_way a_p1_tell a_p1_look a_p1_place a_p1_farSquare t_bestPairs t_readers'_12 p1_pillars p1_weavers p1_place p1_farSquare)) rfl 0 rfl rfl rfl (As := [.ref a_p1, .int x3_2, .int x4]) (rest := []) rfl rfl ⟨rfl, rfl, Nat.le_of_ble_eq_true rfl, Nat.le_of_ble_eq_true rfl⟩ (Nat.le_of_ble_eq_true rfl) (Nat.zero_le _) (Nat.zero_le _) dX10_findReaders_52 (fun H locs hW => ?_)
                clear hC19
                refine lv_iinc (v := (x4 + (1 : Int32))) (lv' := [(4, .int (x4 + (1 : Int32))), (3, .int x3_2), (0, .ref a_t), (1, .ref a_p1), (2, .int p2)]) hx hb dX10_findReaders_55 hl (k := 0) rfl rfl (by decide) rfl (fun ls hl => ?_)
                refine lv_goto (tgt := 31) hx hb dX10_findReaders_58 (by decide) ?_
                exact ih15 (x4 + (1 : Int32)) t_readers'_12 t_readers'_13 _ _ _ hF hW (lv_sub hl [0, 1, 2, 3, 4] rfl) hk14
        refine L12 N (0 : Int32) t_readers'_10 t_readers'_13 _ _ _ hX13 hW (lv_sub hl [0, 1, 2, 3, 4] rfl) ?_
        intro H locs ls hW hl
        clear L12
        refine lv_iinc (v := (x3_2 + (1 : Int32))) (lv' := [(3, .int (x3_2 + (1 : Int32))), (0, .ref a_t), (1, .ref a_p1), (2, .int p2)]) hx hb dX10_findReaders_61 hl (k := 0) rfl rfl (by decide) rfl (fun ls hl => ?_)
        refine lv_goto (tgt := 23) hx hb dX10_findReaders_64 (by decide) ?_
        exact ih10 (x3_2 + (1 : Int32)) t_readers'_13 t_readers'_14 _ _ _ hF hW (lv_sub hl [0, 1, 2, 3] rfl) hk9
  refine L7 N (0 : Int32) t_readers'_9 t_readers'_14 _ _ _ hX8 hW (lv_sub hl [0, 1, 2, 3] rfl) ?_
  intro H locs ls hW hl
  clear L7
  have hq := Option.some.inj hF
  subst hq
  exact hret _ _ _ _ hW dX10_findReaders_67
abbrev wd_Turning_countPairs (E : m_E) (a_t : Nat) (a_t_bestWay : Nat) (a_t_way : Nat) (a_t_readers : Nat) (a_t_chosen : Nat) (a_t_pairs : Nat) (t_bestPairs : Int32) (t_way : Nat → Int32) (t_readers : Nat → Int32) (t_chosen : Nat → Int32) (t_pairs : Nat → Int32) : va_W := [(a_t, .inr (10, [.int t_bestPairs, .ref a_t_way, .ref a_t_bestWay, .ref a_t_readers, .ref a_t_chosen, .ref a_t_pairs])), (a_t_way, .inl (E.2.1 0, 6, .inl t_way)), (a_t_readers, .inl (E.2.1 0, 24, .inl t_readers)), (a_t_chosen, .inl (E.2.1 0, 7, .inl t_chosen)), (a_t_pairs, .inl (E.2.1 0, 7, .inl t_pairs))]
def rm_Turning_countPairs : Room := { frames := 1, cells := 0, slots := 0, locals := 20 }
set_option maxHeartbeats 4000000 in
set_option maxRecDepth 100000 in
theorem c_Turning_countPairs (l : Launch) (E : m_E) (sz N : Nat) (a_t : Nat) (a_t_bestWay : Nat) (a_t_way : Nat) (a_t_readers : Nat) (a_t_chosen : Nat) (a_t_pairs : Nat) (t_bestPairs : Int32) (t_way : Nat → Int32) (t_readers : Nat → Int32) (t_chosen : Nat → Int32) (t_pairs : Nat → Int32) (p1 : Int32) (p2 : Int32) (ures : (Nat → Int32) × (Nat → Int32)) (hF : F_Turning_countPairs N p1 p2 t_way t_readers t_chosen t_pairs = some ures) : m_Met l yX10_countPairs cX10_countPairs 4 none rm_Turning_countPairs E (wd_Turning_countPairs E a_t a_t_bestWay a_t_way a_t_readers a_t_chosen a_t_pairs t_bestPairs t_way t_readers t_chosen t_pairs) (wd_Turning_countPairs E a_t a_t_bestWay a_t_way a_t_readers a_t_chosen a_t_pairs t_bestPairs t_way t_readers ures.1 ures.2) sz [.ref a_t, .int p1, .int p2] none := by
  refine m_ofV (by decide) (Nat.le_of_ble_eq_true rfl) ?_
  intro p e s m args below meth c A Q ls X hW hA hl hret
  obtain ⟨hx, hb, -, hown, hts, hK, -, hG⟩ := id X
  have hl : lv_has ls 4 [(0, .ref a_t), (1, .int p1), (2, .int p2)] := hl
  unfold F_Turning_countPairs at hF
  refine lv_iload_n hx hb dX10_countPairs_0 rfl (lv_at hl 1 rfl) ?_
  refine lv_istore_n (lv' := [(3, .int p1), (0, .ref a_t), (1, .int p1), (2, .int p2)]) hx hb dX10_countPairs_1 rfl hl (by decide) rfl (fun ls hl => ?_)
  obtain ⟨t_chosen'_4, t_pairs'_4, hX2, hF⟩ := bO_s2 hF
  have L1 : ∀ (k0 : Nat) (x3 : Int32) (t_chosen'_3 : Nat → Int32) (t_pairs'_3 : Nat → Int32) (t_chosen'_4 : Nat → Int32) (t_pairs'_4 : Nat → Int32) (H : Heap) (locs : List Loc) (ls : Array Slot), Turning_countPairs_L2 p2 t_way t_readers k0 x3 t_chosen'_3 t_pairs'_3 = some (t_chosen'_4, t_pairs'_4) → m_H E A (wd_Turning_countPairs E a_t a_t_bestWay a_t_way a_t_readers a_t_chosen a_t_pairs t_bestPairs t_way t_readers t_chosen'_3 t_pairs'_3) s.heap H locs → lv_has ls 4 [(3, .int x3), (0, .ref a_t), (2, .int p2)] → (∀ (H : Heap) (locs : List Loc) (ls : Array Slot), m_H E A (wd_Turning_countPairs E a_t a_t_bestWay a_t_way a_t_readers a_t_chosen a_t_pairs t_bestPairs t_way t_readers t_chosen'_4 t_pairs'_4) s.heap H locs → lv_has ls 4 [] → W p l e rm_Turning_countPairs s m args below meth c H locs 0 0 Q (F0 m 80 ls [])) → W p l e rm_Turning_countPairs s m args below meth c H locs 0 0 Q (F0 m 2 ls []) := by
    clear hF
    intro k0
    induction k0 with
    | zero =>
      intro x3 t_chosen'_3 t_pairs'_3 t_chosen'_4 t_pairs'_4 H locs ls hF
      cases hF
    | succ k0 ih4 =>
      intro x3 t_chosen'_3 t_pairs'_3 t_chosen'_4 t_pairs'_4 H locs ls hF hW hl hk3
      rw [Turning_countPairs_L2] at hF
      refine lv_iload_n hx hb dX10_countPairs_2 rfl (lv_at hl 0 rfl) ?_
      refine lv_iload_n hx hb dX10_countPairs_3 rfl (lv_at hl 2 rfl) ?_
      refine lv_icmp_ge (tgt := 80) hx hb dX10_countPairs_4 (by decide) (fun c5 => ?_) (fun c5 => ?_)
      · have hF := if_y c5 hF
        cases hF
        exact hk3 _ _ _ hW (lv_sub hl [] rfl)
      · have hF := if_n c5 hF
        refine lv_aload_n hx hb dX10_countPairs_7 rfl (lv_at hl 1 rfl) ?_
        refine m_get X hW fdX10_21 0 rfl rfl dX10_countPairs_8 ?_
        refine lv_iload_n hx hb dX10_countPairs_11 rfl (lv_at hl 0 rfl) ?_
        refine lv_iconst (v := (1 : Int32)) hx hb dX10_countPairs_12 (by decide) ?_
        refine lv_iadd hx hb dX10_countPairs_13 ?_
        refine lv_aload_n hx hb dX10_countPairs_14 rfl (lv_at hl 1 rfl) ?_
        refine m_get X hW fdX10_21 0 rfl rfl dX10_countPairs_15 ?_
        refine lv_iload_n hx hb dX10_countPairs_18 rfl (lv_at hl 0 rfl) ?_
        obtain ⟨g6, hF⟩ := gd_some hF
        refine m_iald X hW 3 (k := x3.toNatClampNeg) rfl g6 rfl dX10_countPairs_19 ?_
        refine lv_iconst (v := (1 : Int32)) hx hb dX10_countPairs_20 (by decide) ?_
        refine lv_iload_n hx hb dX10_countPairs_21 rfl (lv_at hl 0 rfl) ?_
        refine lv_iconst (v := (4 : Int32)) hx hb dX10_countPairs_22 (by decide) ?_
        refine lv_imul hx hb dX10_countPairs_23 ?_
        refine lv_aload_n hx hb dX10_countPairs_24 rfl (lv_at hl 1 rfl) ?_
        refine m_get X hW fdX10_11 0 rfl rfl dX10_countPairs_25 ?_
        refine lv_iload_n hx hb dX10_countPairs_28 rfl (lv_at hl 0 rfl) ?_
        obtain ⟨g7, hF⟩ := gd_some hF
        refine m_iald X hW 1 (k := x3.toNatClampNeg) rfl g7 rfl dX10_countPairs_29 ?_
        refine lv_iadd hx hb dX10_countPairs_30 ?_
        refine m_ishl hx hb dX10_countPairs_31 ?_
        refine lv_ior hx hb dX10_countPairs_32 ?_
        obtain ⟨g8, hF⟩ := gd_some hF
        refine m_iast X hW 3 (k := (x3 + (1 : Int32)).toNatClampNeg) rfl g8 rfl dX10_countPairs_33 (ws' := (wd_Turning_countPairs E a_t a_t_bestWay a_t_way a_t_readers a_t_chosen a_t_pairs t_bestPairs t_way t_readers (upd t_chosen'_3 (x3 + (1 : Int32)).toNatClampNeg ((t_chosen'_3 x3.toNatClampNeg) ||| (jshl (1 : Int32) ((x3 * (4 : Int32)) + (t_way x3.toNatClampNeg))))) t_pairs'_3)) rfl (fun H locs hW => ?_)
        refine lv_aload_n hx hb dX10_countPairs_34 rfl (lv_at hl 1 rfl) ?_
        refine m_get X hW fdX10_24 0 rfl rfl dX10_countPairs_35 ?_
        refine lv_iload_n hx hb dX10_countPairs_38 rfl (lv_at hl 0 rfl) ?_
        refine lv_iconst (v := (1 : Int32)) hx hb dX10_countPairs_39 (by decide) ?_
        refine lv_iadd hx hb dX10_countPairs_40 ?_
        refine lv_aload_n hx hb dX10_countPairs_41 rfl (lv_at hl 1 rfl) ?_
        refine m_get X hW fdX10_24 0 rfl rfl dX10_countPairs_42 ?_
        refine lv_iload_n hx hb dX10_countPairs_45 rfl (lv_at hl 0 rfl) ?_
        refine m_iald X hW 4 (k := x3.toNatClampNeg) rfl g6 rfl dX10_countPairs_46 ?_
        refine lv_aload_n hx hb dX10_countPairs_47 rfl (lv_at hl 1 rfl) ?_
        refine m_get X hW fdX10_18 0 rfl rfl dX10_countPairs_48 ?_
        refine lv_iload_n hx hb dX10_countPairs_51 rfl (lv_at hl 0 rfl) ?_
        refine lv_iconst (v := (4 : Int32)) hx hb dX10_countPairs_52 (by decide) ?_
        refine lv_imul hx hb dX10_countPairs_53 ?_
        refine lv_aload_n hx hb dX10_countPairs_54 rfl (lv_at hl 1 rfl) ?_
        refine m_get X hW fdX10_11 0 rfl rfl dX10_countPairs_55 ?_
        refine lv_iload_n hx hb dX10_countPairs_58 rfl (lv_at hl 0 rfl) ?_
        refine m_iald X hW 1 (k := x3.toNatClampNeg) rfl g7 rfl dX10_countPairs_59 ?_
        refine lv_iadd hx hb dX10_countPairs_60 ?_
        obtain ⟨g9, hF⟩ := gd_some hF
        refine m_iald X hW 2 (k := ((x3 * (4 : Int32)) + (t_way x3.toNatClampNeg)).toNatClampNeg) rfl g9 rfl dX10_countPairs_61 ?_
        refine lv_aload_n hx hb dX10_countPairs_62 rfl (lv_at hl 1 rfl) ?_
        refine m_get X hW fdX10_21 0 rfl rfl dX10_countPairs_63 ?_
        refine lv_iload_n hx hb dX10_countPairs_66 rfl (lv_at hl 0 rfl) ?_
        refine m_iald X hW 3 (k := x3.toNatClampNeg) rfl g6 rfl dX10_countPairs_67 ?_
        refine lv_iand hx hb dX10_countPairs_68 ?_
        refine m_callS X hW hA hl.1 lkX10_76 (c_Integer_bitCount l E _ N   ((t_readers ((x3 * (4 : Int32)) + (t_way x3.toNatClampNeg)).toNatClampNeg) &&& ((upd t_chosen'_3 (x3 + (1 : Int32)).toNatClampNeg ((t_chosen'_3 x3.toNatClampNeg) ||| (jshl (1 : Int32) ((x3 * (4 : Int32)) + (t_way x3.toNatClampNeg))))) x3.toNatClampNeg)) (F_Integer_bitCount ((t_readers ((x3 * (4 : Int32)) + (t_way x3.toNatClampNeg)).toNatClampNeg) &&& ((upd t_chosen'_3 (x3 + (1 : Int32)).toNatClampNeg ((t_chosen'_3 x3.toNatClampNeg) ||| (jshl (1 : Int32) ((x3 * (4 : Int32)) + (t_way x3.toNatClampNeg))))) x3.toNatClampNeg))) rfl) [] (by decide) rfl rfl (ws' := (wd_Turning_countPairs E a_t a_t_bestWay a_t_way a_t_readers a_t_chosen a_t_pairs t_bestPairs t_way t_readers (upd t_chosen'_3 (x3 + (1 : Int32)).toNatClampNeg ((t_chosen'_3 x3.toNatClampNeg) ||| (jshl (1 : Int32) ((x3 * (4 : Int32)) + (t_way x3.toNatClampNeg))))) t_pairs'_3)) rfl (As := [.int ((t_readers ((x3 * (4 : Int32)) + (t_way x3.toNatClampNeg)).toNatClampNeg) &&& ((upd t_chosen'_3 (x3 + (1 : Int32)).toNatClampNeg ((t_chosen'_3 x3.toNatClampNeg) ||| (jshl (1 : Int32) ((x3 * (4 : Int32)) + (t_way x3.toNatClampNeg))))) x3.toNatClampNeg))]) (rest := [.int (t_pairs'_3 x3.toNatClampNeg), .int (x3 + (1 : Int32)), .ref a_t_pairs]) rfl rfl ⟨rfl, rfl, Nat.le_of_ble_eq_true rfl, Nat.le_of_ble_eq_true rfl⟩ (Nat.le_of_ble_eq_true rfl) (Nat.zero_le _) (Nat.zero_le _) dX10_countPairs_69 (fun H locs hW => ?_)
        refine lv_iadd hx hb dX10_countPairs_72 ?_
        refine m_iast X hW 4 (k := (x3 + (1 : Int32)).toNatClampNeg) rfl g8 rfl dX10_countPairs_73 (ws' := (wd_Turning_countPairs E a_t a_t_bestWay a_t_way a_t_readers a_t_chosen a_t_pairs t_bestPairs t_way t_readers (upd t_chosen'_3 (x3 + (1 : Int32)).toNatClampNeg ((t_chosen'_3 x3.toNatClampNeg) ||| (jshl (1 : Int32) ((x3 * (4 : Int32)) + (t_way x3.toNatClampNeg))))) (upd t_pairs'_3 (x3 + (1 : Int32)).toNatClampNeg ((t_pairs'_3 x3.toNatClampNeg) + (F_Integer_bitCount ((t_readers ((x3 * (4 : Int32)) + (t_way x3.toNatClampNeg)).toNatClampNeg) &&& ((upd t_chosen'_3 (x3 + (1 : Int32)).toNatClampNeg ((t_chosen'_3 x3.toNatClampNeg) ||| (jshl (1 : Int32) ((x3 * (4 : Int32)) + (t_way x3.toNatClampNeg))))) x3.toNatClampNeg))))))) rfl (fun H locs hW => ?_)
        refine lv_iinc (v := (x3 + (1 : Int32))) (lv' := [(3, .int (x3 + (1 : Int32))), (0, .ref a_t), (2, .int p2)]) hx hb dX10_countPairs_74 hl (k := 0) rfl rfl (by decide) rfl (fun ls hl => ?_)
        refine lv_goto (tgt := 2) hx hb dX10_countPairs_77 (by decide) ?_
        exact ih4 (x3 + (1 : Int32)) (upd t_chosen'_3 (x3 + (1 : Int32)).toNatClampNeg ((t_chosen'_3 x3.toNatClampNeg) ||| (jshl (1 : Int32) ((x3 * (4 : Int32)) + (t_way x3.toNatClampNeg))))) (upd t_pairs'_3 (x3 + (1 : Int32)).toNatClampNeg ((t_pairs'_3 x3.toNatClampNeg) + (F_Integer_bitCount ((t_readers ((x3 * (4 : Int32)) + (t_way x3.toNatClampNeg)).toNatClampNeg) &&& ((upd t_chosen'_3 (x3 + (1 : Int32)).toNatClampNeg ((t_chosen'_3 x3.toNatClampNeg) ||| (jshl (1 : Int32) ((x3 * (4 : Int32)) + (t_way x3.toNatClampNeg))))) x3.toNatClampNeg))))) t_chosen'_4 t_pairs'_4 _ _ _ hF hW (lv_sub hl [0, 1, 2] rfl) hk3
  refine L1 N p1 t_chosen t_pairs t_chosen'_4 t_pairs'_4 _ _ _ hX2 hW (lv_sub hl [0, 1, 3] rfl) ?_
  intro H locs ls hW hl
  clear L1
  have hq := Option.some.inj hF
  subst hq
  exact hret _ _ _ _ hW dX10_countPairs_80
abbrev wd_Turning_turnToNext (E : m_E) (a_t : Nat) (a_t_bestWay : Nat) (a_t_readers : Nat) (a_t_chosen : Nat) (a_t_pairs : Nat) (a_t_way : Nat) (t_bestPairs : Int32) (t_way : Nat → Int32) : va_W := [(a_t, .inr (10, [.int t_bestPairs, .ref a_t_way, .ref a_t_bestWay, .ref a_t_readers, .ref a_t_chosen, .ref a_t_pairs])), (a_t_way, .inl (E.2.1 0, 6, .inl t_way))]
def rm_Turning_turnToNext : Room := { frames := 0, cells := 0, slots := 0, locals := 0 }
set_option maxHeartbeats 4000000 in
set_option maxRecDepth 100000 in
theorem c_Turning_turnToNext (l : Launch) (E : m_E) (sz N : Nat) (a_t : Nat) (a_t_bestWay : Nat) (a_t_readers : Nat) (a_t_chosen : Nat) (a_t_pairs : Nat) (a_t_way : Nat) (t_bestPairs : Int32) (t_way : Nat → Int32) (p1 : Int32) (ures : Int32 × (Nat → Int32)) (hF : F_Turning_turnToNext N p1 t_way = some ures) : m_Met l yX10_turnToNext cX10_turnToNext 3 (some .int) rm_Turning_turnToNext E (wd_Turning_turnToNext E a_t a_t_bestWay a_t_readers a_t_chosen a_t_pairs a_t_way t_bestPairs t_way) (wd_Turning_turnToNext E a_t a_t_bestWay a_t_readers a_t_chosen a_t_pairs a_t_way t_bestPairs ures.2) sz [.ref a_t, .int p1] (some (.int ures.1)) := by
  refine m_ofI (by decide) (Nat.le_of_ble_eq_true rfl) ?_
  intro p e s m args below meth c A Q ls X hW hA hl hret
  obtain ⟨hx, hb, -, hown, hts, hK, -, hG⟩ := id X
  have hl : lv_has ls 3 [(0, .ref a_t), (1, .int p1)] := hl
  unfold F_Turning_turnToNext at hF
  refine lv_iload_n hx hb dX10_turnToNext_0 rfl (lv_at hl 1 rfl) ?_
  refine lv_iconst (v := (1 : Int32)) hx hb dX10_turnToNext_1 (by decide) ?_
  refine lv_isub hx hb dX10_turnToNext_2 ?_
  refine lv_istore_n (lv' := [(2, .int (p1 - (1 : Int32))), (0, .ref a_t), (1, .int p1)]) hx hb dX10_turnToNext_3 rfl hl (by decide) rfl (fun ls hl => ?_)
  obtain ⟨out6, hX2, hr5, hF⟩ := bT_s1 hF
  have L1 : ∀ (k0 : Nat) (x2 : Int32) (t_way'_3 : Nat → Int32) (out8 : (Int32 × (Nat → Int32)) ⊕ ((Nat → Int32)))  (H : Heap) (locs : List Loc) (ls : Array Slot), Turning_turnToNext_L4  k0 x2 t_way'_3 = some out8 → m_H E A (wd_Turning_turnToNext E a_t a_t_bestWay a_t_readers a_t_chosen a_t_pairs a_t_way t_bestPairs t_way'_3) s.heap H locs → lv_has ls 3 [(2, .int x2), (0, .ref a_t)] → (∀ a, out8 = .inl a → a = ures) → (∀ (t_way'_4 : Nat → Int32) (H : Heap) (locs : List Loc) (ls : Array Slot), out8 = .inr t_way'_4 → m_H E A (wd_Turning_turnToNext E a_t a_t_bestWay a_t_readers a_t_chosen a_t_pairs a_t_way t_bestPairs t_way'_4) s.heap H locs → lv_has ls 3 [] → W p l e rm_Turning_turnToNext s m args below meth c H locs 0 0 Q (F0 m 43 ls [])) → W p l e rm_Turning_turnToNext s m args below meth c H locs 0 0 Q (F0 m 4 ls []) := by
    clear hF
    intro k0
    induction k0 with
    | zero =>
      intro x2 t_way'_3 out8 H locs ls hF
      cases hF
    | succ k0 ih4 =>
      intro x2 t_way'_3 out8 H locs ls hF hW hl hr7 hk3
      rw [Turning_turnToNext_L4] at hF
      refine lv_iload_n hx hb dX10_turnToNext_4 rfl (lv_at hl 0 rfl) ?_
      refine lv_if_lt (tgt := 43) hx hb dX10_turnToNext_5 (by decide) (fun c9 => ?_) (fun c9 => ?_)
      · have hF := if_y c9 hF
        exact hk3 t_way'_3 _ _ _ (Option.some.inj hF).symm hW (lv_sub hl [] rfl)
      · have hF := if_n c9 hF
        refine lv_aload_n hx hb dX10_turnToNext_8 rfl (lv_at hl 1 rfl) ?_
        refine m_get X hW fdX10_11 0 rfl rfl dX10_turnToNext_9 ?_
        refine lv_iload_n hx hb dX10_turnToNext_12 rfl (lv_at hl 0 rfl) ?_
        obtain ⟨g10, hF⟩ := gd_some hF
        refine m_iald X hW 1 (k := x2.toNatClampNeg) rfl g10 rfl dX10_turnToNext_13 ?_
        refine lv_iconst (v := (3 : Int32)) hx hb dX10_turnToNext_14 (by decide) ?_
        refine lv_icmp_ge (tgt := 30) hx hb dX10_turnToNext_15 (by decide) (fun c11 => ?_) (fun c11 => ?_)
        · have hF := if_y c11 hF
          refine lv_aload_n hx hb dX10_turnToNext_30 rfl (lv_at hl 1 rfl) ?_
          refine m_get X hW fdX10_11 0 rfl rfl dX10_turnToNext_31 ?_
          refine lv_iload_n hx hb dX10_turnToNext_34 rfl (lv_at hl 0 rfl) ?_
          refine lv_iconst (v := (0 : Int32)) hx hb dX10_turnToNext_35 (by decide) ?_
          refine m_iast X hW 1 (k := x2.toNatClampNeg) rfl g10 rfl dX10_turnToNext_36 (ws' := (wd_Turning_turnToNext E a_t a_t_bestWay a_t_readers a_t_chosen a_t_pairs a_t_way t_bestPairs (upd t_way'_3 x2.toNatClampNeg (0 : Int32)))) rfl (fun H locs hW => ?_)
          refine lv_iinc (v := (x2 + (-1 : Int32))) (lv' := [(2, .int (x2 + (-1 : Int32))), (0, .ref a_t)]) hx hb dX10_turnToNext_37 hl (k := 0) rfl rfl (by decide) rfl (fun ls hl => ?_)
          refine lv_goto (tgt := 4) hx hb dX10_turnToNext_40 (by decide) ?_
          exact ih4 (x2 + (-1 : Int32)) (upd t_way'_3 x2.toNatClampNeg (0 : Int32)) out8 _ _ _ hF hW (lv_sub hl [0, 1] rfl) hr7 hk3
        · have hF := if_n c11 hF
          refine lv_aload_n hx hb dX10_turnToNext_18 rfl (lv_at hl 1 rfl) ?_
          refine m_get X hW fdX10_11 0 rfl rfl dX10_turnToNext_19 ?_
          refine lv_iload_n hx hb dX10_turnToNext_22 rfl (lv_at hl 0 rfl) ?_
          refine lv_dup2_11 hx hb dX10_turnToNext_23 rfl rfl ?_
          refine m_iald X hW 1 (k := x2.toNatClampNeg) rfl g10 rfl dX10_turnToNext_24 ?_
          refine lv_iconst (v := (1 : Int32)) hx hb dX10_turnToNext_25 (by decide) ?_
          refine lv_iadd hx hb dX10_turnToNext_26 ?_
          refine m_iast X hW 1 (k := x2.toNatClampNeg) rfl g10 rfl dX10_turnToNext_27 (ws' := (wd_Turning_turnToNext E a_t a_t_bestWay a_t_readers a_t_chosen a_t_pairs a_t_way t_bestPairs (upd t_way'_3 x2.toNatClampNeg ((t_way'_3 x2.toNatClampNeg) + (1 : Int32))))) rfl (fun H locs hW => ?_)
          refine lv_iload_n hx hb dX10_turnToNext_28 rfl (lv_at hl 0 rfl) ?_
          have hq := (Option.some.inj hF).symm
          have hq := hr7 _ hq
          subst hq
          exact hret _ _ _ _ hW dX10_turnToNext_29
  refine L1 N (p1 - (1 : Int32)) t_way out6 _ _ _ hX2 hW (lv_sub hl [0, 1] rfl) hr5 ?_
  intro t_way'_4 H locs ls ho hW hl
  have hF := hF t_way'_4 ho
  clear L1
  refine lv_iconst (v := (0 : Int32)) hx hb dX10_turnToNext_43 (by decide) ?_
  have hq := Option.some.inj hF
  subst hq
  exact hret _ _ _ _ hW dX10_turnToNext_44
abbrev wd_Turning_search (E : m_E) (a_t : Nat) (a_t_way : Nat) (a_t_bestWay : Nat) (a_t_readers : Nat) (a_t_chosen : Nat) (a_t_pairs : Nat) (a_p1 : Nat) (a_p1_way : Nat) (a_p1_tell : Nat) (a_p1_look : Nat) (a_p1_place : Nat) (a_p1_farSquare : Nat) (t_bestPairs : Int32) (t_way : Nat → Int32) (t_bestWay : Nat → Int32) (t_readers : Nat → Int32) (t_chosen : Nat → Int32) (t_pairs : Nat → Int32) (p1_pillars : Int64) (p1_weavers : Int32) (p1_place : Nat → Int32) (p1_farSquare : Nat → Int32) : va_W := [(a_t, .inr (10, [.int t_bestPairs, .ref a_t_way, .ref a_t_bestWay, .ref a_t_readers, .ref a_t_chosen, .ref a_t_pairs])), (a_t_way, .inl (E.2.1 0, 6, .inl t_way)), (a_t_bestWay, .inl (E.2.1 0, 6, .inl t_bestWay)), (a_t_readers, .inl (E.2.1 0, 24, .inl t_readers)), (a_t_chosen, .inl (E.2.1 0, 7, .inl t_chosen)), (a_t_pairs, .inl (E.2.1 0, 7, .inl t_pairs)), (a_p1, .inr (1, [.long p1_pillars, .int p1_weavers, .ref a_p1_place, .ref a_p1_way, .ref a_p1_tell, .ref a_p1_look, .ref a_p1_farSquare])), (a_p1_place, .inl (E.2.1 0, 8, .inl p1_place)), (a_p1_farSquare, .inl (E.2.1 0, 2, .inl p1_farSquare))]
def rm_Turning_search : Room := { frames := 4, cells := 0, slots := 0, locals := 98 }
set_option maxHeartbeats 4000000 in
set_option maxRecDepth 100000 in
theorem c_Turning_search (l : Launch) (E : m_E) (sz N : Nat) (a_t : Nat) (a_t_way : Nat) (a_t_bestWay : Nat) (a_t_readers : Nat) (a_t_chosen : Nat) (a_t_pairs : Nat) (a_p1 : Nat) (a_p1_way : Nat) (a_p1_tell : Nat) (a_p1_look : Nat) (a_p1_place : Nat) (a_p1_farSquare : Nat) (t_bestPairs : Int32) (t_way : Nat → Int32) (t_bestWay : Nat → Int32) (t_readers : Nat → Int32) (t_chosen : Nat → Int32) (t_pairs : Nat → Int32) (p1_pillars : Int64) (p1_weavers : Int32) (p1_place : Nat → Int32) (p1_farSquare : Nat → Int32) (p2 : Int32) (ures : Int32 × (Nat → Int32) × (Nat → Int32) × (Nat → Int32) × (Nat → Int32) × (Nat → Int32)) (hF : F_Turning_search N p2 t_bestPairs t_way t_bestWay t_readers t_chosen t_pairs p1_pillars p1_weavers p1_place p1_farSquare = some ures) : m_Met l yX10_search cX10_search 7 none rm_Turning_search E (wd_Turning_search E a_t a_t_way a_t_bestWay a_t_readers a_t_chosen a_t_pairs a_p1 a_p1_way a_p1_tell a_p1_look a_p1_place a_p1_farSquare t_bestPairs t_way t_bestWay t_readers t_chosen t_pairs p1_pillars p1_weavers p1_place p1_farSquare) (wd_Turning_search E a_t a_t_way a_t_bestWay a_t_readers a_t_chosen a_t_pairs a_p1 a_p1_way a_p1_tell a_p1_look a_p1_place a_p1_farSquare ures.1 ures.2.1 ures.2.2.1 ures.2.2.2.1 ures.2.2.2.2.1 ures.2.2.2.2.2 p1_pillars p1_weavers p1_place p1_farSquare) sz [.ref a_t, .ref a_p1, .int p2] none := by
  refine m_ofV (by decide) (Nat.le_of_ble_eq_true rfl) ?_
  intro p e s m args below meth c A Q ls X hW hA hl hret
  obtain ⟨hx, hb, -, hown, hts, hK, -, hG⟩ := id X
  have hl : lv_has ls 7 [(0, .ref a_t), (1, .ref a_p1), (2, .int p2)] := hl
  unfold F_Turning_search at hF
  refine lv_aload_n hx hb dX10_search_0 rfl (lv_at hl 1 rfl) ?_
  refine m_get X hW fdX10_31 6 rfl rfl dX10_search_1 ?_
  refine lv_bipush (v := (6 : Int32)) hx hb dX10_search_4 (by decide) ?_
  refine va_mmin hx hb (X.2.2.1.trans hl.1.symm) hown (hts _ wk_850) (hts _ wk_579) (hts _ wk_15) (hts _ wk_580) (Nat.le_of_ble_eq_true rfl) (Nat.le_of_ble_eq_true rfl) (Nat.zero_le _) (Nat.zero_le _) dX10_search_6 ?_
  refine lv_istore_n (lv' := [(3, .int (jmin p1_weavers (6 : Int32))), (0, .ref a_t), (1, .ref a_p1), (2, .int p2)]) hx hb dX10_search_9 rfl hl (by decide) rfl (fun ls hl => ?_)
  refine lv_aload_n hx hb dX10_search_10 rfl (lv_at hl 1 rfl) ?_
  refine lv_aload_n hx hb dX10_search_11 rfl (lv_at hl 2 rfl) ?_
  refine lv_iload_n hx hb dX10_search_12 rfl (lv_at hl 0 rfl) ?_
  obtain ⟨t_readers'_2, hC1, hF⟩ := bO_s1 hF
  refine m_callV X hW hA hl.1 lkX10_43 (c_Turning_findReaders l E _ N a_t a_t_way a_t_bestWay a_t_chosen a_t_pairs a_t_readers a_p1 a_p1_way a_p1_tell a_p1_look a_p1_place a_p1_farSquare t_bestPairs t_readers p1_pillars p1_weavers p1_place p1_farSquare (jmin p1_weavers (6 : Int32)) t_readers'_2 hC1) [0, 3, 6, 7, 8] (by decide) rfl rfl (ws' := (wd_Turning_search E a_t a_t_way a_t_bestWay a_t_readers a_t_chosen a_t_pairs a_p1 a_p1_way a_p1_tell a_p1_look a_p1_place a_p1_farSquare t_bestPairs t_way t_bestWay t_readers'_2 t_chosen t_pairs p1_pillars p1_weavers p1_place p1_farSquare)) rfl 0 rfl rfl rfl (As := [.ref a_p1, .int (jmin p1_weavers (6 : Int32))]) (rest := []) rfl rfl ⟨rfl, rfl, Nat.le_of_ble_eq_true rfl, Nat.le_of_ble_eq_true rfl⟩ (Nat.le_of_ble_eq_true rfl) (Nat.zero_le _) (Nat.zero_le _) dX10_search_13 (fun H locs hW => ?_)
  clear hC1
  refine lv_iconst (v := (0 : Int32)) hx hb dX10_search_16 (by decide) ?_
  refine lv_istore (lv' := [(4, .int (0 : Int32)), (3, .int (jmin p1_weavers (6 : Int32))), (0, .ref a_t), (1, .ref a_p1), (2, .int p2)]) hx hb dX10_search_17 hl (by decide) rfl (fun ls hl => ?_)
  obtain ⟨t_way'_7, hX3, hF⟩ := bO_s1 hF
  obtain ⟨c3, ec3⟩ : ∃ z : Int32, z = (jmin p1_weavers (6 : Int32)) := ⟨_, rfl⟩
  have L2 : ∀ (k0 : Nat) (x4 : Int32) (t_way'_6 : Nat → Int32) (t_way'_7 : Nat → Int32) (H : Heap) (locs : List Loc) (ls : Array Slot), Turning_search_L19  k0 x4 t_way'_6 = some t_way'_7 → m_H E A (wd_Turning_search E a_t a_t_way a_t_bestWay a_t_readers a_t_chosen a_t_pairs a_p1 a_p1_way a_p1_tell a_p1_look a_p1_place a_p1_farSquare t_bestPairs t_way'_6 t_bestWay t_readers'_2 t_chosen t_pairs p1_pillars p1_weavers p1_place p1_farSquare) s.heap H locs → lv_has ls 7 [(4, .int x4), (3, .int c3), (0, .ref a_t), (2, .int p2)] → (∀ (H : Heap) (locs : List Loc) (ls : Array Slot), m_H E A (wd_Turning_search E a_t a_t_way a_t_bestWay a_t_readers a_t_chosen a_t_pairs a_p1 a_p1_way a_p1_tell a_p1_look a_p1_place a_p1_farSquare t_bestPairs t_way'_7 t_bestWay t_readers'_2 t_chosen t_pairs p1_pillars p1_weavers p1_place p1_farSquare) s.heap H locs → lv_has ls 7 [(3, .int c3), (0, .ref a_t), (2, .int p2)] → W p l e rm_Turning_search s m args below meth c H locs 0 0 Q (F0 m 40 ls [])) → W p l e rm_Turning_search s m args below meth c H locs 0 0 Q (F0 m 19 ls []) := by
    clear hF
    intro k0
    induction k0 with
    | zero =>
      intro x4 t_way'_6 t_way'_7 H locs ls hF
      cases hF
    | succ k0 ih5 =>
      intro x4 t_way'_6 t_way'_7 H locs ls hF hW hl hk4
      rw [Turning_search_L19] at hF
      refine lv_iload hx hb dX10_search_19 (lv_at hl 0 rfl) ?_
      refine lv_bipush (v := (6 : Int32)) hx hb dX10_search_21 (by decide) ?_
      refine lv_icmp_ge (tgt := 40) hx hb dX10_search_23 (by decide) (fun c6 => ?_) (fun c6 => ?_)
      · have hF := if_y c6 hF
        cases hF
        exact hk4 _ _ _ hW (lv_sub hl [1, 2, 3] rfl)
      · have hF := if_n c6 hF
        refine lv_aload_n hx hb dX10_search_26 rfl (lv_at hl 2 rfl) ?_
        refine m_get X hW fdX10_11 0 rfl rfl dX10_search_27 ?_
        refine lv_iload hx hb dX10_search_30 (lv_at hl 0 rfl) ?_
        refine lv_iconst (v := (0 : Int32)) hx hb dX10_search_32 (by decide) ?_
        obtain ⟨g7, hF⟩ := gd_some hF
        refine m_iast X hW 1 (k := x4.toNatClampNeg) rfl g7 rfl dX10_search_33 (ws' := (wd_Turning_search E a_t a_t_way a_t_bestWay a_t_readers a_t_chosen a_t_pairs a_p1 a_p1_way a_p1_tell a_p1_look a_p1_place a_p1_farSquare t_bestPairs (upd t_way'_6 x4.toNatClampNeg (0 : Int32)) t_bestWay t_readers'_2 t_chosen t_pairs p1_pillars p1_weavers p1_place p1_farSquare)) rfl (fun H locs hW => ?_)
        refine lv_iinc (v := (x4 + (1 : Int32))) (lv' := [(4, .int (x4 + (1 : Int32))), (3, .int c3), (0, .ref a_t), (2, .int p2)]) hx hb dX10_search_34 hl (k := 0) rfl rfl (by decide) rfl (fun ls hl => ?_)
        refine lv_goto (tgt := 19) hx hb dX10_search_37 (by decide) ?_
        exact ih5 (x4 + (1 : Int32)) (upd t_way'_6 x4.toNatClampNeg (0 : Int32)) t_way'_7 _ _ _ hF hW (lv_sub hl [0, 1, 2, 3] rfl) hk4
  subst ec3
  refine L2 N (0 : Int32) t_way t_way'_7 _ _ _ hX3 hW (lv_sub hl [0, 1, 2, 4] rfl) ?_
  intro H locs ls hW hl
  clear L2
  refine lv_iconst (v := (0 : Int32)) hx hb dX10_search_40 (by decide) ?_
  refine lv_istore (lv' := [(4, .int (0 : Int32)), (3, .int (jmin p1_weavers (6 : Int32))), (0, .ref a_t), (2, .int p2)]) hx hb dX10_search_41 hl (by decide) rfl (fun ls hl => ?_)
  refine lv_iconst (v := (0 : Int32)) hx hb dX10_search_43 (by decide) ?_
  refine lv_istore (lv' := [(5, .int (0 : Int32)), (4, .int (0 : Int32)), (3, .int (jmin p1_weavers (6 : Int32))), (0, .ref a_t), (2, .int p2)]) hx hb dX10_search_44 hl (by decide) rfl (fun ls hl => ?_)
  obtain ⟨t_way'_10, t_bestWay'_6, t_chosen'_6, t_pairs'_6, t_bestPairs'_6, hX9, hF⟩ := bO_s5 hF
  obtain ⟨c3_2, ec3_2⟩ : ∃ z : Int32, z = (jmin p1_weavers (6 : Int32)) := ⟨_, rfl⟩
  have L8 : ∀ (k0 : Nat) (x4_2 : Int32) (x5 : Int32) (t_way'_8 : Nat → Int32) (t_bestWay'_4 : Nat → Int32) (t_chosen'_4 : Nat → Int32) (t_pairs'_4 : Nat → Int32) (t_bestPairs'_4 : Int32) (t_way'_10 : Nat → Int32) (t_bestWay'_6 : Nat → Int32) (t_chosen'_6 : Nat → Int32) (t_pairs'_6 : Nat → Int32) (t_bestPairs'_6 : Int32) (H : Heap) (locs : List Loc) (ls : Array Slot), Turning_search_L46 N c3_2 t_readers'_2 p2 k0 x4_2 x5 t_way'_8 t_bestWay'_4 t_chosen'_4 t_pairs'_4 t_bestPairs'_4 = some (t_way'_10, t_bestWay'_6, t_chosen'_6, t_pairs'_6, t_bestPairs'_6) → m_H E A (wd_Turning_search E a_t a_t_way a_t_bestWay a_t_readers a_t_chosen a_t_pairs a_p1 a_p1_way a_p1_tell a_p1_look a_p1_place a_p1_farSquare t_bestPairs'_4 t_way'_8 t_bestWay'_4 t_readers'_2 t_chosen'_4 t_pairs'_4 p1_pillars p1_weavers p1_place p1_farSquare) s.heap H locs → lv_has ls 7 [(5, .int x5), (4, .int x4_2), (3, .int c3_2), (0, .ref a_t), (2, .int p2)] → (∀ (H : Heap) (locs : List Loc) (ls : Array Slot), m_H E A (wd_Turning_search E a_t a_t_way a_t_bestWay a_t_readers a_t_chosen a_t_pairs a_p1 a_p1_way a_p1_tell a_p1_look a_p1_place a_p1_farSquare t_bestPairs'_6 t_way'_10 t_bestWay'_6 t_readers'_2 t_chosen'_6 t_pairs'_6 p1_pillars p1_weavers p1_place p1_farSquare) s.heap H locs → lv_has ls 7 [] → W p l e rm_Turning_search s m args below meth c H locs 0 0 Q (F0 m 135 ls [])) → W p l e rm_Turning_search s m args below meth c H locs 0 0 Q (F0 m 46 ls []) := by
    clear hF
    intro k0
    induction k0 with
    | zero =>
      intro x4_2 x5 t_way'_8 t_bestWay'_4 t_chosen'_4 t_pairs'_4 t_bestPairs'_4 t_way'_10 t_bestWay'_6 t_chosen'_6 t_pairs'_6 t_bestPairs'_6 H locs ls hF
      cases hF
    | succ k0 ih11 =>
      intro x4_2 x5 t_way'_8 t_bestWay'_4 t_chosen'_4 t_pairs'_4 t_bestPairs'_4 t_way'_10 t_bestWay'_6 t_chosen'_6 t_pairs'_6 t_bestPairs'_6 H locs ls hF hW hl hk10
      rw [Turning_search_L46] at hF
      refine lv_iload hx hb dX10_search_46 (lv_at hl 0 rfl) ?_
      refine lv_iconst (v := (1 : Int32)) hx hb dX10_search_48 (by decide) ?_
      refine lv_iconst (v := (2 : Int32)) hx hb dX10_search_49 (by decide) ?_
      refine lv_iload_n hx hb dX10_search_50 rfl (lv_at hl 2 rfl) ?_
      refine lv_imul hx hb dX10_search_51 ?_
      refine m_ishl hx hb dX10_search_52 ?_
      refine lv_icmp_ge (tgt := 135) hx hb dX10_search_53 (by decide) (fun c12 => ?_) (fun c12 => ?_)
      · have hF := if_y c12 hF
        cases hF
        exact hk10 _ _ _ hW (lv_sub hl [] rfl)
      · have hF := if_n c12 hF
        refine lv_aload_n hx hb dX10_search_56 rfl (lv_at hl 3 rfl) ?_
        refine lv_iload hx hb dX10_search_57 (lv_at hl 1 rfl) ?_
        refine lv_iload_n hx hb dX10_search_59 rfl (lv_at hl 2 rfl) ?_
        obtain ⟨t_chosen'_5, t_pairs'_5, hC13, hF⟩ := bO_s2 hF
        refine m_callV X hW hA hl.1 lkX10_47 (c_Turning_countPairs l E _ N a_t a_t_bestWay a_t_way a_t_readers a_t_chosen a_t_pairs t_bestPairs'_4 t_way'_8 t_readers'_2 t_chosen'_4 t_pairs'_4 x4_2 c3_2 (t_chosen'_5, t_pairs'_5) hC13) [0, 1, 3, 4, 5] (by decide) rfl rfl (ws' := (wd_Turning_search E a_t a_t_way a_t_bestWay a_t_readers a_t_chosen a_t_pairs a_p1 a_p1_way a_p1_tell a_p1_look a_p1_place a_p1_farSquare t_bestPairs'_4 t_way'_8 t_bestWay'_4 t_readers'_2 t_chosen'_5 t_pairs'_5 p1_pillars p1_weavers p1_place p1_farSquare)) rfl 0 rfl rfl rfl (As := [.int x4_2, .int c3_2]) (rest := []) rfl rfl ⟨rfl, rfl, Nat.le_of_ble_eq_true rfl, Nat.le_of_ble_eq_true rfl⟩ (Nat.le_of_ble_eq_true rfl) (Nat.zero_le _) (Nat.zero_le _) dX10_search_60 (fun H locs hW => ?_)
        clear hC13
        refine lv_aload_n hx hb dX10_search_63 rfl (lv_at hl 3 rfl) ?_
        refine m_get X hW fdX10_24 0 rfl rfl dX10_search_64 ?_
        refine lv_iload_n hx hb dX10_search_67 rfl (lv_at hl 2 rfl) ?_
        obtain ⟨g14, hF⟩ := gd_some hF
        refine m_iald X hW 5 (k := c3_2.toNatClampNeg) rfl g14 rfl dX10_search_68 ?_
        refine lv_istore (lv' := [(6, .int (t_pairs'_5 c3_2.toNatClampNeg)), (5, .int x5), (4, .int x4_2), (3, .int c3_2), (0, .ref a_t), (2, .int p2)]) hx hb dX10_search_69 hl (by decide) rfl (fun ls hl => ?_)
        refine lv_iload hx hb dX10_search_71 (lv_at hl 1 rfl) ?_
        obtain ⟨t_bestPairs'_5, t_bestWay'_5, hX16, hF⟩ := bO_s2 hF
        have J15 : ∀ (H : Heap) (locs : List Loc) (ls : Array Slot), m_H E A (wd_Turning_search E a_t a_t_way a_t_bestWay a_t_readers a_t_chosen a_t_pairs a_p1 a_p1_way a_p1_tell a_p1_look a_p1_place a_p1_farSquare t_bestPairs'_5 t_way'_8 t_bestWay'_5 t_readers'_2 t_chosen'_5 t_pairs'_5 p1_pillars p1_weavers p1_place p1_farSquare) s.heap H locs → lv_has ls 7 [(5, .int x5), (3, .int c3_2), (0, .ref a_t), (2, .int p2)] → W p l e rm_Turning_search s m args below meth c H locs 0 0 Q (F0 m 122 ls []) := by
          intro H locs ls hW hl
          refine lv_aload_n hx hb dX10_search_122 rfl (lv_at hl 2 rfl) ?_
          refine lv_iload_n hx hb dX10_search_123 rfl (lv_at hl 1 rfl) ?_
          obtain ⟨r124, t_way'_9, hC17, hF⟩ := bO_s2 hF
          refine m_callV X hW hA hl.1 lkX10_60 (c_Turning_turnToNext l E _ N a_t a_t_bestWay a_t_readers a_t_chosen a_t_pairs a_t_way t_bestPairs'_5 t_way'_8 c3_2 (r124, t_way'_9) hC17) [0, 1] (by decide) rfl rfl (ws' := (wd_Turning_search E a_t a_t_way a_t_bestWay a_t_readers a_t_chosen a_t_pairs a_p1 a_p1_way a_p1_tell a_p1_look a_p1_place a_p1_farSquare t_bestPairs'_5 t_way'_9 t_bestWay'_5 t_readers'_2 t_chosen'_5 t_pairs'_5 p1_pillars p1_weavers p1_place p1_farSquare)) rfl 0 rfl rfl rfl (As := [.int c3_2]) (rest := []) rfl rfl ⟨rfl, rfl, Nat.le_of_ble_eq_true rfl, Nat.le_of_ble_eq_true rfl⟩ (Nat.le_of_ble_eq_true rfl) (Nat.zero_le _) (Nat.zero_le _) dX10_search_124 (fun H locs hW => ?_)
          clear hC17
          refine lv_istore (lv' := [(4, .int r124), (5, .int x5), (3, .int c3_2), (0, .ref a_t), (2, .int p2)]) hx hb dX10_search_127 hl (by decide) rfl (fun ls hl => ?_)
          refine lv_iinc (v := (x5 + (1 : Int32))) (lv' := [(5, .int (x5 + (1 : Int32))), (4, .int r124), (3, .int c3_2), (0, .ref a_t), (2, .int p2)]) hx hb dX10_search_129 hl (k := 1) rfl rfl (by decide) rfl (fun ls hl => ?_)
          refine lv_goto (tgt := 46) hx hb dX10_search_132 (by decide) ?_
          exact ih11 r124 (x5 + (1 : Int32)) t_way'_9 t_bestWay'_5 t_chosen'_5 t_pairs'_5 t_bestPairs'_5 t_way'_10 t_bestWay'_6 t_chosen'_6 t_pairs'_6 t_bestPairs'_6 _ _ _ hF hW (lv_sub hl [0, 1, 2, 3, 4] rfl) hk10
        clear hF
        have hF := hX16
        clear hX16
        refine lv_if_eq (tgt := 101) hx hb dX10_search_73 (by decide) (fun c18 => ?_) (fun c18 => ?_)
        · have hF := if_y c18 hF
          refine lv_aload_n hx hb dX10_search_101 rfl (lv_at hl 4 rfl) ?_
          refine lv_iload hx hb dX10_search_102 (lv_at hl 0 rfl) ?_
          refine m_putf X hW fdX10_51 0 rfl (Nat.le_of_ble_eq_true rfl) rfl rfl dX10_search_104 (ws' := (wd_Turning_search E a_t a_t_way a_t_bestWay a_t_readers a_t_chosen a_t_pairs a_p1 a_p1_way a_p1_tell a_p1_look a_p1_place a_p1_farSquare (t_pairs'_5 c3_2.toNatClampNeg) t_way'_8 t_bestWay'_4 t_readers'_2 t_chosen'_5 t_pairs'_5 p1_pillars p1_weavers p1_place p1_farSquare)) rfl (fun H locs hW => ?_)
          refine lv_aload_n hx hb dX10_search_107 rfl (lv_at hl 4 rfl) ?_
          refine m_get X hW fdX10_11 0 rfl rfl dX10_search_108 ?_
          refine lv_iconst (v := (0 : Int32)) hx hb dX10_search_111 (by decide) ?_
          refine lv_aload_n hx hb dX10_search_112 rfl (lv_at hl 4 rfl) ?_
          refine m_get X hW fdX10_15 0 rfl rfl dX10_search_113 ?_
          refine lv_iconst (v := (0 : Int32)) hx hb dX10_search_116 (by decide) ?_
          refine lv_bipush (v := (6 : Int32)) hx hb dX10_search_117 (by decide) ?_
          refine m_copyi X hW hl.1 wk_866 wk_734 wk_733 wk_16 1 2 rfl rfl (by decide) rfl rfl rfl (Nat.le_of_ble_eq_true rfl) (Nat.le_of_ble_eq_true rfl) dX10_search_119 (ws' := (wd_Turning_search E a_t a_t_way a_t_bestWay a_t_readers a_t_chosen a_t_pairs a_p1 a_p1_way a_p1_tell a_p1_look a_p1_place a_p1_farSquare (t_pairs'_5 c3_2.toNatClampNeg) t_way'_8 (va_cpy t_way'_8 t_bestWay'_4 0 0 6) t_readers'_2 t_chosen'_5 t_pairs'_5 p1_pillars p1_weavers p1_place p1_farSquare)) (ksp := 0) (kdp := 0) (kn := 6) rfl (fun H locs hW => ?_)
          cases hF
          exact J15 _ _ _ hW (lv_sub hl [1, 3, 4, 5] rfl)
        · have hF := if_n c18 hF
          refine lv_iload_n hx hb dX10_search_76 rfl (lv_at hl 5 rfl) ?_
          refine lv_if_eq (tgt := 92) hx hb dX10_search_77 (by decide) (fun c19 => ?_) (fun c19 => ?_)
          · have hF := if_y c19 hF
            refine lv_iload hx hb dX10_search_92 (lv_at hl 0 rfl) ?_
            refine lv_aload_n hx hb dX10_search_94 rfl (lv_at hl 4 rfl) ?_
            refine m_get X hW fdX10_51 0 rfl rfl dX10_search_95 ?_
            refine lv_icmp_le (tgt := 122) hx hb dX10_search_98 (by decide) (fun c20 => ?_) (fun c20 => ?_)
            · have hF := if_y c20 hF
              cases hF
              exact J15 _ _ _ hW (lv_sub hl [1, 3, 4, 5] rfl)
            · have hF := if_n c20 hF
              refine lv_aload_n hx hb dX10_search_101 rfl (lv_at hl 4 rfl) ?_
              refine lv_iload hx hb dX10_search_102 (lv_at hl 0 rfl) ?_
              refine m_putf X hW fdX10_51 0 rfl (Nat.le_of_ble_eq_true rfl) rfl rfl dX10_search_104 (ws' := (wd_Turning_search E a_t a_t_way a_t_bestWay a_t_readers a_t_chosen a_t_pairs a_p1 a_p1_way a_p1_tell a_p1_look a_p1_place a_p1_farSquare (t_pairs'_5 c3_2.toNatClampNeg) t_way'_8 t_bestWay'_4 t_readers'_2 t_chosen'_5 t_pairs'_5 p1_pillars p1_weavers p1_place p1_farSquare)) rfl (fun H locs hW => ?_)
              refine lv_aload_n hx hb dX10_search_107 rfl (lv_at hl 4 rfl) ?_
              refine m_get X hW fdX10_11 0 rfl rfl dX10_search_108 ?_
              refine lv_iconst (v := (0 : Int32)) hx hb dX10_search_111 (by decide) ?_
              refine lv_aload_n hx hb dX10_search_112 rfl (lv_at hl 4 rfl) ?_
              refine m_get X hW fdX10_15 0 rfl rfl dX10_search_113 ?_
              refine lv_iconst (v := (0 : Int32)) hx hb dX10_search_116 (by decide) ?_
              refine lv_bipush (v := (6 : Int32)) hx hb dX10_search_117 (by decide) ?_
              refine m_copyi X hW hl.1 wk_866 wk_734 wk_733 wk_16 1 2 rfl rfl (by decide) rfl rfl rfl (Nat.le_of_ble_eq_true rfl) (Nat.le_of_ble_eq_true rfl) dX10_search_119 (ws' := (wd_Turning_search E a_t a_t_way a_t_bestWay a_t_readers a_t_chosen a_t_pairs a_p1 a_p1_way a_p1_tell a_p1_look a_p1_place a_p1_farSquare (t_pairs'_5 c3_2.toNatClampNeg) t_way'_8 (va_cpy t_way'_8 t_bestWay'_4 0 0 6) t_readers'_2 t_chosen'_5 t_pairs'_5 p1_pillars p1_weavers p1_place p1_farSquare)) (ksp := 0) (kdp := 0) (kn := 6) rfl (fun H locs hW => ?_)
              cases hF
              exact J15 _ _ _ hW (lv_sub hl [1, 3, 4, 5] rfl)
          · have hF := if_n c19 hF
            refine lv_iload hx hb dX10_search_80 (lv_at hl 0 rfl) ?_
            refine lv_aload_n hx hb dX10_search_82 rfl (lv_at hl 4 rfl) ?_
            refine m_get X hW fdX10_51 0 rfl rfl dX10_search_83 ?_
            refine lv_icmp_ge (tgt := 122) hx hb dX10_search_86 (by decide) (fun c21 => ?_) (fun c21 => ?_)
            · have hF := if_y c21 hF
              cases hF
              exact J15 _ _ _ hW (lv_sub hl [1, 3, 4, 5] rfl)
            · have hF := if_n c21 hF
              refine lv_goto (tgt := 101) hx hb dX10_search_89 (by decide) ?_
              refine lv_aload_n hx hb dX10_search_101 rfl (lv_at hl 4 rfl) ?_
              refine lv_iload hx hb dX10_search_102 (lv_at hl 0 rfl) ?_
              refine m_putf X hW fdX10_51 0 rfl (Nat.le_of_ble_eq_true rfl) rfl rfl dX10_search_104 (ws' := (wd_Turning_search E a_t a_t_way a_t_bestWay a_t_readers a_t_chosen a_t_pairs a_p1 a_p1_way a_p1_tell a_p1_look a_p1_place a_p1_farSquare (t_pairs'_5 c3_2.toNatClampNeg) t_way'_8 t_bestWay'_4 t_readers'_2 t_chosen'_5 t_pairs'_5 p1_pillars p1_weavers p1_place p1_farSquare)) rfl (fun H locs hW => ?_)
              refine lv_aload_n hx hb dX10_search_107 rfl (lv_at hl 4 rfl) ?_
              refine m_get X hW fdX10_11 0 rfl rfl dX10_search_108 ?_
              refine lv_iconst (v := (0 : Int32)) hx hb dX10_search_111 (by decide) ?_
              refine lv_aload_n hx hb dX10_search_112 rfl (lv_at hl 4 rfl) ?_
              refine m_get X hW fdX10_15 0 rfl rfl dX10_search_113 ?_
              refine lv_iconst (v := (0 : Int32)) hx hb dX10_search_116 (by decide) ?_
              refine lv_bipush (v := (6 : Int32)) hx hb dX10_search_117 (by decide) ?_
              refine m_copyi X hW hl.1 wk_866 wk_734 wk_733 wk_16 1 2 rfl rfl (by decide) rfl rfl rfl (Nat.le_of_ble_eq_true rfl) (Nat.le_of_ble_eq_true rfl) dX10_search_119 (ws' := (wd_Turning_search E a_t a_t_way a_t_bestWay a_t_readers a_t_chosen a_t_pairs a_p1 a_p1_way a_p1_tell a_p1_look a_p1_place a_p1_farSquare (t_pairs'_5 c3_2.toNatClampNeg) t_way'_8 (va_cpy t_way'_8 t_bestWay'_4 0 0 6) t_readers'_2 t_chosen'_5 t_pairs'_5 p1_pillars p1_weavers p1_place p1_farSquare)) (ksp := 0) (kdp := 0) (kn := 6) rfl (fun H locs hW => ?_)
              cases hF
              exact J15 _ _ _ hW (lv_sub hl [1, 3, 4, 5] rfl)
  subst ec3_2
  refine L8 N (0 : Int32) (0 : Int32) t_way'_7 t_bestWay t_chosen t_pairs t_bestPairs t_way'_10 t_bestWay'_6 t_chosen'_6 t_pairs'_6 t_bestPairs'_6 _ _ _ hX9 hW (lv_sub hl [0, 1, 2, 3, 4] rfl) ?_
  intro H locs ls hW hl
  clear L8
  have hq := Option.some.inj hF
  subst hq
  exact hret _ _ _ _ hW dX10_search_135
abbrev wd_Turning_bestWayOf (E : m_E) (a_t : Nat) (a_t_way : Nat) (a_t_readers : Nat) (a_t_chosen : Nat) (a_t_pairs : Nat) (a_t_bestWay : Nat) (t_bestPairs : Int32) (t_bestWay : Nat → Int32) : va_W := [(a_t, .inr (10, [.int t_bestPairs, .ref a_t_way, .ref a_t_bestWay, .ref a_t_readers, .ref a_t_chosen, .ref a_t_pairs])), (a_t_bestWay, .inl (E.2.1 0, 6, .inl t_bestWay))]
def rm_Turning_bestWayOf : Room := { frames := 1, cells := 0, slots := 0, locals := 22 }
set_option maxHeartbeats 4000000 in
set_option maxRecDepth 100000 in
theorem c_Turning_bestWayOf (l : Launch) (E : m_E) (sz N : Nat) (a_t : Nat) (a_t_way : Nat) (a_t_readers : Nat) (a_t_chosen : Nat) (a_t_pairs : Nat) (a_t_bestWay : Nat) (t_bestPairs : Int32) (t_bestWay : Nat → Int32) (p1 : Int32) (ures : Int32) (hF : F_Turning_bestWayOf p1 t_bestWay = some ures) : m_Met l yX10_bestWayOf cX10_bestWayOf 2 (some .int) rm_Turning_bestWayOf E (wd_Turning_bestWayOf E a_t a_t_way a_t_readers a_t_chosen a_t_pairs a_t_bestWay t_bestPairs t_bestWay) (wd_Turning_bestWayOf E a_t a_t_way a_t_readers a_t_chosen a_t_pairs a_t_bestWay t_bestPairs t_bestWay) sz [.ref a_t, .int p1] (some (.int ures)) := by
  refine m_ofI (by decide) (Nat.le_of_ble_eq_true rfl) ?_
  intro p e s m args below meth c A Q ls X hW hA hl hret
  obtain ⟨hx, hb, -, hown, hts, hK, -, hG⟩ := id X
  have hl : lv_has ls 2 [(0, .ref a_t), (1, .int p1)] := hl
  unfold F_Turning_bestWayOf at hF
  refine lv_iload_n hx hb dX10_bestWayOf_0 rfl (lv_at hl 1 rfl) ?_
  refine lv_iconst (v := (0 : Int32)) hx hb dX10_bestWayOf_1 (by decide) ?_
  refine lv_iconst (v := (5 : Int32)) hx hb dX10_bestWayOf_2 (by decide) ?_
  refine m_callN X hW hA hl.1 lkX10_27 (c_S_within l E _ N   p1 (0 : Int32) (5 : Int32) (F_S_within p1 (0 : Int32) (5 : Int32)) rfl) [] (by decide) rfl rfl (ws' := (wd_Turning_bestWayOf E a_t a_t_way a_t_readers a_t_chosen a_t_pairs a_t_bestWay t_bestPairs t_bestWay)) rfl (As := [.int p1, .int (0 : Int32), .int (5 : Int32)]) (rest := []) rfl rfl ⟨rfl, rfl, Nat.le_of_ble_eq_true rfl, Nat.le_of_ble_eq_true rfl⟩ (Nat.le_of_ble_eq_true rfl) (Nat.zero_le _) (Nat.zero_le _) dX10_bestWayOf_3 (fun H locs hW => ?_)
  refine lv_if_eq (tgt := 18) hx hb dX10_bestWayOf_6 (by decide) (fun c1 => ?_) (fun c1 => ?_)
  · have hF := if_y c1 hF
    refine lv_iconst (v := (-1 : Int32)) hx hb dX10_bestWayOf_18 (by decide) ?_
    have hq := Option.some.inj hF
    subst hq
    exact hret _ _ _ _ hW dX10_bestWayOf_19
  · have hF := if_n c1 hF
    refine lv_aload_n hx hb dX10_bestWayOf_9 rfl (lv_at hl 0 rfl) ?_
    refine m_get X hW fdX10_15 0 rfl rfl dX10_bestWayOf_10 ?_
    refine lv_iload_n hx hb dX10_bestWayOf_13 rfl (lv_at hl 1 rfl) ?_
    obtain ⟨g2, hF⟩ := gd_some hF
    refine m_iald X hW 1 (k := p1.toNatClampNeg) rfl g2 rfl dX10_bestWayOf_14 ?_
    refine lv_goto (tgt := 19) hx hb dX10_bestWayOf_15 (by decide) ?_
    have hq := Option.some.inj hF
    subst hq
    exact hret _ _ _ _ hW dX10_bestWayOf_19
abbrev wd_S_anew (E : m_E) (a_t : Nat) (a_t_draft : Nat) (a_t_firstImage : Nat) (a_t_secondImage : Nat) (a_t_news : Nat) (a_t_otherNews : Nat) (a_t_readings : Nat) (a_t_chances : Nat) (a_t_text : Nat) (a_t_fraction : Nat) (a_t_now : Nat) (a_t_now_sightings : Nat) (a_t_now_lexicon : Nat) (a_t_now_level : Nat) (a_t_now_loss : Nat) (a_t_now_floor : Nat) (a_t_now_floor_way : Nat) (a_t_now_floor_tell : Nat) (a_t_now_floor_look : Nat) (a_t_now_floor_place : Nat) (a_t_now_floor_farSquare : Nat) (a_t_turning : Nat) (a_t_turning_way : Nat) (a_t_turning_bestWay : Nat) (a_t_turning_readers : Nat) (a_t_turning_chosen : Nat) (a_t_turning_pairs : Nat) (t_now_clearness : Int32) (t_now_isKept : Int32) (t_now_floor_pillars : Int64) (t_now_floor_weavers : Int32) (t_now_floor_place : Nat → Int32) (t_now_floor_farSquare : Nat → Int32) (t_turning_bestPairs : Int32) (t_turning_way : Nat → Int32) (t_turning_bestWay : Nat → Int32) (t_turning_readers : Nat → Int32) (t_turning_chosen : Nat → Int32) (t_turning_pairs : Nat → Int32) : va_W := [(a_t, .inr (11, [.ref a_t_now, .ref a_t_draft, .ref a_t_firstImage, .ref a_t_secondImage, .ref a_t_news, .ref a_t_otherNews, .ref a_t_readings, .ref a_t_chances, .ref a_t_turning, .ref a_t_text, .ref a_t_fraction])), (a_t_now, .inr (7, [.ref a_t_now_floor, .ref a_t_now_sightings, .ref a_t_now_lexicon, .ref a_t_now_level, .ref a_t_now_loss, .int t_now_clearness, .int t_now_isKept])), (a_t_now_floor, .inr (1, [.long t_now_floor_pillars, .int t_now_floor_weavers, .ref a_t_now_floor_place, .ref a_t_now_floor_way, .ref a_t_now_floor_tell, .ref a_t_now_floor_look, .ref a_t_now_floor_farSquare])), (a_t_now_floor_place, .inl (E.2.1 0, 8, .inl t_now_floor_place)), (a_t_now_floor_farSquare, .inl (E.2.1 0, 2, .inl t_now_floor_farSquare)), (a_t_turning, .inr (10, [.int t_turning_bestPairs, .ref a_t_turning_way, .ref a_t_turning_bestWay, .ref a_t_turning_readers, .ref a_t_turning_chosen, .ref a_t_turning_pairs])), (a_t_turning_way, .inl (E.2.1 0, 6, .inl t_turning_way)), (a_t_turning_bestWay, .inl (E.2.1 0, 6, .inl t_turning_bestWay)), (a_t_turning_readers, .inl (E.2.1 0, 24, .inl t_turning_readers)), (a_t_turning_chosen, .inl (E.2.1 0, 7, .inl t_turning_chosen)), (a_t_turning_pairs, .inl (E.2.1 0, 7, .inl t_turning_pairs))]
def rm_S_anew : Room := { frames := 5, cells := 0, slots := 0, locals := 124 }
set_option maxHeartbeats 4000000 in
set_option maxRecDepth 100000 in
theorem c_S_anew (l : Launch) (E : m_E) (sz N : Nat) (a_t : Nat) (a_t_draft : Nat) (a_t_firstImage : Nat) (a_t_secondImage : Nat) (a_t_news : Nat) (a_t_otherNews : Nat) (a_t_readings : Nat) (a_t_chances : Nat) (a_t_text : Nat) (a_t_fraction : Nat) (a_t_now : Nat) (a_t_now_sightings : Nat) (a_t_now_lexicon : Nat) (a_t_now_level : Nat) (a_t_now_loss : Nat) (a_t_now_floor : Nat) (a_t_now_floor_way : Nat) (a_t_now_floor_tell : Nat) (a_t_now_floor_look : Nat) (a_t_now_floor_place : Nat) (a_t_now_floor_farSquare : Nat) (a_t_turning : Nat) (a_t_turning_way : Nat) (a_t_turning_bestWay : Nat) (a_t_turning_readers : Nat) (a_t_turning_chosen : Nat) (a_t_turning_pairs : Nat) (t_now_clearness : Int32) (t_now_isKept : Int32) (t_now_floor_pillars : Int64) (t_now_floor_weavers : Int32) (t_now_floor_place : Nat → Int32) (t_now_floor_farSquare : Nat → Int32) (t_turning_bestPairs : Int32) (t_turning_way : Nat → Int32) (t_turning_bestWay : Nat → Int32) (t_turning_readers : Nat → Int32) (t_turning_chosen : Nat → Int32) (t_turning_pairs : Nat → Int32) (p1 : Int32) (p2 : Int32) (ures : Int32 × Int32 × (Nat → Int32) × (Nat → Int32) × (Nat → Int32) × (Nat → Int32) × (Nat → Int32)) (hF : F_S_anew N p1 p2 t_now_floor_pillars t_now_floor_weavers t_now_floor_place t_now_floor_farSquare t_turning_bestPairs t_turning_way t_turning_bestWay t_turning_readers t_turning_chosen t_turning_pairs = some ures) : m_Met l yX11_anew cX11_anew 3 (some .int) rm_S_anew E (wd_S_anew E a_t a_t_draft a_t_firstImage a_t_secondImage a_t_news a_t_otherNews a_t_readings a_t_chances a_t_text a_t_fraction a_t_now a_t_now_sightings a_t_now_lexicon a_t_now_level a_t_now_loss a_t_now_floor a_t_now_floor_way a_t_now_floor_tell a_t_now_floor_look a_t_now_floor_place a_t_now_floor_farSquare a_t_turning a_t_turning_way a_t_turning_bestWay a_t_turning_readers a_t_turning_chosen a_t_turning_pairs t_now_clearness t_now_isKept t_now_floor_pillars t_now_floor_weavers t_now_floor_place t_now_floor_farSquare t_turning_bestPairs t_turning_way t_turning_bestWay t_turning_readers t_turning_chosen t_turning_pairs) (wd_S_anew E a_t a_t_draft a_t_firstImage a_t_secondImage a_t_news a_t_otherNews a_t_readings a_t_chances a_t_text a_t_fraction a_t_now a_t_now_sightings a_t_now_lexicon a_t_now_level a_t_now_loss a_t_now_floor a_t_now_floor_way a_t_now_floor_tell a_t_now_floor_look a_t_now_floor_place a_t_now_floor_farSquare a_t_turning a_t_turning_way a_t_turning_bestWay a_t_turning_readers a_t_turning_chosen a_t_turning_pairs t_now_clearness t_now_isKept t_now_floor_pillars t_now_floor_weavers t_now_floor_place t_now_floor_farSquare ures.2.1 ures.2.2.1 ures.2.2.2.1 ures.2.2.2.2.1 ures.2.2.2.2.2.1 ures.2.2.2.2.2.2) sz [.ref a_t, .int p1, .int p2] (some (.int ures.1)) := by
  refine m_ofI (by decide) (Nat.le_of_ble_eq_true rfl) ?_
  intro p e s m args below meth c A Q ls X hW hA hl hret
  obtain ⟨hx, hb, -, hown, hts, hK, -, hG⟩ := id X
  have hl : lv_has ls 3 [(0, .ref a_t), (1, .int p1), (2, .int p2)] := hl
  unfold F_S_anew at hF
  refine lv_iload_n hx hb dX11_anew_0 rfl (lv_at hl 1 rfl) ?_
  refine lv_iconst (v := (0 : Int32)) hx hb dX11_anew_1 (by decide) ?_
  refine lv_iconst (v := (1 : Int32)) hx hb dX11_anew_2 (by decide) ?_
  refine m_callS X hW hA hl.1 lkX11_98 (c_S_within l E _ N   p1 (0 : Int32) (1 : Int32) (F_S_within p1 (0 : Int32) (1 : Int32)) rfl) [] (by decide) rfl rfl (ws' := (wd_S_anew E a_t a_t_draft a_t_firstImage a_t_secondImage a_t_news a_t_otherNews a_t_readings a_t_chances a_t_text a_t_fraction a_t_now a_t_now_sightings a_t_now_lexicon a_t_now_level a_t_now_loss a_t_now_floor a_t_now_floor_way a_t_now_floor_tell a_t_now_floor_look a_t_now_floor_place a_t_now_floor_farSquare a_t_turning a_t_turning_way a_t_turning_bestWay a_t_turning_readers a_t_turning_chosen a_t_turning_pairs t_now_clearness t_now_isKept t_now_floor_pillars t_now_floor_weavers t_now_floor_place t_now_floor_farSquare t_turning_bestPairs t_turning_way t_turning_bestWay t_turning_readers t_turning_chosen t_turning_pairs)) rfl (As := [.int p1, .int (0 : Int32), .int (1 : Int32)]) (rest := []) rfl rfl ⟨rfl, rfl, Nat.le_of_ble_eq_true rfl, Nat.le_of_ble_eq_true rfl⟩ (Nat.le_of_ble_eq_true rfl) (Nat.zero_le _) (Nat.zero_le _) dX11_anew_3 (fun H locs hW => ?_)
  refine lv_if_eq (tgt := 29) hx hb dX11_anew_6 (by decide) (fun c1 => ?_) (fun c1 => ?_)
  · have hF := if_y c1 hF
    refine lv_bipush (v := (-10 : Int32)) hx hb dX11_anew_29 (by decide) ?_
    have hq := Option.some.inj hF
    subst hq
    exact hret _ _ _ _ hW dX11_anew_31
  · have hF := if_n c1 hF
    refine lv_iload_n hx hb dX11_anew_9 rfl (lv_at hl 2 rfl) ?_
    refine lv_iconst (v := (-1 : Int32)) hx hb dX11_anew_10 (by decide) ?_
    refine lv_aload_n hx hb dX11_anew_11 rfl (lv_at hl 0 rfl) ?_
    refine m_get X hW fdX11_10 0 rfl rfl dX11_anew_12 ?_
    refine m_get X hW fdX11_70 1 rfl rfl dX11_anew_15 ?_
    refine m_get X hW fdX11_144 2 rfl rfl dX11_anew_18 ?_
    refine lv_iconst (v := (1 : Int32)) hx hb dX11_anew_21 (by decide) ?_
    refine lv_isub hx hb dX11_anew_22 ?_
    refine m_callS X hW hA hl.1 lkX11_98 (c_S_within l E _ N   p2 (-1 : Int32) (t_now_floor_weavers - (1 : Int32)) (F_S_within p2 (-1 : Int32) (t_now_floor_weavers - (1 : Int32))) rfl) [] (by decide) rfl rfl (ws' := (wd_S_anew E a_t a_t_draft a_t_firstImage a_t_secondImage a_t_news a_t_otherNews a_t_readings a_t_chances a_t_text a_t_fraction a_t_now a_t_now_sightings a_t_now_lexicon a_t_now_level a_t_now_loss a_t_now_floor a_t_now_floor_way a_t_now_floor_tell a_t_now_floor_look a_t_now_floor_place a_t_now_floor_farSquare a_t_turning a_t_turning_way a_t_turning_bestWay a_t_turning_readers a_t_turning_chosen a_t_turning_pairs t_now_clearness t_now_isKept t_now_floor_pillars t_now_floor_weavers t_now_floor_place t_now_floor_farSquare t_turning_bestPairs t_turning_way t_turning_bestWay t_turning_readers t_turning_chosen t_turning_pairs)) rfl (As := [.int p2, .int (-1 : Int32), .int (t_now_floor_weavers - (1 : Int32))]) (rest := []) rfl rfl ⟨rfl, rfl, Nat.le_of_ble_eq_true rfl, Nat.le_of_ble_eq_true rfl⟩ (Nat.le_of_ble_eq_true rfl) (Nat.zero_le _) (Nat.zero_le _) dX11_anew_23 (fun H locs hW => ?_)
    refine lv_if_ne (tgt := 32) hx hb dX11_anew_26 (by decide) (fun c2 => ?_) (fun c2 => ?_)
    · have hF := if_n c2 hF
      refine lv_aload_n hx hb dX11_anew_32 rfl (lv_at hl 0 rfl) ?_
      refine m_get X hW fdX11_10 0 rfl rfl dX11_anew_33 ?_
      refine m_get X hW fdX11_70 1 rfl rfl dX11_anew_36 ?_
      refine m_get X hW fdX11_144 2 rfl rfl dX11_anew_39 ?_
      refine lv_bipush (v := (6 : Int32)) hx hb dX11_anew_42 (by decide) ?_
      refine lv_icmp_le (tgt := 50) hx hb dX11_anew_44 (by decide) (fun c3 => ?_) (fun c3 => ?_)
      · have hF := if_y c3 hF
        refine lv_aload_n hx hb dX11_anew_50 rfl (lv_at hl 0 rfl) ?_
        refine m_get X hW fdX11_52 0 rfl rfl dX11_anew_51 ?_
        refine lv_aload_n hx hb dX11_anew_54 rfl (lv_at hl 0 rfl) ?_
        refine m_get X hW fdX11_10 0 rfl rfl dX11_anew_55 ?_
        refine m_get X hW fdX11_70 1 rfl rfl dX11_anew_58 ?_
        refine lv_iload_n hx hb dX11_anew_61 rfl (lv_at hl 1 rfl) ?_
        refine lv_iconst (v := (1 : Int32)) hx hb dX11_anew_62 (by decide) ?_
        obtain ⟨y2, hX5, hF⟩ := bO_s1 hF
        have J4 : ∀ (H : Heap) (locs : List Loc) (ls : Array Slot), m_H E A (wd_S_anew E a_t a_t_draft a_t_firstImage a_t_secondImage a_t_news a_t_otherNews a_t_readings a_t_chances a_t_text a_t_fraction a_t_now a_t_now_sightings a_t_now_lexicon a_t_now_level a_t_now_loss a_t_now_floor a_t_now_floor_way a_t_now_floor_tell a_t_now_floor_look a_t_now_floor_place a_t_now_floor_farSquare a_t_turning a_t_turning_way a_t_turning_bestWay a_t_turning_readers a_t_turning_chosen a_t_turning_pairs t_now_clearness t_now_isKept t_now_floor_pillars t_now_floor_weavers t_now_floor_place t_now_floor_farSquare t_turning_bestPairs t_turning_way t_turning_bestWay t_turning_readers t_turning_chosen t_turning_pairs) s.heap H locs → lv_has ls 3 [(0, .ref a_t), (2, .int p2)] → W p l e rm_S_anew s m args below meth c H locs 0 0 Q (F0 m 71 ls [.int y2, .ref a_t_now_floor, .ref a_t_turning]) := by
          intro H locs ls hW hl
          obtain ⟨t_turning_bestPairs'_2, t_turning_way'_2, t_turning_bestWay'_2, t_turning_readers'_2, t_turning_chosen'_2, t_turning_pairs'_2, hC6, hF⟩ := bO_s6 hF
          refine m_callV X hW hA hl.1 lkX11_255 (c_Turning_search l E _ N a_t_turning a_t_turning_way a_t_turning_bestWay a_t_turning_readers a_t_turning_chosen a_t_turning_pairs a_t_now_floor a_t_now_floor_way a_t_now_floor_tell a_t_now_floor_look a_t_now_floor_place a_t_now_floor_farSquare t_turning_bestPairs t_turning_way t_turning_bestWay t_turning_readers t_turning_chosen t_turning_pairs t_now_floor_pillars t_now_floor_weavers t_now_floor_place t_now_floor_farSquare y2 (t_turning_bestPairs'_2, t_turning_way'_2, t_turning_bestWay'_2, t_turning_readers'_2, t_turning_chosen'_2, t_turning_pairs'_2) hC6) [5, 6, 7, 8, 9, 10, 2, 3, 4] (by decide) rfl rfl (ws' := (wd_S_anew E a_t a_t_draft a_t_firstImage a_t_secondImage a_t_news a_t_otherNews a_t_readings a_t_chances a_t_text a_t_fraction a_t_now a_t_now_sightings a_t_now_lexicon a_t_now_level a_t_now_loss a_t_now_floor a_t_now_floor_way a_t_now_floor_tell a_t_now_floor_look a_t_now_floor_place a_t_now_floor_farSquare a_t_turning a_t_turning_way a_t_turning_bestWay a_t_turning_readers a_t_turning_chosen a_t_turning_pairs t_now_clearness t_now_isKept t_now_floor_pillars t_now_floor_weavers t_now_floor_place t_now_floor_farSquare t_turning_bestPairs'_2 t_turning_way'_2 t_turning_bestWay'_2 t_turning_readers'_2 t_turning_chosen'_2 t_turning_pairs'_2)) rfl 5 rfl rfl rfl (As := [.ref a_t_now_floor, .int y2]) (rest := []) rfl rfl ⟨rfl, rfl, Nat.le_of_ble_eq_true rfl, Nat.le_of_ble_eq_true rfl⟩ (Nat.le_of_ble_eq_true rfl) (Nat.zero_le _) (Nat.zero_le _) dX11_anew_71 (fun H locs hW => ?_)
          clear hC6
          refine lv_iload_n hx hb dX11_anew_74 rfl (lv_at hl 1 rfl) ?_
          refine lv_iconst (v := (-1 : Int32)) hx hb dX11_anew_75 (by decide) ?_
          refine lv_icmp_ne (tgt := 89) hx hb dX11_anew_76 (by decide) (fun c7 => ?_) (fun c7 => ?_)
          · have hF := if_n c7 hF
            refine lv_aload_n hx hb dX11_anew_89 rfl (lv_at hl 0 rfl) ?_
            refine m_get X hW fdX11_52 0 rfl rfl dX11_anew_90 ?_
            refine lv_iload_n hx hb dX11_anew_93 rfl (lv_at hl 1 rfl) ?_
            obtain ⟨r94, hC8, hF⟩ := bO_s1 hF
            refine m_callV X hW hA hl.1 lkX11_262 (c_Turning_bestWayOf l E _ N a_t_turning a_t_turning_way a_t_turning_readers a_t_turning_chosen a_t_turning_pairs a_t_turning_bestWay t_turning_bestPairs'_2 t_turning_bestWay'_2 p2 r94 hC8) [5, 7] (by decide) rfl rfl (ws' := (wd_S_anew E a_t a_t_draft a_t_firstImage a_t_secondImage a_t_news a_t_otherNews a_t_readings a_t_chances a_t_text a_t_fraction a_t_now a_t_now_sightings a_t_now_lexicon a_t_now_level a_t_now_loss a_t_now_floor a_t_now_floor_way a_t_now_floor_tell a_t_now_floor_look a_t_now_floor_place a_t_now_floor_farSquare a_t_turning a_t_turning_way a_t_turning_bestWay a_t_turning_readers a_t_turning_chosen a_t_turning_pairs t_now_clearness t_now_isKept t_now_floor_pillars t_now_floor_weavers t_now_floor_place t_now_floor_farSquare t_turning_bestPairs'_2 t_turning_way'_2 t_turning_bestWay'_2 t_turning_readers'_2 t_turning_chosen'_2 t_turning_pairs'_2)) rfl 5 rfl rfl rfl (As := [.int p2]) (rest := []) rfl rfl ⟨rfl, rfl, Nat.le_of_ble_eq_true rfl, Nat.le_of_ble_eq_true rfl⟩ (Nat.le_of_ble_eq_true rfl) (Nat.zero_le _) (Nat.zero_le _) dX11_anew_94 (fun H locs hW => ?_)
            clear hC8
            have hq := Option.some.inj hF
            subst hq
            exact hret _ _ _ _ hW dX11_anew_97
          · have hF := if_y c7 hF
            refine lv_aload_n hx hb dX11_anew_79 rfl (lv_at hl 0 rfl) ?_
            refine m_get X hW fdX11_52 0 rfl rfl dX11_anew_80 ?_
            refine m_get X hW fdX11_259 5 rfl rfl dX11_anew_83 ?_
            refine lv_goto (tgt := 97) hx hb dX11_anew_86 (by decide) ?_
            have hq := Option.some.inj hF
            subst hq
            exact hret _ _ _ _ hW dX11_anew_97
        clear hF
        have hF := hX5
        clear hX5
        refine lv_icmp_ne (tgt := 70) hx hb dX11_anew_63 (by decide) (fun c9 => ?_) (fun c9 => ?_)
        · have hF := if_n c9 hF
          refine lv_iconst (v := (0 : Int32)) hx hb dX11_anew_70 (by decide) ?_
          cases hF
          exact J4 _ _ _ hW (lv_sub hl [0, 2] rfl)
        · have hF := if_y c9 hF
          refine lv_iconst (v := (1 : Int32)) hx hb dX11_anew_66 (by decide) ?_
          refine lv_goto (tgt := 71) hx hb dX11_anew_67 (by decide) ?_
          cases hF
          exact J4 _ _ _ hW (lv_sub hl [0, 2] rfl)
      · have hF := if_n c3 hF
        refine lv_bipush (v := (-20 : Int32)) hx hb dX11_anew_47 (by decide) ?_
        have hq := Option.some.inj hF
        subst hq
        exact hret _ _ _ _ hW dX11_anew_49
    · have hF := if_y c2 hF
      refine lv_bipush (v := (-10 : Int32)) hx hb dX11_anew_29 (by decide) ?_
      have hq := Option.some.inj hF
      subst hq
      exact hret _ _ _ _ hW dX11_anew_31
abbrev wd_Text_add (E : m_E) (a_t : Nat) (a_t_itemKind : Nat) (a_t_numbersOf : Nat) (a_t_number : Nat) (a_t_row : Nat) (t_bytes : Int32) (t_items : Int32) (t_at : Int32) (t_token : Int32) (t_tokenAt : Int32) (t_tokenNumber : Int32) (t_row : Nat → Int32) : va_W := [(a_t, .inr (9, [.int t_bytes, .int t_items, .ref a_t_row, .ref a_t_itemKind, .ref a_t_numbersOf, .ref a_t_number, .int t_at, .int t_token, .int t_tokenAt, .int t_tokenNumber])), (a_t_row, .inl (E.2.1 0, 240, .inl t_row))]
def rm_Text_add : Room := { frames := 1, cells := 0, slots := 0, locals := 22 }
set_option maxHeartbeats 4000000 in
set_option maxRecDepth 100000 in
theorem c_Text_add (l : Launch) (E : m_E) (sz N : Nat) (a_t : Nat) (a_t_itemKind : Nat) (a_t_numbersOf : Nat) (a_t_number : Nat) (a_t_row : Nat) (t_bytes : Int32) (t_items : Int32) (t_at : Int32) (t_token : Int32) (t_tokenAt : Int32) (t_tokenNumber : Int32) (t_row : Nat → Int32) (p1 : Int64) (p2 : Int32) (ures : Int32 × Int32 × (Nat → Int32)) (hF : F_Text_add N p1 p2 t_bytes t_row = some ures) : m_Met l yX9_add cX9_add 5 (some .int) rm_Text_add E (wd_Text_add E a_t a_t_itemKind a_t_numbersOf a_t_number a_t_row t_bytes t_items t_at t_token t_tokenAt t_tokenNumber t_row) (wd_Text_add E a_t a_t_itemKind a_t_numbersOf a_t_number a_t_row ures.2.1 t_items t_at t_token t_tokenAt t_tokenNumber ures.2.2) sz [.ref a_t, .long p1, .int p2] (some (.int ures.1)) := by
  refine m_ofI (by decide) (Nat.le_of_ble_eq_true rfl) ?_
  intro p e s m args below meth c A Q ls X hW hA hl hret
  obtain ⟨hx, hb, -, hown, hts, hK, -, hG⟩ := id X
  have hl : lv_has ls 5 [(0, .ref a_t), (1, .long p1), (3, .int p2)] := hl
  unfold F_Text_add at hF
  refine lv_iload_n hx hb dX9_add_0 rfl (lv_at hl 2 rfl) ?_
  refine lv_iconst (v := (1 : Int32)) hx hb dX9_add_1 (by decide) ?_
  refine lv_bipush (v := (8 : Int32)) hx hb dX9_add_2 (by decide) ?_
  refine m_callN X hW hA hl.1 lkX9_26 (c_S_within l E _ N   p2 (1 : Int32) (8 : Int32) (F_S_within p2 (1 : Int32) (8 : Int32)) rfl) [] (by decide) rfl rfl (ws' := (wd_Text_add E a_t a_t_itemKind a_t_numbersOf a_t_number a_t_row t_bytes t_items t_at t_token t_tokenAt t_tokenNumber t_row)) rfl (As := [.int p2, .int (1 : Int32), .int (8 : Int32)]) (rest := []) rfl rfl ⟨rfl, rfl, Nat.le_of_ble_eq_true rfl, Nat.le_of_ble_eq_true rfl⟩ (Nat.le_of_ble_eq_true rfl) (Nat.zero_le _) (Nat.zero_le _) dX9_add_4 (fun H locs hW => ?_)
  refine lv_if_ne (tgt := 13) hx hb dX9_add_7 (by decide) (fun c1 => ?_) (fun c1 => ?_)
  · have hF := if_n c1 hF
    refine lv_aload_n hx hb dX9_add_13 rfl (lv_at hl 0 rfl) ?_
    refine m_get X hW fdX9_30 0 rfl rfl dX9_add_14 ?_
    refine lv_iload_n hx hb dX9_add_17 rfl (lv_at hl 2 rfl) ?_
    refine lv_iadd hx hb dX9_add_18 ?_
    refine lv_sipush (v := (240 : Int32)) hx hb dX9_add_19 (by decide) ?_
    refine lv_icmp_le (tgt := 28) hx hb dX9_add_22 (by decide) (fun c2 => ?_) (fun c2 => ?_)
    · have hF := if_y c2 hF
      refine lv_iload_n hx hb dX9_add_28 rfl (lv_at hl 2 rfl) ?_
      refine lv_iconst (v := (1 : Int32)) hx hb dX9_add_29 (by decide) ?_
      refine lv_isub hx hb dX9_add_30 ?_
      refine lv_istore (lv' := [(4, .int (p2 - (1 : Int32))), (0, .ref a_t), (1, .long p1), (3, .int p2)]) hx hb dX9_add_31 hl (by decide) rfl (fun ls hl => ?_)
      obtain ⟨t_row'_4, t_bytes'_4, hX4, hF⟩ := bO_s2 hF
      have L3 : ∀ (k0 : Nat) (x4 : Int32) (t_row'_3 : Nat → Int32) (t_bytes'_3 : Int32) (t_row'_4 : Nat → Int32) (t_bytes'_4 : Int32) (H : Heap) (locs : List Loc) (ls : Array Slot), Text_add_L33 p1 k0 x4 t_row'_3 t_bytes'_3 = some (t_row'_4, t_bytes'_4) → m_H E A (wd_Text_add E a_t a_t_itemKind a_t_numbersOf a_t_number a_t_row t_bytes'_3 t_items t_at t_token t_tokenAt t_tokenNumber t_row'_3) s.heap H locs → lv_has ls 5 [(4, .int x4), (0, .ref a_t), (1, .long p1)] → (∀ (H : Heap) (locs : List Loc) (ls : Array Slot), m_H E A (wd_Text_add E a_t a_t_itemKind a_t_numbersOf a_t_number a_t_row t_bytes'_4 t_items t_at t_token t_tokenAt t_tokenNumber t_row'_4) s.heap H locs → lv_has ls 5 [(0, .ref a_t)] → W p l e rm_Text_add s m args below meth c H locs 0 0 Q (F0 m 75 ls [])) → W p l e rm_Text_add s m args below meth c H locs 0 0 Q (F0 m 33 ls []) := by
        clear hF
        intro k0
        induction k0 with
        | zero =>
          intro x4 t_row'_3 t_bytes'_3 t_row'_4 t_bytes'_4 H locs ls hF
          cases hF
        | succ k0 ih6 =>
          intro x4 t_row'_3 t_bytes'_3 t_row'_4 t_bytes'_4 H locs ls hF hW hl hk5
          rw [Text_add_L33] at hF
          refine lv_iload hx hb dX9_add_33 (lv_at hl 0 rfl) ?_
          refine lv_if_lt (tgt := 75) hx hb dX9_add_35 (by decide) (fun c7 => ?_) (fun c7 => ?_)
          · have hF := if_y c7 hF
            cases hF
            exact hk5 _ _ _ hW (lv_sub hl [1] rfl)
          · have hF := if_n c7 hF
            refine lv_aload_n hx hb dX9_add_38 rfl (lv_at hl 1 rfl) ?_
            refine m_get X hW fdX9_11 0 rfl rfl dX9_add_39 ?_
            refine lv_aload_n hx hb dX9_add_42 rfl (lv_at hl 1 rfl) ?_
            refine m_get X hW fdX9_30 0 rfl rfl dX9_add_43 ?_
            refine lv_lload_n hx hb dX9_add_46 rfl (lv_at hl 2 rfl) ?_
            refine lv_bipush (v := (8 : Int32)) hx hb dX9_add_47 (by decide) ?_
            refine lv_iload hx hb dX9_add_49 (lv_at hl 0 rfl) ?_
            refine lv_imul hx hb dX9_add_51 ?_
            refine m_lushr hx hb dX9_add_52 ?_
            refine lv_ldc2 (v := (255 : Int64)) hx hb hown (hts _ wk_885) dX9_add_53 ?_
            refine lv_land hx hb dX9_add_56 ?_
            refine lv_l2i (v := ((jushrL p1 ((8 : Int32) * x4)) &&& (255 : Int64)).toInt32) hx hb dX9_add_57 rfl ?_
            obtain ⟨g8, hF⟩ := gd_some hF
            refine m_iast X hW 1 (k := t_bytes'_3.toNatClampNeg) rfl g8 rfl dX9_add_58 (ws' := (wd_Text_add E a_t a_t_itemKind a_t_numbersOf a_t_number a_t_row t_bytes'_3 t_items t_at t_token t_tokenAt t_tokenNumber (upd t_row'_3 t_bytes'_3.toNatClampNeg ((jushrL p1 ((8 : Int32) * x4)) &&& (255 : Int64)).toInt32))) rfl (fun H locs hW => ?_)
            refine lv_aload_n hx hb dX9_add_59 rfl (lv_at hl 1 rfl) ?_
            refine lv_dup hx hb dX9_add_60 rfl ?_
            refine m_get X hW fdX9_30 0 rfl rfl dX9_add_61 ?_
            refine lv_iconst (v := (1 : Int32)) hx hb dX9_add_64 (by decide) ?_
            refine lv_iadd hx hb dX9_add_65 ?_
            refine m_putf X hW fdX9_30 0 rfl (Nat.le_of_ble_eq_true rfl) rfl rfl dX9_add_66 (ws' := (wd_Text_add E a_t a_t_itemKind a_t_numbersOf a_t_number a_t_row (t_bytes'_3 + (1 : Int32)) t_items t_at t_token t_tokenAt t_tokenNumber (upd t_row'_3 t_bytes'_3.toNatClampNeg ((jushrL p1 ((8 : Int32) * x4)) &&& (255 : Int64)).toInt32))) rfl (fun H locs hW => ?_)
            refine lv_iinc (v := (x4 + (-1 : Int32))) (lv' := [(4, .int (x4 + (-1 : Int32))), (0, .ref a_t), (1, .long p1)]) hx hb dX9_add_69 hl (k := 0) rfl rfl (by decide) rfl (fun ls hl => ?_)
            refine lv_goto (tgt := 33) hx hb dX9_add_72 (by decide) ?_
            exact ih6 (x4 + (-1 : Int32)) (upd t_row'_3 t_bytes'_3.toNatClampNeg ((jushrL p1 ((8 : Int32) * x4)) &&& (255 : Int64)).toInt32) (t_bytes'_3 + (1 : Int32)) t_row'_4 t_bytes'_4 _ _ _ hF hW (lv_sub hl [0, 1, 2] rfl) hk5
      refine L3 N (p2 - (1 : Int32)) t_row t_bytes t_row'_4 t_bytes'_4 _ _ _ hX4 hW (lv_sub hl [0, 1, 2] rfl) ?_
      intro H locs ls hW hl
      clear L3
      refine lv_aload_n hx hb dX9_add_75 rfl (lv_at hl 0 rfl) ?_
      refine m_get X hW fdX9_30 0 rfl rfl dX9_add_76 ?_
      have hq := Option.some.inj hF
      subst hq
      exact hret _ _ _ _ hW dX9_add_79
    · have hF := if_n c2 hF
      refine lv_bipush (v := (-4 : Int32)) hx hb dX9_add_25 (by decide) ?_
      have hq := Option.some.inj hF
      subst hq
      exact hret _ _ _ _ hW dX9_add_27
  · have hF := if_y c1 hF
    refine lv_bipush (v := (-2 : Int32)) hx hb dX9_add_10 (by decide) ?_
    have hq := Option.some.inj hF
    subst hq
    exact hret _ _ _ _ hW dX9_add_12
abbrev wd_S_type (E : m_E) (a_t : Nat) (a_t_now : Nat) (a_t_draft : Nat) (a_t_firstImage : Nat) (a_t_secondImage : Nat) (a_t_news : Nat) (a_t_otherNews : Nat) (a_t_readings : Nat) (a_t_chances : Nat) (a_t_turning : Nat) (a_t_fraction : Nat) (a_t_text : Nat) (a_t_text_itemKind : Nat) (a_t_text_numbersOf : Nat) (a_t_text_number : Nat) (a_t_text_row : Nat) (t_text_bytes : Int32) (t_text_items : Int32) (t_text_at : Int32) (t_text_token : Int32) (t_text_tokenAt : Int32) (t_text_tokenNumber : Int32) (t_text_row : Nat → Int32) : va_W := [(a_t, .inr (11, [.ref a_t_now, .ref a_t_draft, .ref a_t_firstImage, .ref a_t_secondImage, .ref a_t_news, .ref a_t_otherNews, .ref a_t_readings, .ref a_t_chances, .ref a_t_turning, .ref a_t_text, .ref a_t_fraction])), (a_t_text, .inr (9, [.int t_text_bytes, .int t_text_items, .ref a_t_text_row, .ref a_t_text_itemKind, .ref a_t_text_numbersOf, .ref a_t_text_number, .int t_text_at, .int t_text_token, .int t_text_tokenAt, .int t_text_tokenNumber])), (a_t_text_row, .inl (E.2.1 0, 240, .inl t_text_row))]
def rm_S_type : Room := { frames := 2, cells := 0, slots := 0, locals := 46 }
set_option maxHeartbeats 4000000 in
set_option maxRecDepth 100000 in
theorem c_S_type (l : Launch) (E : m_E) (sz N : Nat) (a_t : Nat) (a_t_now : Nat) (a_t_draft : Nat) (a_t_firstImage : Nat) (a_t_secondImage : Nat) (a_t_news : Nat) (a_t_otherNews : Nat) (a_t_readings : Nat) (a_t_chances : Nat) (a_t_turning : Nat) (a_t_fraction : Nat) (a_t_text : Nat) (a_t_text_itemKind : Nat) (a_t_text_numbersOf : Nat) (a_t_text_number : Nat) (a_t_text_row : Nat) (t_text_bytes : Int32) (t_text_items : Int32) (t_text_at : Int32) (t_text_token : Int32) (t_text_tokenAt : Int32) (t_text_tokenNumber : Int32) (t_text_row : Nat → Int32) (p1 : Int64) (p2 : Int32) (ures : Int32 × Int32 × (Nat → Int32)) (hF : F_S_type N p1 p2 t_text_bytes t_text_row = some ures) : m_Met l yX11_type cX11_type 4 (some .int) rm_S_type E (wd_S_type E a_t a_t_now a_t_draft a_t_firstImage a_t_secondImage a_t_news a_t_otherNews a_t_readings a_t_chances a_t_turning a_t_fraction a_t_text a_t_text_itemKind a_t_text_numbersOf a_t_text_number a_t_text_row t_text_bytes t_text_items t_text_at t_text_token t_text_tokenAt t_text_tokenNumber t_text_row) (wd_S_type E a_t a_t_now a_t_draft a_t_firstImage a_t_secondImage a_t_news a_t_otherNews a_t_readings a_t_chances a_t_turning a_t_fraction a_t_text a_t_text_itemKind a_t_text_numbersOf a_t_text_number a_t_text_row ures.2.1 t_text_items t_text_at t_text_token t_text_tokenAt t_text_tokenNumber ures.2.2) sz [.ref a_t, .long p1, .int p2] (some (.int ures.1)) := by
  refine m_ofI (by decide) (Nat.le_of_ble_eq_true rfl) ?_
  intro p e s m args below meth c A Q ls X hW hA hl hret
  obtain ⟨hx, hb, -, hown, hts, hK, -, hG⟩ := id X
  have hl : lv_has ls 4 [(0, .ref a_t), (1, .long p1), (3, .int p2)] := hl
  unfold F_S_type at hF
  refine lv_aload_n hx hb dX11_type_0 rfl (lv_at hl 0 rfl) ?_
  refine m_get X hW fdX11_59 0 rfl rfl dX11_type_1 ?_
  refine lv_lload_n hx hb dX11_type_4 rfl (lv_at hl 1 rfl) ?_
  refine lv_iload_n hx hb dX11_type_5 rfl (lv_at hl 2 rfl) ?_
  obtain ⟨r6, t_text_bytes'_2, t_text_row'_2, hC1, hF⟩ := bO_s3 hF
  refine m_callV X hW hA hl.1 lkX11_265 (c_Text_add l E _ N a_t_text a_t_text_itemKind a_t_text_numbersOf a_t_text_number a_t_text_row t_text_bytes t_text_items t_text_at t_text_token t_text_tokenAt t_text_tokenNumber t_text_row p1 p2 (r6, t_text_bytes'_2, t_text_row'_2) hC1) [1, 2] (by decide) rfl rfl (ws' := (wd_S_type E a_t a_t_now a_t_draft a_t_firstImage a_t_secondImage a_t_news a_t_otherNews a_t_readings a_t_chances a_t_turning a_t_fraction a_t_text a_t_text_itemKind a_t_text_numbersOf a_t_text_number a_t_text_row t_text_bytes'_2 t_text_items t_text_at t_text_token t_text_tokenAt t_text_tokenNumber t_text_row'_2)) rfl 1 rfl rfl rfl (As := [.long p1, .int p2]) (rest := []) rfl rfl ⟨rfl, rfl, Nat.le_of_ble_eq_true rfl, Nat.le_of_ble_eq_true rfl⟩ (Nat.le_of_ble_eq_true rfl) (Nat.zero_le _) (Nat.zero_le _) dX11_type_6 (fun H locs hW => ?_)
  clear hC1
  have hq := Option.some.inj hF
  subst hq
  exact hret _ _ _ _ hW dX11_type_9
abbrev wd_S_erase (E : m_E) (a_t : Nat) (a_t_now : Nat) (a_t_draft : Nat) (a_t_firstImage : Nat) (a_t_secondImage : Nat) (a_t_news : Nat) (a_t_otherNews : Nat) (a_t_readings : Nat) (a_t_chances : Nat) (a_t_turning : Nat) (a_t_fraction : Nat) (a_t_text : Nat) (a_t_text_row : Nat) (a_t_text_itemKind : Nat) (a_t_text_numbersOf : Nat) (a_t_text_number : Nat) (t_text_bytes : Int32) (t_text_items : Int32) (t_text_at : Int32) (t_text_token : Int32) (t_text_tokenAt : Int32) (t_text_tokenNumber : Int32) : va_W := [(a_t, .inr (11, [.ref a_t_now, .ref a_t_draft, .ref a_t_firstImage, .ref a_t_secondImage, .ref a_t_news, .ref a_t_otherNews, .ref a_t_readings, .ref a_t_chances, .ref a_t_turning, .ref a_t_text, .ref a_t_fraction])), (a_t_text, .inr (9, [.int t_text_bytes, .int t_text_items, .ref a_t_text_row, .ref a_t_text_itemKind, .ref a_t_text_numbersOf, .ref a_t_text_number, .int t_text_at, .int t_text_token, .int t_text_tokenAt, .int t_text_tokenNumber]))]
def rm_S_erase : Room := { frames := 0, cells := 0, slots := 0, locals := 0 }
set_option maxHeartbeats 4000000 in
set_option maxRecDepth 100000 in
theorem c_S_erase (l : Launch) (E : m_E) (sz N : Nat) (a_t : Nat) (a_t_now : Nat) (a_t_draft : Nat) (a_t_firstImage : Nat) (a_t_secondImage : Nat) (a_t_news : Nat) (a_t_otherNews : Nat) (a_t_readings : Nat) (a_t_chances : Nat) (a_t_turning : Nat) (a_t_fraction : Nat) (a_t_text : Nat) (a_t_text_row : Nat) (a_t_text_itemKind : Nat) (a_t_text_numbersOf : Nat) (a_t_text_number : Nat) (t_text_bytes : Int32) (t_text_items : Int32) (t_text_at : Int32) (t_text_token : Int32) (t_text_tokenAt : Int32) (t_text_tokenNumber : Int32)  (ures : Int32 × Int32) (hF : F_S_erase t_text_bytes = some ures) : m_Met l yX11_erase cX11_erase 2 (some .int) rm_S_erase E (wd_S_erase E a_t a_t_now a_t_draft a_t_firstImage a_t_secondImage a_t_news a_t_otherNews a_t_readings a_t_chances a_t_turning a_t_fraction a_t_text a_t_text_row a_t_text_itemKind a_t_text_numbersOf a_t_text_number t_text_bytes t_text_items t_text_at t_text_token t_text_tokenAt t_text_tokenNumber) (wd_S_erase E a_t a_t_now a_t_draft a_t_firstImage a_t_secondImage a_t_news a_t_otherNews a_t_readings a_t_chances a_t_turning a_t_fraction a_t_text a_t_text_row a_t_text_itemKind a_t_text_numbersOf a_t_text_number ures.2 t_text_items t_text_at t_text_token t_text_tokenAt t_text_tokenNumber) sz [.ref a_t] (some (.int ures.1)) := by
  refine m_ofI (by decide) (Nat.le_of_ble_eq_true rfl) ?_
  intro p e s m args below meth c A Q ls X hW hA hl hret
  obtain ⟨hx, hb, -, hown, hts, hK, -, hG⟩ := id X
  have hl : lv_has ls 2 [(0, .ref a_t)] := hl
  unfold F_S_erase at hF
  refine lv_aload_n hx hb dX11_erase_0 rfl (lv_at hl 0 rfl) ?_
  refine m_get X hW fdX11_59 0 rfl rfl dX11_erase_1 ?_
  refine m_get X hW fdX11_268 1 rfl rfl dX11_erase_4 ?_
  refine lv_istore_n (lv' := [(1, .int t_text_bytes), (0, .ref a_t)]) hx hb dX11_erase_7 rfl hl (by decide) rfl (fun ls hl => ?_)
  refine lv_aload_n hx hb dX11_erase_8 rfl (lv_at hl 1 rfl) ?_
  refine m_get X hW fdX11_59 0 rfl rfl dX11_erase_9 ?_
  refine lv_iconst (v := (0 : Int32)) hx hb dX11_erase_12 (by decide) ?_
  refine m_putf X hW fdX11_268 1 rfl (Nat.le_of_ble_eq_true rfl) rfl rfl dX11_erase_13 (ws' := (wd_S_erase E a_t a_t_now a_t_draft a_t_firstImage a_t_secondImage a_t_news a_t_otherNews a_t_readings a_t_chances a_t_turning a_t_fraction a_t_text a_t_text_row a_t_text_itemKind a_t_text_numbersOf a_t_text_number (0 : Int32) t_text_items t_text_at t_text_token t_text_tokenAt t_text_tokenNumber)) rfl (fun H locs hW => ?_)
  refine lv_iload_n hx hb dX11_erase_16 rfl (lv_at hl 0 rfl) ?_
  have hq := Option.some.inj hF
  subst hq
  exact hret _ _ _ _ hW dX11_erase_17
abbrev wd_Text_byteAt (E : m_E) (a_t : Nat) (a_t_itemKind : Nat) (a_t_numbersOf : Nat) (a_t_number : Nat) (a_t_row : Nat) (t_bytes : Int32) (t_items : Int32) (t_at : Int32) (t_token : Int32) (t_tokenAt : Int32) (t_tokenNumber : Int32) (t_row : Nat → Int32) : va_W := [(a_t, .inr (9, [.int t_bytes, .int t_items, .ref a_t_row, .ref a_t_itemKind, .ref a_t_numbersOf, .ref a_t_number, .int t_at, .int t_token, .int t_tokenAt, .int t_tokenNumber])), (a_t_row, .inl (E.2.1 0, 240, .inl t_row))]
def rm_Text_byteAt : Room := { frames := 0, cells := 0, slots := 0, locals := 0 }
set_option maxHeartbeats 4000000 in
set_option maxRecDepth 100000 in
theorem c_Text_byteAt (l : Launch) (E : m_E) (sz N : Nat) (a_t : Nat) (a_t_itemKind : Nat) (a_t_numbersOf : Nat) (a_t_number : Nat) (a_t_row : Nat) (t_bytes : Int32) (t_items : Int32) (t_at : Int32) (t_token : Int32) (t_tokenAt : Int32) (t_tokenNumber : Int32) (t_row : Nat → Int32) (p1 : Int32) (ures : Int32) (hF : F_Text_byteAt p1 t_bytes t_row = some ures) : m_Met l yX9_byteAt cX9_byteAt 2 (some .int) rm_Text_byteAt E (wd_Text_byteAt E a_t a_t_itemKind a_t_numbersOf a_t_number a_t_row t_bytes t_items t_at t_token t_tokenAt t_tokenNumber t_row) (wd_Text_byteAt E a_t a_t_itemKind a_t_numbersOf a_t_number a_t_row t_bytes t_items t_at t_token t_tokenAt t_tokenNumber t_row) sz [.ref a_t, .int p1] (some (.int ures)) := by
  refine m_ofI (by decide) (Nat.le_of_ble_eq_true rfl) ?_
  intro p e s m args below meth c A Q ls X hW hA hl hret
  obtain ⟨hx, hb, -, hown, hts, hK, -, hG⟩ := id X
  have hl : lv_has ls 2 [(0, .ref a_t), (1, .int p1)] := hl
  unfold F_Text_byteAt at hF
  refine lv_iload_n hx hb dX9_byteAt_0 rfl (lv_at hl 1 rfl) ?_
  refine lv_if_lt (tgt := 21) hx hb dX9_byteAt_1 (by decide) (fun c1 => ?_) (fun c1 => ?_)
  · have hF := if_y c1 hF
    refine lv_iconst (v := (-1 : Int32)) hx hb dX9_byteAt_21 (by decide) ?_
    have hq := Option.some.inj hF
    subst hq
    exact hret _ _ _ _ hW dX9_byteAt_22
  · have hF := if_n c1 hF
    refine lv_iload_n hx hb dX9_byteAt_4 rfl (lv_at hl 1 rfl) ?_
    refine lv_aload_n hx hb dX9_byteAt_5 rfl (lv_at hl 0 rfl) ?_
    refine m_get X hW fdX9_30 0 rfl rfl dX9_byteAt_6 ?_
    refine lv_icmp_ge (tgt := 21) hx hb dX9_byteAt_9 (by decide) (fun c2 => ?_) (fun c2 => ?_)
    · have hF := if_y c2 hF
      refine lv_iconst (v := (-1 : Int32)) hx hb dX9_byteAt_21 (by decide) ?_
      have hq := Option.some.inj hF
      subst hq
      exact hret _ _ _ _ hW dX9_byteAt_22
    · have hF := if_n c2 hF
      refine lv_aload_n hx hb dX9_byteAt_12 rfl (lv_at hl 0 rfl) ?_
      refine m_get X hW fdX9_11 0 rfl rfl dX9_byteAt_13 ?_
      refine lv_iload_n hx hb dX9_byteAt_16 rfl (lv_at hl 1 rfl) ?_
      obtain ⟨g3, hF⟩ := gd_some hF
      refine m_iald X hW 1 (k := p1.toNatClampNeg) rfl g3 rfl dX9_byteAt_17 ?_
      refine lv_goto (tgt := 22) hx hb dX9_byteAt_18 (by decide) ?_
      have hq := Option.some.inj hF
      subst hq
      exact hret _ _ _ _ hW dX9_byteAt_22
abbrev wd_Text_endOfRun (E : m_E) (a_t : Nat) (a_t_itemKind : Nat) (a_t_numbersOf : Nat) (a_t_number : Nat) (a_t_row : Nat) (t_bytes : Int32) (t_items : Int32) (t_at : Int32) (t_token : Int32) (t_tokenAt : Int32) (t_tokenNumber : Int32) (t_row : Nat → Int32) : va_W := [(a_t, .inr (9, [.int t_bytes, .int t_items, .ref a_t_row, .ref a_t_itemKind, .ref a_t_numbersOf, .ref a_t_number, .int t_at, .int t_token, .int t_tokenAt, .int t_tokenNumber])), (a_t_row, .inl (E.2.1 0, 240, .inl t_row))]
def rm_Text_endOfRun : Room := { frames := 1, cells := 0, slots := 0, locals := 22 }
set_option maxHeartbeats 4000000 in
set_option maxRecDepth 100000 in
theorem c_Text_endOfRun (l : Launch) (E : m_E) (sz N : Nat) (a_t : Nat) (a_t_itemKind : Nat) (a_t_numbersOf : Nat) (a_t_number : Nat) (a_t_row : Nat) (t_bytes : Int32) (t_items : Int32) (t_at : Int32) (t_token : Int32) (t_tokenAt : Int32) (t_tokenNumber : Int32) (t_row : Nat → Int32) (p1 : Int32) (p2 : Int32) (p3 : Int32) (ures : Int32) (hF : F_Text_endOfRun N p1 p2 p3 t_bytes t_row = some ures) : m_Met l yX9_endOfRun cX9_endOfRun 6 (some .int) rm_Text_endOfRun E (wd_Text_endOfRun E a_t a_t_itemKind a_t_numbersOf a_t_number a_t_row t_bytes t_items t_at t_token t_tokenAt t_tokenNumber t_row) (wd_Text_endOfRun E a_t a_t_itemKind a_t_numbersOf a_t_number a_t_row t_bytes t_items t_at t_token t_tokenAt t_tokenNumber t_row) sz [.ref a_t, .int p1, .int p2, .int p3] (some (.int ures)) := by
  refine m_ofI (by decide) (Nat.le_of_ble_eq_true rfl) ?_
  intro p e s m args below meth c A Q ls X hW hA hl hret
  obtain ⟨hx, hb, -, hown, hts, hK, -, hG⟩ := id X
  have hl : lv_has ls 6 [(0, .ref a_t), (1, .int p1), (2, .int p2), (3, .int p3)] := hl
  unfold F_Text_endOfRun at hF
  refine lv_iload_n hx hb dX9_endOfRun_0 rfl (lv_at hl 1 rfl) ?_
  refine lv_istore (lv' := [(4, .int p1), (0, .ref a_t), (1, .int p1), (2, .int p2), (3, .int p3)]) hx hb dX9_endOfRun_1 hl (by decide) rfl (fun ls hl => ?_)
  refine lv_iload_n hx hb dX9_endOfRun_3 rfl (lv_at hl 2 rfl) ?_
  refine lv_istore (lv' := [(5, .int p1), (4, .int p1), (0, .ref a_t), (1, .int p1), (2, .int p2), (3, .int p3)]) hx hb dX9_endOfRun_4 hl (by decide) rfl (fun ls hl => ?_)
  obtain ⟨x4_2, hX2, hF⟩ := bO_s1 hF
  have L1 : ∀ (k0 : Nat) (x4 : Int32) (x5 : Int32) (x4_2 : Int32) (H : Heap) (locs : List Loc) (ls : Array Slot), Text_endOfRun_L6 t_bytes t_row p2 p3 k0 x4 x5 = some x4_2 → m_H E A (wd_Text_endOfRun E a_t a_t_itemKind a_t_numbersOf a_t_number a_t_row t_bytes t_items t_at t_token t_tokenAt t_tokenNumber t_row) s.heap H locs → lv_has ls 6 [(5, .int x5), (4, .int x4), (0, .ref a_t), (2, .int p2), (3, .int p3)] → (∀ (H : Heap) (locs : List Loc) (ls : Array Slot), m_H E A (wd_Text_endOfRun E a_t a_t_itemKind a_t_numbersOf a_t_number a_t_row t_bytes t_items t_at t_token t_tokenAt t_tokenNumber t_row) s.heap H locs → lv_has ls 6 [(4, .int x4_2)] → W p l e rm_Text_endOfRun s m args below meth c H locs 0 0 Q (F0 m 41 ls [])) → W p l e rm_Text_endOfRun s m args below meth c H locs 0 0 Q (F0 m 6 ls []) := by
    clear hF
    intro k0
    induction k0 with
    | zero =>
      intro x4 x5 x4_2 H locs ls hF
      cases hF
    | succ k0 ih4 =>
      intro x4 x5 x4_2 H locs ls hF hW hl hk3
      rw [Text_endOfRun_L6] at hF
      refine lv_iload hx hb dX9_endOfRun_6 (lv_at hl 0 rfl) ?_
      refine lv_aload_n hx hb dX9_endOfRun_8 rfl (lv_at hl 2 rfl) ?_
      refine m_get X hW fdX9_30 0 rfl rfl dX9_endOfRun_9 ?_
      refine lv_icmp_ge (tgt := 41) hx hb dX9_endOfRun_12 (by decide) (fun c5 => ?_) (fun c5 => ?_)
      · have hF := if_y c5 hF
        cases hF
        exact hk3 _ _ _ hW (lv_sub hl [1] rfl)
      · have hF := if_n c5 hF
        refine lv_aload_n hx hb dX9_endOfRun_15 rfl (lv_at hl 2 rfl) ?_
        refine lv_iload hx hb dX9_endOfRun_16 (lv_at hl 0 rfl) ?_
        obtain ⟨r18, hC6, hF⟩ := bO_s1 hF
        refine m_callV X hW hA hl.1 lkX9_68 (c_Text_byteAt l E _ N a_t a_t_itemKind a_t_numbersOf a_t_number a_t_row t_bytes t_items t_at t_token t_tokenAt t_tokenNumber t_row x5 r18 hC6) [0, 1] (by decide) rfl rfl (ws' := (wd_Text_endOfRun E a_t a_t_itemKind a_t_numbersOf a_t_number a_t_row t_bytes t_items t_at t_token t_tokenAt t_tokenNumber t_row)) rfl 0 rfl rfl rfl (As := [.int x5]) (rest := []) rfl rfl ⟨rfl, rfl, Nat.le_of_ble_eq_true rfl, Nat.le_of_ble_eq_true rfl⟩ (Nat.le_of_ble_eq_true rfl) (Nat.zero_le _) (Nat.zero_le _) dX9_endOfRun_18 (fun H locs hW => ?_)
        clear hC6
        refine lv_iload_n hx hb dX9_endOfRun_21 rfl (lv_at hl 3 rfl) ?_
        refine lv_iload_n hx hb dX9_endOfRun_22 rfl (lv_at hl 4 rfl) ?_
        refine m_callN X hW hA hl.1 lkX9_26 (c_S_within l E _ N   r18 p2 p3 (F_S_within r18 p2 p3) rfl) [] (by decide) rfl rfl (ws' := (wd_Text_endOfRun E a_t a_t_itemKind a_t_numbersOf a_t_number a_t_row t_bytes t_items t_at t_token t_tokenAt t_tokenNumber t_row)) rfl (As := [.int r18, .int p2, .int p3]) (rest := []) rfl rfl ⟨rfl, rfl, Nat.le_of_ble_eq_true rfl, Nat.le_of_ble_eq_true rfl⟩ (Nat.le_of_ble_eq_true rfl) (Nat.zero_le _) (Nat.zero_le _) dX9_endOfRun_23 (fun H locs hW => ?_)
        refine lv_if_eq (tgt := 41) hx hb dX9_endOfRun_26 (by decide) (fun c7 => ?_) (fun c7 => ?_)
        · have hF := if_y c7 hF
          cases hF
          exact hk3 _ _ _ hW (lv_sub hl [1] rfl)
        · have hF := if_n c7 hF
          refine lv_iload hx hb dX9_endOfRun_29 (lv_at hl 0 rfl) ?_
          refine lv_iconst (v := (1 : Int32)) hx hb dX9_endOfRun_31 (by decide) ?_
          refine lv_iadd hx hb dX9_endOfRun_32 ?_
          refine lv_istore (lv' := [(4, .int (x5 + (1 : Int32))), (5, .int x5), (0, .ref a_t), (2, .int p2), (3, .int p3)]) hx hb dX9_endOfRun_33 hl (by decide) rfl (fun ls hl => ?_)
          refine lv_iinc (v := (x5 + (1 : Int32))) (lv' := [(5, .int (x5 + (1 : Int32))), (4, .int (x5 + (1 : Int32))), (0, .ref a_t), (2, .int p2), (3, .int p3)]) hx hb dX9_endOfRun_35 hl (k := 1) rfl rfl (by decide) rfl (fun ls hl => ?_)
          refine lv_goto (tgt := 6) hx hb dX9_endOfRun_38 (by decide) ?_
          exact ih4 (x5 + (1 : Int32)) (x5 + (1 : Int32)) x4_2 _ _ _ hF hW (lv_sub hl [0, 1, 2, 3, 4] rfl) hk3
  refine L1 N p1 p1 x4_2 _ _ _ hX2 hW (lv_sub hl [0, 1, 2, 4, 5] rfl) ?_
  intro H locs ls hW hl
  clear L1
  refine lv_iload hx hb dX9_endOfRun_41 (lv_at hl 0 rfl) ?_
  have hq := Option.some.inj hF
  subst hq
  exact hret _ _ _ _ hW dX9_endOfRun_43
abbrev wd_Text_readNumber (E : m_E) (a_t : Nat) (a_t_itemKind : Nat) (a_t_numbersOf : Nat) (a_t_number : Nat) (a_t_row : Nat) (t_bytes : Int32) (t_items : Int32) (t_at : Int32) (t_token : Int32) (t_tokenAt : Int32) (t_tokenNumber : Int32) (t_row : Nat → Int32) : va_W := [(a_t, .inr (9, [.int t_bytes, .int t_items, .ref a_t_row, .ref a_t_itemKind, .ref a_t_numbersOf, .ref a_t_number, .int t_at, .int t_token, .int t_tokenAt, .int t_tokenNumber])), (a_t_row, .inl (E.2.1 0, 240, .inl t_row))]
def rm_Text_readNumber : Room := { frames := 1, cells := 0, slots := 0, locals := 21 }
set_option maxHeartbeats 4000000 in
set_option maxRecDepth 100000 in
theorem c_Text_readNumber (l : Launch) (E : m_E) (sz N : Nat) (a_t : Nat) (a_t_itemKind : Nat) (a_t_numbersOf : Nat) (a_t_number : Nat) (a_t_row : Nat) (t_bytes : Int32) (t_items : Int32) (t_at : Int32) (t_token : Int32) (t_tokenAt : Int32) (t_tokenNumber : Int32) (t_row : Nat → Int32)  (ures : Int32) (hF : F_Text_readNumber N t_bytes t_at t_token t_tokenAt t_row = some ures) : m_Met l yX9_readNumber cX9_readNumber 2 none rm_Text_readNumber E (wd_Text_readNumber E a_t a_t_itemKind a_t_numbersOf a_t_number a_t_row t_bytes t_items t_at t_token t_tokenAt t_tokenNumber t_row) (wd_Text_readNumber E a_t a_t_itemKind a_t_numbersOf a_t_number a_t_row t_bytes t_items t_at t_token t_tokenAt ures t_row) sz [.ref a_t] none := by
  refine m_ofV (by decide) (Nat.le_of_ble_eq_true rfl) ?_
  intro p e s m args below meth c A Q ls X hW hA hl hret
  obtain ⟨hx, hb, -, hown, hts, hK, -, hG⟩ := id X
  have hl : lv_has ls 2 [(0, .ref a_t)] := hl
  unfold F_Text_readNumber at hF
  refine lv_aload_n hx hb dX9_readNumber_0 rfl (lv_at hl 0 rfl) ?_
  refine lv_iconst (v := (0 : Int32)) hx hb dX9_readNumber_1 (by decide) ?_
  refine m_putf X hW fdX9_61 0 rfl (Nat.le_of_ble_eq_true rfl) rfl rfl dX9_readNumber_2 (ws' := (wd_Text_readNumber E a_t a_t_itemKind a_t_numbersOf a_t_number a_t_row t_bytes t_items t_at t_token t_tokenAt (0 : Int32) t_row)) rfl (fun H locs hW => ?_)
  refine lv_aload_n hx hb dX9_readNumber_5 rfl (lv_at hl 0 rfl) ?_
  refine m_get X hW fdX9_48 0 rfl rfl dX9_readNumber_6 ?_
  refine lv_istore_n (lv' := [(1, .int t_tokenAt), (0, .ref a_t)]) hx hb dX9_readNumber_9 rfl hl (by decide) rfl (fun ls hl => ?_)
  obtain ⟨t_tokenNumber'_4, hX2, hF⟩ := bO_s1 hF
  have L1 : ∀ (k0 : Nat) (x1 : Int32) (t_tokenNumber'_3 : Int32) (t_tokenNumber'_4 : Int32) (H : Heap) (locs : List Loc) (ls : Array Slot), Text_readNumber_L10 t_at t_token t_bytes t_row k0 x1 t_tokenNumber'_3 = some t_tokenNumber'_4 → m_H E A (wd_Text_readNumber E a_t a_t_itemKind a_t_numbersOf a_t_number a_t_row t_bytes t_items t_at t_token t_tokenAt t_tokenNumber'_3 t_row) s.heap H locs → lv_has ls 2 [(1, .int x1), (0, .ref a_t)] → (∀ (H : Heap) (locs : List Loc) (ls : Array Slot), m_H E A (wd_Text_readNumber E a_t a_t_itemKind a_t_numbersOf a_t_number a_t_row t_bytes t_items t_at t_token t_tokenAt t_tokenNumber'_4 t_row) s.heap H locs → lv_has ls 2 [] → W p l e rm_Text_readNumber s m args below meth c H locs 0 0 Q (F0 m 53 ls [])) → W p l e rm_Text_readNumber s m args below meth c H locs 0 0 Q (F0 m 10 ls []) := by
    clear hF
    intro k0
    induction k0 with
    | zero =>
      intro x1 t_tokenNumber'_3 t_tokenNumber'_4 H locs ls hF
      cases hF
    | succ k0 ih4 =>
      intro x1 t_tokenNumber'_3 t_tokenNumber'_4 H locs ls hF hW hl hk3
      rw [Text_readNumber_L10] at hF
      refine lv_iload_n hx hb dX9_readNumber_10 rfl (lv_at hl 0 rfl) ?_
      refine lv_aload_n hx hb dX9_readNumber_11 rfl (lv_at hl 1 rfl) ?_
      refine m_get X hW fdX9_39 0 rfl rfl dX9_readNumber_12 ?_
      refine lv_icmp_ge (tgt := 53) hx hb dX9_readNumber_15 (by decide) (fun c5 => ?_) (fun c5 => ?_)
      · have hF := if_y c5 hF
        cases hF
        exact hk3 _ _ _ hW (lv_sub hl [] rfl)
      · have hF := if_n c5 hF
        refine lv_aload_n hx hb dX9_readNumber_18 rfl (lv_at hl 1 rfl) ?_
        refine m_get X hW fdX9_45 0 rfl rfl dX9_readNumber_19 ?_
        refine lv_bipush (v := (-3 : Int32)) hx hb dX9_readNumber_22 (by decide) ?_
        refine lv_icmp_ne (tgt := 53) hx hb dX9_readNumber_24 (by decide) (fun c6 => ?_) (fun c6 => ?_)
        · have hF := if_n c6 hF
          cases hF
          exact hk3 _ _ _ hW (lv_sub hl [] rfl)
        · have hF := if_y c6 hF
          refine lv_aload_n hx hb dX9_readNumber_27 rfl (lv_at hl 1 rfl) ?_
          refine lv_bipush (v := (10 : Int32)) hx hb dX9_readNumber_28 (by decide) ?_
          refine lv_aload_n hx hb dX9_readNumber_30 rfl (lv_at hl 1 rfl) ?_
          refine m_get X hW fdX9_61 0 rfl rfl dX9_readNumber_31 ?_
          refine lv_imul hx hb dX9_readNumber_34 ?_
          refine lv_aload_n hx hb dX9_readNumber_35 rfl (lv_at hl 1 rfl) ?_
          refine lv_iload_n hx hb dX9_readNumber_36 rfl (lv_at hl 0 rfl) ?_
          obtain ⟨r37, hC7, hF⟩ := bO_s1 hF
          refine m_callV X hW hA hl.1 lkX9_68 (c_Text_byteAt l E _ N a_t a_t_itemKind a_t_numbersOf a_t_number a_t_row t_bytes t_items t_at t_token t_tokenAt t_tokenNumber'_3 t_row x1 r37 hC7) [0, 1] (by decide) rfl rfl (ws' := (wd_Text_readNumber E a_t a_t_itemKind a_t_numbersOf a_t_number a_t_row t_bytes t_items t_at t_token t_tokenAt t_tokenNumber'_3 t_row)) rfl 0 rfl rfl rfl (As := [.int x1]) (rest := [.int ((10 : Int32) * t_tokenNumber'_3), .ref a_t]) rfl rfl ⟨rfl, rfl, Nat.le_of_ble_eq_true rfl, Nat.le_of_ble_eq_true rfl⟩ (Nat.le_of_ble_eq_true rfl) (Nat.zero_le _) (Nat.zero_le _) dX9_readNumber_37 (fun H locs hW => ?_)
          clear hC7
          refine lv_iadd hx hb dX9_readNumber_40 ?_
          refine lv_bipush (v := (48 : Int32)) hx hb dX9_readNumber_41 (by decide) ?_
          refine lv_isub hx hb dX9_readNumber_43 ?_
          refine m_putf X hW fdX9_61 0 rfl (Nat.le_of_ble_eq_true rfl) rfl rfl dX9_readNumber_44 (ws' := (wd_Text_readNumber E a_t a_t_itemKind a_t_numbersOf a_t_number a_t_row t_bytes t_items t_at t_token t_tokenAt ((((10 : Int32) * t_tokenNumber'_3) + r37) - (48 : Int32)) t_row)) rfl (fun H locs hW => ?_)
          refine lv_iinc (v := (x1 + (1 : Int32))) (lv' := [(1, .int (x1 + (1 : Int32))), (0, .ref a_t)]) hx hb dX9_readNumber_47 hl (k := 0) rfl rfl (by decide) rfl (fun ls hl => ?_)
          refine lv_goto (tgt := 10) hx hb dX9_readNumber_50 (by decide) ?_
          exact ih4 (x1 + (1 : Int32)) ((((10 : Int32) * t_tokenNumber'_3) + r37) - (48 : Int32)) t_tokenNumber'_4 _ _ _ hF hW (lv_sub hl [0, 1] rfl) hk3
  refine L1 N t_tokenAt (0 : Int32) t_tokenNumber'_4 _ _ _ hX2 hW (lv_sub hl [0, 1] rfl) ?_
  intro H locs ls hW hl
  clear L1
  have hq := Option.some.inj hF
  subst hq
  exact hret _ _ _ _ hW dX9_readNumber_53
abbrev wd_Text_nameOf (E : m_E)   : va_W := []
def rm_Text_nameOf : Room := { frames := 0, cells := 0, slots := 0, locals := 0 }
set_option maxHeartbeats 4000000 in
set_option maxRecDepth 100000 in
theorem c_Text_nameOf (l : Launch) (E : m_E) (sz N : Nat)   (p1 : Int32) (ures : Nat) (hF : F_Text_nameOf p1 = ures) : m_Met l yX9_nameOf cX9_nameOf 1 (some (.object "java/lang/String")) rm_Text_nameOf E (wd_Text_nameOf E) (wd_Text_nameOf E) sz [.int p1] (some (.ref (E.2.2.1 ures))) := by
  refine m_ofA (by decide) (Nat.le_of_ble_eq_true rfl) ?_
  intro p e s m args below meth c A Q ls X hW hA hl hret
  obtain ⟨hx, hb, -, hown, hts, hK, -, hG⟩ := id X
  have hl : lv_has ls 1 [(0, .int p1)] := hl
  unfold F_Text_nameOf at hF
  refine lv_iload_n hx hb dX9_nameOf_0 rfl (lv_at hl 0 rfl) ?_
  by_cases c1 : p1 = (0 : Int32)
  · have hF := if_y c1 hF
    refine lv_tableIn (tgt := 40) hx hb dX9_nameOf_1 (by rw [c1]; decide) (by rw [c1]; decide) (by rw [c1]; rfl) (by decide) ?_
    refine va_ldcS hx hb hown (hG.1 0 (by decide)) dX9_nameOf_40 ?_
    have hq := hF
    subst hq
    exact hret _ _ _ _ hW dX9_nameOf_42
  · have hF := if_n c1 hF
    by_cases c2 : p1 = (1 : Int32)
    · have hF := if_y c2 hF
      refine lv_tableIn (tgt := 43) hx hb dX9_nameOf_1 (by rw [c2]; decide) (by rw [c2]; decide) (by rw [c2]; rfl) (by decide) ?_
      refine va_ldcS hx hb hown (hG.1 1 (by decide)) dX9_nameOf_43 ?_
      have hq := hF
      subst hq
      exact hret _ _ _ _ hW dX9_nameOf_45
    · have hF := if_n c2 hF
      by_cases c3 : p1 = (2 : Int32)
      · have hF := if_y c3 hF
        refine lv_tableIn (tgt := 46) hx hb dX9_nameOf_1 (by rw [c3]; decide) (by rw [c3]; decide) (by rw [c3]; rfl) (by decide) ?_
        refine va_ldcS hx hb hown (hG.1 2 (by decide)) dX9_nameOf_46 ?_
        have hq := hF
        subst hq
        exact hret _ _ _ _ hW dX9_nameOf_48
      · have hF := if_n c3 hF
        by_cases c4 : p1 = (3 : Int32)
        · have hF := if_y c4 hF
          refine lv_tableIn (tgt := 49) hx hb dX9_nameOf_1 (by rw [c4]; decide) (by rw [c4]; decide) (by rw [c4]; rfl) (by decide) ?_
          refine va_ldcS hx hb hown (hG.1 3 (by decide)) dX9_nameOf_49 ?_
          have hq := hF
          subst hq
          exact hret _ _ _ _ hW dX9_nameOf_51
        · have hF := if_n c4 hF
          by_cases c5 : p1 = (4 : Int32)
          · have hF := if_y c5 hF
            refine lv_tableIn (tgt := 52) hx hb dX9_nameOf_1 (by rw [c5]; decide) (by rw [c5]; decide) (by rw [c5]; rfl) (by decide) ?_
            refine va_ldcS hx hb hown (hG.1 4 (by decide)) dX9_nameOf_52 ?_
            have hq := hF
            subst hq
            exact hret _ _ _ _ hW dX9_nameOf_54
          · have hF := if_n c5 hF
            by_cases c6 : p1 = (5 : Int32)
            · have hF := if_y c6 hF
              refine lv_tableIn (tgt := 55) hx hb dX9_nameOf_1 (by rw [c6]; decide) (by rw [c6]; decide) (by rw [c6]; rfl) (by decide) ?_
              refine va_ldcS hx hb hown (hG.1 5 (by decide)) dX9_nameOf_55 ?_
              have hq := hF
              subst hq
              exact hret _ _ _ _ hW dX9_nameOf_57
            · have hF := if_n c6 hF
              refine lv_tableOut (tgt := 58) hx hb dX9_nameOf_1 (m_sw_0_5 c1 c2 c3 c4 c5 c6) (by decide) ?_
              refine va_ldcS hx hb hown (hG.1 6 (by decide)) dX9_nameOf_58 ?_
              have hq := hF
              subst hq
              exact hret _ _ _ _ hW dX9_nameOf_60
abbrev wd_Floor_copyFrom (E : m_E) (a_t : Nat) (a_t_place : Nat) (a_t_way : Nat) (a_t_tell : Nat) (a_t_look : Nat) (a_t_farSquare : Nat) (a_p1 : Nat) (a_p1_place : Nat) (a_p1_way : Nat) (a_p1_tell : Nat) (a_p1_look : Nat) (a_p1_farSquare : Nat) (t_pillars : Int64) (t_weavers : Int32) (t_place : Nat → Int32) (t_way : Nat → Int32) (t_tell : Nat → Int32) (t_look : Nat → Int32) (t_farSquare : Nat → Int32) (p1_pillars : Int64) (p1_weavers : Int32) (p1_place : Nat → Int32) (p1_way : Nat → Int32) (p1_tell : Nat → Int32) (p1_look : Nat → Int32) (p1_farSquare : Nat → Int32) : va_W := [(a_t, .inr (1, [.long t_pillars, .int t_weavers, .ref a_t_place, .ref a_t_way, .ref a_t_tell, .ref a_t_look, .ref a_t_farSquare])), (a_t_place, .inl (E.2.1 0, 8, .inl t_place)), (a_t_way, .inl (E.2.1 0, 8, .inl t_way)), (a_t_tell, .inl (E.2.1 0, 8, .inl t_tell)), (a_t_look, .inl (E.2.1 0, 8, .inl t_look)), (a_t_farSquare, .inl (E.2.1 0, 2, .inl t_farSquare)), (a_p1, .inr (1, [.long p1_pillars, .int p1_weavers, .ref a_p1_place, .ref a_p1_way, .ref a_p1_tell, .ref a_p1_look, .ref a_p1_farSquare])), (a_p1_place, .inl (E.2.1 0, 8, .inl p1_place)), (a_p1_way, .inl (E.2.1 0, 8, .inl p1_way)), (a_p1_tell, .inl (E.2.1 0, 8, .inl p1_tell)), (a_p1_look, .inl (E.2.1 0, 8, .inl p1_look)), (a_p1_farSquare, .inl (E.2.1 0, 2, .inl p1_farSquare))]
def rm_Floor_copyFrom : Room := { frames := 1, cells := 0, slots := 0, locals := 26 }
set_option maxHeartbeats 4000000 in
set_option maxRecDepth 100000 in
theorem c_Floor_copyFrom (l : Launch) (E : m_E) (sz N : Nat) (a_t : Nat) (a_t_place : Nat) (a_t_way : Nat) (a_t_tell : Nat) (a_t_look : Nat) (a_t_farSquare : Nat) (a_p1 : Nat) (a_p1_place : Nat) (a_p1_way : Nat) (a_p1_tell : Nat) (a_p1_look : Nat) (a_p1_farSquare : Nat) (t_pillars : Int64) (t_weavers : Int32) (t_place : Nat → Int32) (t_way : Nat → Int32) (t_tell : Nat → Int32) (t_look : Nat → Int32) (t_farSquare : Nat → Int32) (p1_pillars : Int64) (p1_weavers : Int32) (p1_place : Nat → Int32) (p1_way : Nat → Int32) (p1_tell : Nat → Int32) (p1_look : Nat → Int32) (p1_farSquare : Nat → Int32)  (ures : Int64 × Int32 × (Nat → Int32) × (Nat → Int32) × (Nat → Int32) × (Nat → Int32) × (Nat → Int32)) (hF : F_Floor_copyFrom t_place t_way t_tell t_look t_farSquare p1_pillars p1_weavers p1_place p1_way p1_tell p1_look p1_farSquare = some ures) : m_Met l yX1_copyFrom cX1_copyFrom 2 none rm_Floor_copyFrom E (wd_Floor_copyFrom E a_t a_t_place a_t_way a_t_tell a_t_look a_t_farSquare a_p1 a_p1_place a_p1_way a_p1_tell a_p1_look a_p1_farSquare t_pillars t_weavers t_place t_way t_tell t_look t_farSquare p1_pillars p1_weavers p1_place p1_way p1_tell p1_look p1_farSquare) (wd_Floor_copyFrom E a_t a_t_place a_t_way a_t_tell a_t_look a_t_farSquare a_p1 a_p1_place a_p1_way a_p1_tell a_p1_look a_p1_farSquare ures.1 ures.2.1 ures.2.2.1 ures.2.2.2.1 ures.2.2.2.2.1 ures.2.2.2.2.2.1 ures.2.2.2.2.2.2 p1_pillars p1_weavers p1_place p1_way p1_tell p1_look p1_farSquare) sz [.ref a_t, .ref a_p1] none := by
  refine m_ofV (by decide) (Nat.le_of_ble_eq_true rfl) ?_
  intro p e s m args below meth c A Q ls X hW hA hl hret
  obtain ⟨hx, hb, -, hown, hts, hK, -, hG⟩ := id X
  have hl : lv_has ls 2 [(0, .ref a_t), (1, .ref a_p1)] := hl
  unfold F_Floor_copyFrom at hF
  refine lv_aload_n hx hb dX1_copyFrom_0 rfl (lv_at hl 0 rfl) ?_
  refine lv_aload_n hx hb dX1_copyFrom_1 rfl (lv_at hl 1 rfl) ?_
  refine m_get X hW fdX1_30 6 rfl rfl dX1_copyFrom_2 ?_
  refine m_putf X hW fdX1_30 0 rfl (Nat.le_of_ble_eq_true rfl) rfl rfl dX1_copyFrom_5 (ws' := (wd_Floor_copyFrom E a_t a_t_place a_t_way a_t_tell a_t_look a_t_farSquare a_p1 a_p1_place a_p1_way a_p1_tell a_p1_look a_p1_farSquare p1_pillars t_weavers t_place t_way t_tell t_look t_farSquare p1_pillars p1_weavers p1_place p1_way p1_tell p1_look p1_farSquare)) rfl (fun H locs hW => ?_)
  refine lv_aload_n hx hb dX1_copyFrom_8 rfl (lv_at hl 0 rfl) ?_
  refine lv_aload_n hx hb dX1_copyFrom_9 rfl (lv_at hl 1 rfl) ?_
  refine m_get X hW fdX1_34 6 rfl rfl dX1_copyFrom_10 ?_
  refine m_putf X hW fdX1_34 0 rfl (Nat.le_of_ble_eq_true rfl) rfl rfl dX1_copyFrom_13 (ws' := (wd_Floor_copyFrom E a_t a_t_place a_t_way a_t_tell a_t_look a_t_farSquare a_p1 a_p1_place a_p1_way a_p1_tell a_p1_look a_p1_farSquare p1_pillars p1_weavers t_place t_way t_tell t_look t_farSquare p1_pillars p1_weavers p1_place p1_way p1_tell p1_look p1_farSquare)) rfl (fun H locs hW => ?_)
  refine lv_aload_n hx hb dX1_copyFrom_16 rfl (lv_at hl 1 rfl) ?_
  refine m_get X hW fdX1_11 6 rfl rfl dX1_copyFrom_17 ?_
  refine lv_iconst (v := (0 : Int32)) hx hb dX1_copyFrom_20 (by decide) ?_
  refine lv_aload_n hx hb dX1_copyFrom_21 rfl (lv_at hl 0 rfl) ?_
  refine m_get X hW fdX1_11 0 rfl rfl dX1_copyFrom_22 ?_
  refine lv_iconst (v := (0 : Int32)) hx hb dX1_copyFrom_25 (by decide) ?_
  refine lv_bipush (v := (8 : Int32)) hx hb dX1_copyFrom_26 (by decide) ?_
  refine m_copyi X hW hl.1 wk_996 wk_734 wk_733 wk_16 7 1 rfl rfl (by decide) rfl rfl rfl (Nat.le_of_ble_eq_true rfl) (Nat.le_of_ble_eq_true rfl) dX1_copyFrom_28 (ws' := (wd_Floor_copyFrom E a_t a_t_place a_t_way a_t_tell a_t_look a_t_farSquare a_p1 a_p1_place a_p1_way a_p1_tell a_p1_look a_p1_farSquare p1_pillars p1_weavers (va_cpy p1_place t_place 0 0 8) t_way t_tell t_look t_farSquare p1_pillars p1_weavers p1_place p1_way p1_tell p1_look p1_farSquare)) (ksp := 0) (kdp := 0) (kn := 8) rfl (fun H locs hW => ?_)
  refine lv_aload_n hx hb dX1_copyFrom_31 rfl (lv_at hl 1 rfl) ?_
  refine m_get X hW fdX1_15 6 rfl rfl dX1_copyFrom_32 ?_
  refine lv_iconst (v := (0 : Int32)) hx hb dX1_copyFrom_35 (by decide) ?_
  refine lv_aload_n hx hb dX1_copyFrom_36 rfl (lv_at hl 0 rfl) ?_
  refine m_get X hW fdX1_15 0 rfl rfl dX1_copyFrom_37 ?_
  refine lv_iconst (v := (0 : Int32)) hx hb dX1_copyFrom_40 (by decide) ?_
  refine lv_bipush (v := (8 : Int32)) hx hb dX1_copyFrom_41 (by decide) ?_
  refine m_copyi X hW hl.1 wk_996 wk_734 wk_733 wk_16 8 2 rfl rfl (by decide) rfl rfl rfl (Nat.le_of_ble_eq_true rfl) (Nat.le_of_ble_eq_true rfl) dX1_copyFrom_43 (ws' := (wd_Floor_copyFrom E a_t a_t_place a_t_way a_t_tell a_t_look a_t_farSquare a_p1 a_p1_place a_p1_way a_p1_tell a_p1_look a_p1_farSquare p1_pillars p1_weavers (va_cpy p1_place t_place 0 0 8) (va_cpy p1_way t_way 0 0 8) t_tell t_look t_farSquare p1_pillars p1_weavers p1_place p1_way p1_tell p1_look p1_farSquare)) (ksp := 0) (kdp := 0) (kn := 8) rfl (fun H locs hW => ?_)
  refine lv_aload_n hx hb dX1_copyFrom_46 rfl (lv_at hl 1 rfl) ?_
  refine m_get X hW fdX1_18 6 rfl rfl dX1_copyFrom_47 ?_
  refine lv_iconst (v := (0 : Int32)) hx hb dX1_copyFrom_50 (by decide) ?_
  refine lv_aload_n hx hb dX1_copyFrom_51 rfl (lv_at hl 0 rfl) ?_
  refine m_get X hW fdX1_18 0 rfl rfl dX1_copyFrom_52 ?_
  refine lv_iconst (v := (0 : Int32)) hx hb dX1_copyFrom_55 (by decide) ?_
  refine lv_bipush (v := (8 : Int32)) hx hb dX1_copyFrom_56 (by decide) ?_
  refine m_copyi X hW hl.1 wk_996 wk_734 wk_733 wk_16 9 3 rfl rfl (by decide) rfl rfl rfl (Nat.le_of_ble_eq_true rfl) (Nat.le_of_ble_eq_true rfl) dX1_copyFrom_58 (ws' := (wd_Floor_copyFrom E a_t a_t_place a_t_way a_t_tell a_t_look a_t_farSquare a_p1 a_p1_place a_p1_way a_p1_tell a_p1_look a_p1_farSquare p1_pillars p1_weavers (va_cpy p1_place t_place 0 0 8) (va_cpy p1_way t_way 0 0 8) (va_cpy p1_tell t_tell 0 0 8) t_look t_farSquare p1_pillars p1_weavers p1_place p1_way p1_tell p1_look p1_farSquare)) (ksp := 0) (kdp := 0) (kn := 8) rfl (fun H locs hW => ?_)
  refine lv_aload_n hx hb dX1_copyFrom_61 rfl (lv_at hl 1 rfl) ?_
  refine m_get X hW fdX1_21 6 rfl rfl dX1_copyFrom_62 ?_
  refine lv_iconst (v := (0 : Int32)) hx hb dX1_copyFrom_65 (by decide) ?_
  refine lv_aload_n hx hb dX1_copyFrom_66 rfl (lv_at hl 0 rfl) ?_
  refine m_get X hW fdX1_21 0 rfl rfl dX1_copyFrom_67 ?_
  refine lv_iconst (v := (0 : Int32)) hx hb dX1_copyFrom_70 (by decide) ?_
  refine lv_bipush (v := (8 : Int32)) hx hb dX1_copyFrom_71 (by decide) ?_
  refine m_copyi X hW hl.1 wk_996 wk_734 wk_733 wk_16 10 4 rfl rfl (by decide) rfl rfl rfl (Nat.le_of_ble_eq_true rfl) (Nat.le_of_ble_eq_true rfl) dX1_copyFrom_73 (ws' := (wd_Floor_copyFrom E a_t a_t_place a_t_way a_t_tell a_t_look a_t_farSquare a_p1 a_p1_place a_p1_way a_p1_tell a_p1_look a_p1_farSquare p1_pillars p1_weavers (va_cpy p1_place t_place 0 0 8) (va_cpy p1_way t_way 0 0 8) (va_cpy p1_tell t_tell 0 0 8) (va_cpy p1_look t_look 0 0 8) t_farSquare p1_pillars p1_weavers p1_place p1_way p1_tell p1_look p1_farSquare)) (ksp := 0) (kdp := 0) (kn := 8) rfl (fun H locs hW => ?_)
  refine lv_aload_n hx hb dX1_copyFrom_76 rfl (lv_at hl 1 rfl) ?_
  refine m_get X hW fdX1_24 6 rfl rfl dX1_copyFrom_77 ?_
  refine lv_iconst (v := (0 : Int32)) hx hb dX1_copyFrom_80 (by decide) ?_
  refine lv_aload_n hx hb dX1_copyFrom_81 rfl (lv_at hl 0 rfl) ?_
  refine m_get X hW fdX1_24 0 rfl rfl dX1_copyFrom_82 ?_
  refine lv_iconst (v := (0 : Int32)) hx hb dX1_copyFrom_85 (by decide) ?_
  refine lv_iconst (v := (2 : Int32)) hx hb dX1_copyFrom_86 (by decide) ?_
  refine m_copyi X hW hl.1 wk_996 wk_734 wk_733 wk_16 11 5 rfl rfl (by decide) rfl rfl rfl (Nat.le_of_ble_eq_true rfl) (Nat.le_of_ble_eq_true rfl) dX1_copyFrom_87 (ws' := (wd_Floor_copyFrom E a_t a_t_place a_t_way a_t_tell a_t_look a_t_farSquare a_p1 a_p1_place a_p1_way a_p1_tell a_p1_look a_p1_farSquare p1_pillars p1_weavers (va_cpy p1_place t_place 0 0 8) (va_cpy p1_way t_way 0 0 8) (va_cpy p1_tell t_tell 0 0 8) (va_cpy p1_look t_look 0 0 8) (va_cpy p1_farSquare t_farSquare 0 0 2) p1_pillars p1_weavers p1_place p1_way p1_tell p1_look p1_farSquare)) (ksp := 0) (kdp := 0) (kn := 2) rfl (fun H locs hW => ?_)
  have hq := Option.some.inj hF
  subst hq
  exact hret _ _ _ _ hW dX1_copyFrom_90
abbrev wd_Sightings_copyFrom (E : m_E) (a_t : Nat) (a_t_weaver : Nat) (a_t_second : Nat) (a_t_knew : Nat) (a_p1 : Nat) (a_p1_weaver : Nat) (a_p1_second : Nat) (a_p1_knew : Nat) (t_many : Int32) (t_weaver : Nat → Int32) (t_second : Nat → Int32) (t_knew : Nat → Int32) (p1_many : Int32) (p1_weaver : Nat → Int32) (p1_second : Nat → Int32) (p1_knew : Nat → Int32) : va_W := [(a_t, .inr (8, [.int t_many, .ref a_t_weaver, .ref a_t_second, .ref a_t_knew])), (a_t_weaver, .inl (E.2.1 0, 10, .inl t_weaver)), (a_t_second, .inl (E.2.1 0, 10, .inl t_second)), (a_t_knew, .inl (E.2.1 0, 10, .inl t_knew)), (a_p1, .inr (8, [.int p1_many, .ref a_p1_weaver, .ref a_p1_second, .ref a_p1_knew])), (a_p1_weaver, .inl (E.2.1 0, 10, .inl p1_weaver)), (a_p1_second, .inl (E.2.1 0, 10, .inl p1_second)), (a_p1_knew, .inl (E.2.1 0, 10, .inl p1_knew))]
def rm_Sightings_copyFrom : Room := { frames := 1, cells := 0, slots := 0, locals := 26 }
set_option maxHeartbeats 4000000 in
set_option maxRecDepth 100000 in
theorem c_Sightings_copyFrom (l : Launch) (E : m_E) (sz N : Nat) (a_t : Nat) (a_t_weaver : Nat) (a_t_second : Nat) (a_t_knew : Nat) (a_p1 : Nat) (a_p1_weaver : Nat) (a_p1_second : Nat) (a_p1_knew : Nat) (t_many : Int32) (t_weaver : Nat → Int32) (t_second : Nat → Int32) (t_knew : Nat → Int32) (p1_many : Int32) (p1_weaver : Nat → Int32) (p1_second : Nat → Int32) (p1_knew : Nat → Int32)  (ures : Int32 × (Nat → Int32) × (Nat → Int32) × (Nat → Int32)) (hF : F_Sightings_copyFrom t_weaver t_second t_knew p1_many p1_weaver p1_second p1_knew = some ures) : m_Met l yX8_copyFrom cX8_copyFrom 2 none rm_Sightings_copyFrom E (wd_Sightings_copyFrom E a_t a_t_weaver a_t_second a_t_knew a_p1 a_p1_weaver a_p1_second a_p1_knew t_many t_weaver t_second t_knew p1_many p1_weaver p1_second p1_knew) (wd_Sightings_copyFrom E a_t a_t_weaver a_t_second a_t_knew a_p1 a_p1_weaver a_p1_second a_p1_knew ures.1 ures.2.1 ures.2.2.1 ures.2.2.2 p1_many p1_weaver p1_second p1_knew) sz [.ref a_t, .ref a_p1] none := by
  refine m_ofV (by decide) (Nat.le_of_ble_eq_true rfl) ?_
  intro p e s m args below meth c A Q ls X hW hA hl hret
  obtain ⟨hx, hb, -, hown, hts, hK, -, hG⟩ := id X
  have hl : lv_has ls 2 [(0, .ref a_t), (1, .ref a_p1)] := hl
  unfold F_Sightings_copyFrom at hF
  refine lv_aload_n hx hb dX8_copyFrom_0 rfl (lv_at hl 0 rfl) ?_
  refine lv_aload_n hx hb dX8_copyFrom_1 rfl (lv_at hl 1 rfl) ?_
  refine m_get X hW fdX8_21 4 rfl rfl dX8_copyFrom_2 ?_
  refine m_putf X hW fdX8_21 0 rfl (Nat.le_of_ble_eq_true rfl) rfl rfl dX8_copyFrom_5 (ws' := (wd_Sightings_copyFrom E a_t a_t_weaver a_t_second a_t_knew a_p1 a_p1_weaver a_p1_second a_p1_knew p1_many t_weaver t_second t_knew p1_many p1_weaver p1_second p1_knew)) rfl (fun H locs hW => ?_)
  refine lv_aload_n hx hb dX8_copyFrom_8 rfl (lv_at hl 1 rfl) ?_
  refine m_get X hW fdX8_11 4 rfl rfl dX8_copyFrom_9 ?_
  refine lv_iconst (v := (0 : Int32)) hx hb dX8_copyFrom_12 (by decide) ?_
  refine lv_aload_n hx hb dX8_copyFrom_13 rfl (lv_at hl 0 rfl) ?_
  refine m_get X hW fdX8_11 0 rfl rfl dX8_copyFrom_14 ?_
  refine lv_iconst (v := (0 : Int32)) hx hb dX8_copyFrom_17 (by decide) ?_
  refine lv_bipush (v := (10 : Int32)) hx hb dX8_copyFrom_18 (by decide) ?_
  refine m_copyi X hW hl.1 wk_1001 wk_734 wk_733 wk_16 5 1 rfl rfl (by decide) rfl rfl rfl (Nat.le_of_ble_eq_true rfl) (Nat.le_of_ble_eq_true rfl) dX8_copyFrom_20 (ws' := (wd_Sightings_copyFrom E a_t a_t_weaver a_t_second a_t_knew a_p1 a_p1_weaver a_p1_second a_p1_knew p1_many (va_cpy p1_weaver t_weaver 0 0 10) t_second t_knew p1_many p1_weaver p1_second p1_knew)) (ksp := 0) (kdp := 0) (kn := 10) rfl (fun H locs hW => ?_)
  refine lv_aload_n hx hb dX8_copyFrom_23 rfl (lv_at hl 1 rfl) ?_
  refine m_get X hW fdX8_15 4 rfl rfl dX8_copyFrom_24 ?_
  refine lv_iconst (v := (0 : Int32)) hx hb dX8_copyFrom_27 (by decide) ?_
  refine lv_aload_n hx hb dX8_copyFrom_28 rfl (lv_at hl 0 rfl) ?_
  refine m_get X hW fdX8_15 0 rfl rfl dX8_copyFrom_29 ?_
  refine lv_iconst (v := (0 : Int32)) hx hb dX8_copyFrom_32 (by decide) ?_
  refine lv_bipush (v := (10 : Int32)) hx hb dX8_copyFrom_33 (by decide) ?_
  refine m_copyi X hW hl.1 wk_1001 wk_734 wk_733 wk_16 6 2 rfl rfl (by decide) rfl rfl rfl (Nat.le_of_ble_eq_true rfl) (Nat.le_of_ble_eq_true rfl) dX8_copyFrom_35 (ws' := (wd_Sightings_copyFrom E a_t a_t_weaver a_t_second a_t_knew a_p1 a_p1_weaver a_p1_second a_p1_knew p1_many (va_cpy p1_weaver t_weaver 0 0 10) (va_cpy p1_second t_second 0 0 10) t_knew p1_many p1_weaver p1_second p1_knew)) (ksp := 0) (kdp := 0) (kn := 10) rfl (fun H locs hW => ?_)
  refine lv_aload_n hx hb dX8_copyFrom_38 rfl (lv_at hl 1 rfl) ?_
  refine m_get X hW fdX8_18 4 rfl rfl dX8_copyFrom_39 ?_
  refine lv_iconst (v := (0 : Int32)) hx hb dX8_copyFrom_42 (by decide) ?_
  refine lv_aload_n hx hb dX8_copyFrom_43 rfl (lv_at hl 0 rfl) ?_
  refine m_get X hW fdX8_18 0 rfl rfl dX8_copyFrom_44 ?_
  refine lv_iconst (v := (0 : Int32)) hx hb dX8_copyFrom_47 (by decide) ?_
  refine lv_bipush (v := (10 : Int32)) hx hb dX8_copyFrom_48 (by decide) ?_
  refine m_copyi X hW hl.1 wk_1001 wk_734 wk_733 wk_16 7 3 rfl rfl (by decide) rfl rfl rfl (Nat.le_of_ble_eq_true rfl) (Nat.le_of_ble_eq_true rfl) dX8_copyFrom_50 (ws' := (wd_Sightings_copyFrom E a_t a_t_weaver a_t_second a_t_knew a_p1 a_p1_weaver a_p1_second a_p1_knew p1_many (va_cpy p1_weaver t_weaver 0 0 10) (va_cpy p1_second t_second 0 0 10) (va_cpy p1_knew t_knew 0 0 10) p1_many p1_weaver p1_second p1_knew)) (ksp := 0) (kdp := 0) (kn := 10) rfl (fun H locs hW => ?_)
  have hq := Option.some.inj hF
  subst hq
  exact hret _ _ _ _ hW dX8_copyFrom_53
abbrev wd_Lexicon_copyFrom (E : m_E) (a_t : Nat) (a_t_others : Nat) (a_t_length : Nat) (a_t_number : Nat) (a_t_weight : Nat) (a_t_leastLike : Nat) (a_t_row : Nat) (a_t_lipsOf : Nat) (a_p1 : Nat) (a_p1_others : Nat) (a_p1_length : Nat) (a_p1_number : Nat) (a_p1_weight : Nat) (a_p1_leastLike : Nat) (a_p1_row : Nat) (a_p1_lipsOf : Nat) (t_words : Int32) (t_rowLips : Int32) (t_girlKnows : Int32) (t_length : Nat → Int32) (t_number : Nat → Int32) (t_weight : Nat → Int32) (t_leastLike : Nat → Int32) (t_row : Nat → Int32) (t_lipsOf : Nat → Int32) (p1_words : Int32) (p1_rowLips : Int32) (p1_girlKnows : Int32) (p1_length : Nat → Int32) (p1_number : Nat → Int32) (p1_weight : Nat → Int32) (p1_leastLike : Nat → Int32) (p1_row : Nat → Int32) (p1_lipsOf : Nat → Int32) : va_W := [(a_t, .inr (3, [.int t_words, .ref a_t_length, .ref a_t_number, .ref a_t_weight, .ref a_t_leastLike, .ref a_t_row, .int t_rowLips, .int t_girlKnows, .ref a_t_lipsOf, .ref a_t_others])), (a_t_length, .inl (E.2.1 0, 10, .inl t_length)), (a_t_number, .inl (E.2.1 0, 10, .inl t_number)), (a_t_weight, .inl (E.2.1 0, 10, .inl t_weight)), (a_t_leastLike, .inl (E.2.1 0, 6, .inl t_leastLike)), (a_t_row, .inl (E.2.1 0, 24, .inl t_row)), (a_t_lipsOf, .inl (E.2.1 0, 60, .inl t_lipsOf)), (a_p1, .inr (3, [.int p1_words, .ref a_p1_length, .ref a_p1_number, .ref a_p1_weight, .ref a_p1_leastLike, .ref a_p1_row, .int p1_rowLips, .int p1_girlKnows, .ref a_p1_lipsOf, .ref a_p1_others])), (a_p1_length, .inl (E.2.1 0, 10, .inl p1_length)), (a_p1_number, .inl (E.2.1 0, 10, .inl p1_number)), (a_p1_weight, .inl (E.2.1 0, 10, .inl p1_weight)), (a_p1_leastLike, .inl (E.2.1 0, 6, .inl p1_leastLike)), (a_p1_row, .inl (E.2.1 0, 24, .inl p1_row)), (a_p1_lipsOf, .inl (E.2.1 0, 60, .inl p1_lipsOf))]
def rm_Lexicon_copyFrom : Room := { frames := 1, cells := 0, slots := 0, locals := 26 }
set_option maxHeartbeats 4000000 in
set_option maxRecDepth 100000 in
theorem c_Lexicon_copyFrom (l : Launch) (E : m_E) (sz N : Nat) (a_t : Nat) (a_t_others : Nat) (a_t_length : Nat) (a_t_number : Nat) (a_t_weight : Nat) (a_t_leastLike : Nat) (a_t_row : Nat) (a_t_lipsOf : Nat) (a_p1 : Nat) (a_p1_others : Nat) (a_p1_length : Nat) (a_p1_number : Nat) (a_p1_weight : Nat) (a_p1_leastLike : Nat) (a_p1_row : Nat) (a_p1_lipsOf : Nat) (t_words : Int32) (t_rowLips : Int32) (t_girlKnows : Int32) (t_length : Nat → Int32) (t_number : Nat → Int32) (t_weight : Nat → Int32) (t_leastLike : Nat → Int32) (t_row : Nat → Int32) (t_lipsOf : Nat → Int32) (p1_words : Int32) (p1_rowLips : Int32) (p1_girlKnows : Int32) (p1_length : Nat → Int32) (p1_number : Nat → Int32) (p1_weight : Nat → Int32) (p1_leastLike : Nat → Int32) (p1_row : Nat → Int32) (p1_lipsOf : Nat → Int32)  (ures : Int32 × Int32 × Int32 × (Nat → Int32) × (Nat → Int32) × (Nat → Int32) × (Nat → Int32) × (Nat → Int32) × (Nat → Int32)) (hF : F_Lexicon_copyFrom t_length t_number t_weight t_leastLike t_row t_lipsOf p1_words p1_rowLips p1_girlKnows p1_length p1_number p1_weight p1_leastLike p1_row p1_lipsOf = some ures) : m_Met l yX3_copyFrom cX3_copyFrom 2 none rm_Lexicon_copyFrom E (wd_Lexicon_copyFrom E a_t a_t_others a_t_length a_t_number a_t_weight a_t_leastLike a_t_row a_t_lipsOf a_p1 a_p1_others a_p1_length a_p1_number a_p1_weight a_p1_leastLike a_p1_row a_p1_lipsOf t_words t_rowLips t_girlKnows t_length t_number t_weight t_leastLike t_row t_lipsOf p1_words p1_rowLips p1_girlKnows p1_length p1_number p1_weight p1_leastLike p1_row p1_lipsOf) (wd_Lexicon_copyFrom E a_t a_t_others a_t_length a_t_number a_t_weight a_t_leastLike a_t_row a_t_lipsOf a_p1 a_p1_others a_p1_length a_p1_number a_p1_weight a_p1_leastLike a_p1_row a_p1_lipsOf ures.1 ures.2.1 ures.2.2.1 ures.2.2.2.1 ures.2.2.2.2.1 ures.2.2.2.2.2.1 ures.2.2.2.2.2.2.1 ures.2.2.2.2.2.2.2.1 ures.2.2.2.2.2.2.2.2 p1_words p1_rowLips p1_girlKnows p1_length p1_number p1_weight p1_leastLike p1_row p1_lipsOf) sz [.ref a_t, .ref a_p1] none := by
  refine m_ofV (by decide) (Nat.le_of_ble_eq_true rfl) ?_
  intro p e s m args below meth c A Q ls X hW hA hl hret
  obtain ⟨hx, hb, -, hown, hts, hK, -, hG⟩ := id X
  have hl : lv_has ls 2 [(0, .ref a_t), (1, .ref a_p1)] := hl
  unfold F_Lexicon_copyFrom at hF
  refine lv_aload_n hx hb dX3_copyFrom_0 rfl (lv_at hl 0 rfl) ?_
  refine lv_aload_n hx hb dX3_copyFrom_1 rfl (lv_at hl 1 rfl) ?_
  refine m_get X hW fdX3_36 7 rfl rfl dX3_copyFrom_2 ?_
  refine m_putf X hW fdX3_36 0 rfl (Nat.le_of_ble_eq_true rfl) rfl rfl dX3_copyFrom_5 (ws' := (wd_Lexicon_copyFrom E a_t a_t_others a_t_length a_t_number a_t_weight a_t_leastLike a_t_row a_t_lipsOf a_p1 a_p1_others a_p1_length a_p1_number a_p1_weight a_p1_leastLike a_p1_row a_p1_lipsOf p1_words t_rowLips t_girlKnows t_length t_number t_weight t_leastLike t_row t_lipsOf p1_words p1_rowLips p1_girlKnows p1_length p1_number p1_weight p1_leastLike p1_row p1_lipsOf)) rfl (fun H locs hW => ?_)
  refine lv_aload_n hx hb dX3_copyFrom_8 rfl (lv_at hl 0 rfl) ?_
  refine lv_aload_n hx hb dX3_copyFrom_9 rfl (lv_at hl 1 rfl) ?_
  refine m_get X hW fdX3_40 7 rfl rfl dX3_copyFrom_10 ?_
  refine m_putf X hW fdX3_40 0 rfl (Nat.le_of_ble_eq_true rfl) rfl rfl dX3_copyFrom_13 (ws' := (wd_Lexicon_copyFrom E a_t a_t_others a_t_length a_t_number a_t_weight a_t_leastLike a_t_row a_t_lipsOf a_p1 a_p1_others a_p1_length a_p1_number a_p1_weight a_p1_leastLike a_p1_row a_p1_lipsOf p1_words p1_rowLips t_girlKnows t_length t_number t_weight t_leastLike t_row t_lipsOf p1_words p1_rowLips p1_girlKnows p1_length p1_number p1_weight p1_leastLike p1_row p1_lipsOf)) rfl (fun H locs hW => ?_)
  refine lv_aload_n hx hb dX3_copyFrom_16 rfl (lv_at hl 0 rfl) ?_
  refine lv_aload_n hx hb dX3_copyFrom_17 rfl (lv_at hl 1 rfl) ?_
  refine m_get X hW fdX3_43 7 rfl rfl dX3_copyFrom_18 ?_
  refine m_putf X hW fdX3_43 0 rfl (Nat.le_of_ble_eq_true rfl) rfl rfl dX3_copyFrom_21 (ws' := (wd_Lexicon_copyFrom E a_t a_t_others a_t_length a_t_number a_t_weight a_t_leastLike a_t_row a_t_lipsOf a_p1 a_p1_others a_p1_length a_p1_number a_p1_weight a_p1_leastLike a_p1_row a_p1_lipsOf p1_words p1_rowLips p1_girlKnows t_length t_number t_weight t_leastLike t_row t_lipsOf p1_words p1_rowLips p1_girlKnows p1_length p1_number p1_weight p1_leastLike p1_row p1_lipsOf)) rfl (fun H locs hW => ?_)
  refine lv_aload_n hx hb dX3_copyFrom_24 rfl (lv_at hl 1 rfl) ?_
  refine m_get X hW fdX3_11 7 rfl rfl dX3_copyFrom_25 ?_
  refine lv_iconst (v := (0 : Int32)) hx hb dX3_copyFrom_28 (by decide) ?_
  refine lv_aload_n hx hb dX3_copyFrom_29 rfl (lv_at hl 0 rfl) ?_
  refine m_get X hW fdX3_11 0 rfl rfl dX3_copyFrom_30 ?_
  refine lv_iconst (v := (0 : Int32)) hx hb dX3_copyFrom_33 (by decide) ?_
  refine lv_bipush (v := (10 : Int32)) hx hb dX3_copyFrom_34 (by decide) ?_
  refine m_copyi X hW hl.1 wk_1006 wk_734 wk_733 wk_16 8 1 rfl rfl (by decide) rfl rfl rfl (Nat.le_of_ble_eq_true rfl) (Nat.le_of_ble_eq_true rfl) dX3_copyFrom_36 (ws' := (wd_Lexicon_copyFrom E a_t a_t_others a_t_length a_t_number a_t_weight a_t_leastLike a_t_row a_t_lipsOf a_p1 a_p1_others a_p1_length a_p1_number a_p1_weight a_p1_leastLike a_p1_row a_p1_lipsOf p1_words p1_rowLips p1_girlKnows (va_cpy p1_length t_length 0 0 10) t_number t_weight t_leastLike t_row t_lipsOf p1_words p1_rowLips p1_girlKnows p1_length p1_number p1_weight p1_leastLike p1_row p1_lipsOf)) (ksp := 0) (kdp := 0) (kn := 10) rfl (fun H locs hW => ?_)
  refine lv_aload_n hx hb dX3_copyFrom_39 rfl (lv_at hl 1 rfl) ?_
  refine m_get X hW fdX3_15 7 rfl rfl dX3_copyFrom_40 ?_
  refine lv_iconst (v := (0 : Int32)) hx hb dX3_copyFrom_43 (by decide) ?_
  refine lv_aload_n hx hb dX3_copyFrom_44 rfl (lv_at hl 0 rfl) ?_
  refine m_get X hW fdX3_15 0 rfl rfl dX3_copyFrom_45 ?_
  refine lv_iconst (v := (0 : Int32)) hx hb dX3_copyFrom_48 (by decide) ?_
  refine lv_bipush (v := (10 : Int32)) hx hb dX3_copyFrom_49 (by decide) ?_
  refine m_copyi X hW hl.1 wk_1006 wk_734 wk_733 wk_16 9 2 rfl rfl (by decide) rfl rfl rfl (Nat.le_of_ble_eq_true rfl) (Nat.le_of_ble_eq_true rfl) dX3_copyFrom_51 (ws' := (wd_Lexicon_copyFrom E a_t a_t_others a_t_length a_t_number a_t_weight a_t_leastLike a_t_row a_t_lipsOf a_p1 a_p1_others a_p1_length a_p1_number a_p1_weight a_p1_leastLike a_p1_row a_p1_lipsOf p1_words p1_rowLips p1_girlKnows (va_cpy p1_length t_length 0 0 10) (va_cpy p1_number t_number 0 0 10) t_weight t_leastLike t_row t_lipsOf p1_words p1_rowLips p1_girlKnows p1_length p1_number p1_weight p1_leastLike p1_row p1_lipsOf)) (ksp := 0) (kdp := 0) (kn := 10) rfl (fun H locs hW => ?_)
  refine lv_aload_n hx hb dX3_copyFrom_54 rfl (lv_at hl 1 rfl) ?_
  refine m_get X hW fdX3_18 7 rfl rfl dX3_copyFrom_55 ?_
  refine lv_iconst (v := (0 : Int32)) hx hb dX3_copyFrom_58 (by decide) ?_
  refine lv_aload_n hx hb dX3_copyFrom_59 rfl (lv_at hl 0 rfl) ?_
  refine m_get X hW fdX3_18 0 rfl rfl dX3_copyFrom_60 ?_
  refine lv_iconst (v := (0 : Int32)) hx hb dX3_copyFrom_63 (by decide) ?_
  refine lv_bipush (v := (10 : Int32)) hx hb dX3_copyFrom_64 (by decide) ?_
  refine m_copyi X hW hl.1 wk_1006 wk_734 wk_733 wk_16 10 3 rfl rfl (by decide) rfl rfl rfl (Nat.le_of_ble_eq_true rfl) (Nat.le_of_ble_eq_true rfl) dX3_copyFrom_66 (ws' := (wd_Lexicon_copyFrom E a_t a_t_others a_t_length a_t_number a_t_weight a_t_leastLike a_t_row a_t_lipsOf a_p1 a_p1_others a_p1_length a_p1_number a_p1_weight a_p1_leastLike a_p1_row a_p1_lipsOf p1_words p1_rowLips p1_girlKnows (va_cpy p1_length t_length 0 0 10) (va_cpy p1_number t_number 0 0 10) (va_cpy p1_weight t_weight 0 0 10) t_leastLike t_row t_lipsOf p1_words p1_rowLips p1_girlKnows p1_length p1_number p1_weight p1_leastLike p1_row p1_lipsOf)) (ksp := 0) (kdp := 0) (kn := 10) rfl (fun H locs hW => ?_)
  refine lv_aload_n hx hb dX3_copyFrom_69 rfl (lv_at hl 1 rfl) ?_
  refine m_get X hW fdX3_21 7 rfl rfl dX3_copyFrom_70 ?_
  refine lv_iconst (v := (0 : Int32)) hx hb dX3_copyFrom_73 (by decide) ?_
  refine lv_aload_n hx hb dX3_copyFrom_74 rfl (lv_at hl 0 rfl) ?_
  refine m_get X hW fdX3_21 0 rfl rfl dX3_copyFrom_75 ?_
  refine lv_iconst (v := (0 : Int32)) hx hb dX3_copyFrom_78 (by decide) ?_
  refine lv_bipush (v := (6 : Int32)) hx hb dX3_copyFrom_79 (by decide) ?_
  refine m_copyi X hW hl.1 wk_1006 wk_734 wk_733 wk_16 11 4 rfl rfl (by decide) rfl rfl rfl (Nat.le_of_ble_eq_true rfl) (Nat.le_of_ble_eq_true rfl) dX3_copyFrom_81 (ws' := (wd_Lexicon_copyFrom E a_t a_t_others a_t_length a_t_number a_t_weight a_t_leastLike a_t_row a_t_lipsOf a_p1 a_p1_others a_p1_length a_p1_number a_p1_weight a_p1_leastLike a_p1_row a_p1_lipsOf p1_words p1_rowLips p1_girlKnows (va_cpy p1_length t_length 0 0 10) (va_cpy p1_number t_number 0 0 10) (va_cpy p1_weight t_weight 0 0 10) (va_cpy p1_leastLike t_leastLike 0 0 6) t_row t_lipsOf p1_words p1_rowLips p1_girlKnows p1_length p1_number p1_weight p1_leastLike p1_row p1_lipsOf)) (ksp := 0) (kdp := 0) (kn := 6) rfl (fun H locs hW => ?_)
  refine lv_aload_n hx hb dX3_copyFrom_84 rfl (lv_at hl 1 rfl) ?_
  refine m_get X hW fdX3_24 7 rfl rfl dX3_copyFrom_85 ?_
  refine lv_iconst (v := (0 : Int32)) hx hb dX3_copyFrom_88 (by decide) ?_
  refine lv_aload_n hx hb dX3_copyFrom_89 rfl (lv_at hl 0 rfl) ?_
  refine m_get X hW fdX3_24 0 rfl rfl dX3_copyFrom_90 ?_
  refine lv_iconst (v := (0 : Int32)) hx hb dX3_copyFrom_93 (by decide) ?_
  refine lv_bipush (v := (24 : Int32)) hx hb dX3_copyFrom_94 (by decide) ?_
  refine m_copyi X hW hl.1 wk_1006 wk_734 wk_733 wk_16 12 5 rfl rfl (by decide) rfl rfl rfl (Nat.le_of_ble_eq_true rfl) (Nat.le_of_ble_eq_true rfl) dX3_copyFrom_96 (ws' := (wd_Lexicon_copyFrom E a_t a_t_others a_t_length a_t_number a_t_weight a_t_leastLike a_t_row a_t_lipsOf a_p1 a_p1_others a_p1_length a_p1_number a_p1_weight a_p1_leastLike a_p1_row a_p1_lipsOf p1_words p1_rowLips p1_girlKnows (va_cpy p1_length t_length 0 0 10) (va_cpy p1_number t_number 0 0 10) (va_cpy p1_weight t_weight 0 0 10) (va_cpy p1_leastLike t_leastLike 0 0 6) (va_cpy p1_row t_row 0 0 24) t_lipsOf p1_words p1_rowLips p1_girlKnows p1_length p1_number p1_weight p1_leastLike p1_row p1_lipsOf)) (ksp := 0) (kdp := 0) (kn := 24) rfl (fun H locs hW => ?_)
  refine lv_aload_n hx hb dX3_copyFrom_99 rfl (lv_at hl 1 rfl) ?_
  refine m_get X hW fdX3_27 7 rfl rfl dX3_copyFrom_100 ?_
  refine lv_iconst (v := (0 : Int32)) hx hb dX3_copyFrom_103 (by decide) ?_
  refine lv_aload_n hx hb dX3_copyFrom_104 rfl (lv_at hl 0 rfl) ?_
  refine m_get X hW fdX3_27 0 rfl rfl dX3_copyFrom_105 ?_
  refine lv_iconst (v := (0 : Int32)) hx hb dX3_copyFrom_108 (by decide) ?_
  refine lv_bipush (v := (60 : Int32)) hx hb dX3_copyFrom_109 (by decide) ?_
  refine m_copyi X hW hl.1 wk_1006 wk_734 wk_733 wk_16 13 6 rfl rfl (by decide) rfl rfl rfl (Nat.le_of_ble_eq_true rfl) (Nat.le_of_ble_eq_true rfl) dX3_copyFrom_111 (ws' := (wd_Lexicon_copyFrom E a_t a_t_others a_t_length a_t_number a_t_weight a_t_leastLike a_t_row a_t_lipsOf a_p1 a_p1_others a_p1_length a_p1_number a_p1_weight a_p1_leastLike a_p1_row a_p1_lipsOf p1_words p1_rowLips p1_girlKnows (va_cpy p1_length t_length 0 0 10) (va_cpy p1_number t_number 0 0 10) (va_cpy p1_weight t_weight 0 0 10) (va_cpy p1_leastLike t_leastLike 0 0 6) (va_cpy p1_row t_row 0 0 24) (va_cpy p1_lipsOf t_lipsOf 0 0 60) p1_words p1_rowLips p1_girlKnows p1_length p1_number p1_weight p1_leastLike p1_row p1_lipsOf)) (ksp := 0) (kdp := 0) (kn := 60) rfl (fun H locs hW => ?_)
  have hq := Option.some.inj hF
  subst hq
  exact hret _ _ _ _ hW dX3_copyFrom_114
abbrev wd_Shed_copyFrom (E : m_E) (a_t : Nat) (a_t_floor : Nat) (a_t_floor_place : Nat) (a_t_floor_way : Nat) (a_t_floor_tell : Nat) (a_t_floor_look : Nat) (a_t_floor_farSquare : Nat) (a_t_sightings : Nat) (a_t_sightings_weaver : Nat) (a_t_sightings_second : Nat) (a_t_sightings_knew : Nat) (a_t_lexicon : Nat) (a_t_lexicon_others : Nat) (a_t_lexicon_length : Nat) (a_t_lexicon_number : Nat) (a_t_lexicon_weight : Nat) (a_t_lexicon_leastLike : Nat) (a_t_lexicon_row : Nat) (a_t_lexicon_lipsOf : Nat) (a_t_level : Nat) (a_t_loss : Nat) (a_p1 : Nat) (a_p1_floor : Nat) (a_p1_floor_place : Nat) (a_p1_floor_way : Nat) (a_p1_floor_tell : Nat) (a_p1_floor_look : Nat) (a_p1_floor_farSquare : Nat) (a_p1_sightings : Nat) (a_p1_sightings_weaver : Nat) (a_p1_sightings_second : Nat) (a_p1_sightings_knew : Nat) (a_p1_lexicon : Nat) (a_p1_lexicon_others : Nat) (a_p1_lexicon_length : Nat) (a_p1_lexicon_number : Nat) (a_p1_lexicon_weight : Nat) (a_p1_lexicon_leastLike : Nat) (a_p1_lexicon_row : Nat) (a_p1_lexicon_lipsOf : Nat) (a_p1_level : Nat) (a_p1_loss : Nat) (t_clearness : Int32) (t_isKept : Int32) (t_floor_pillars : Int64) (t_floor_weavers : Int32) (t_floor_place : Nat → Int32) (t_floor_way : Nat → Int32) (t_floor_tell : Nat → Int32) (t_floor_look : Nat → Int32) (t_floor_farSquare : Nat → Int32) (t_sightings_many : Int32) (t_sightings_weaver : Nat → Int32) (t_sightings_second : Nat → Int32) (t_sightings_knew : Nat → Int32) (t_lexicon_words : Int32) (t_lexicon_rowLips : Int32) (t_lexicon_girlKnows : Int32) (t_lexicon_length : Nat → Int32) (t_lexicon_number : Nat → Int32) (t_lexicon_weight : Nat → Int32) (t_lexicon_leastLike : Nat → Int32) (t_lexicon_row : Nat → Int32) (t_lexicon_lipsOf : Nat → Int32) (t_level : Nat → Int32) (t_loss : Nat → Int32) (p1_clearness : Int32) (p1_isKept : Int32) (p1_floor_pillars : Int64) (p1_floor_weavers : Int32) (p1_floor_place : Nat → Int32) (p1_floor_way : Nat → Int32) (p1_floor_tell : Nat → Int32) (p1_floor_look : Nat → Int32) (p1_floor_farSquare : Nat → Int32) (p1_sightings_many : Int32) (p1_sightings_weaver : Nat → Int32) (p1_sightings_second : Nat → Int32) (p1_sightings_knew : Nat → Int32) (p1_lexicon_words : Int32) (p1_lexicon_rowLips : Int32) (p1_lexicon_girlKnows : Int32) (p1_lexicon_length : Nat → Int32) (p1_lexicon_number : Nat → Int32) (p1_lexicon_weight : Nat → Int32) (p1_lexicon_leastLike : Nat → Int32) (p1_lexicon_row : Nat → Int32) (p1_lexicon_lipsOf : Nat → Int32) (p1_level : Nat → Int32) (p1_loss : Nat → Int32) : va_W := [(a_t, .inr (7, [.ref a_t_floor, .ref a_t_sightings, .ref a_t_lexicon, .ref a_t_level, .ref a_t_loss, .int t_clearness, .int t_isKept])), (a_t_floor, .inr (1, [.long t_floor_pillars, .int t_floor_weavers, .ref a_t_floor_place, .ref a_t_floor_way, .ref a_t_floor_tell, .ref a_t_floor_look, .ref a_t_floor_farSquare])), (a_t_floor_place, .inl (E.2.1 0, 8, .inl t_floor_place)), (a_t_floor_way, .inl (E.2.1 0, 8, .inl t_floor_way)), (a_t_floor_tell, .inl (E.2.1 0, 8, .inl t_floor_tell)), (a_t_floor_look, .inl (E.2.1 0, 8, .inl t_floor_look)), (a_t_floor_farSquare, .inl (E.2.1 0, 2, .inl t_floor_farSquare)), (a_t_sightings, .inr (8, [.int t_sightings_many, .ref a_t_sightings_weaver, .ref a_t_sightings_second, .ref a_t_sightings_knew])), (a_t_sightings_weaver, .inl (E.2.1 0, 10, .inl t_sightings_weaver)), (a_t_sightings_second, .inl (E.2.1 0, 10, .inl t_sightings_second)), (a_t_sightings_knew, .inl (E.2.1 0, 10, .inl t_sightings_knew)), (a_t_lexicon, .inr (3, [.int t_lexicon_words, .ref a_t_lexicon_length, .ref a_t_lexicon_number, .ref a_t_lexicon_weight, .ref a_t_lexicon_leastLike, .ref a_t_lexicon_row, .int t_lexicon_rowLips, .int t_lexicon_girlKnows, .ref a_t_lexicon_lipsOf, .ref a_t_lexicon_others])), (a_t_lexicon_length, .inl (E.2.1 0, 10, .inl t_lexicon_length)), (a_t_lexicon_number, .inl (E.2.1 0, 10, .inl t_lexicon_number)), (a_t_lexicon_weight, .inl (E.2.1 0, 10, .inl t_lexicon_weight)), (a_t_lexicon_leastLike, .inl (E.2.1 0, 6, .inl t_lexicon_leastLike)), (a_t_lexicon_row, .inl (E.2.1 0, 24, .inl t_lexicon_row)), (a_t_lexicon_lipsOf, .inl (E.2.1 0, 60, .inl t_lexicon_lipsOf)), (a_t_level, .inl (E.2.1 0, 6, .inl t_level)), (a_t_loss, .inl (E.2.1 0, 6, .inl t_loss)), (a_p1, .inr (7, [.ref a_p1_floor, .ref a_p1_sightings, .ref a_p1_lexicon, .ref a_p1_level, .ref a_p1_loss, .int p1_clearness, .int p1_isKept])), (a_p1_floor, .inr (1, [.long p1_floor_pillars, .int p1_floor_weavers, .ref a_p1_floor_place, .ref a_p1_floor_way, .ref a_p1_floor_tell, .ref a_p1_floor_look, .ref a_p1_floor_farSquare])), (a_p1_floor_place, .inl (E.2.1 0, 8, .inl p1_floor_place)), (a_p1_floor_way, .inl (E.2.1 0, 8, .inl p1_floor_way)), (a_p1_floor_tell, .inl (E.2.1 0, 8, .inl p1_floor_tell)), (a_p1_floor_look, .inl (E.2.1 0, 8, .inl p1_floor_look)), (a_p1_floor_farSquare, .inl (E.2.1 0, 2, .inl p1_floor_farSquare)), (a_p1_sightings, .inr (8, [.int p1_sightings_many, .ref a_p1_sightings_weaver, .ref a_p1_sightings_second, .ref a_p1_sightings_knew])), (a_p1_sightings_weaver, .inl (E.2.1 0, 10, .inl p1_sightings_weaver)), (a_p1_sightings_second, .inl (E.2.1 0, 10, .inl p1_sightings_second)), (a_p1_sightings_knew, .inl (E.2.1 0, 10, .inl p1_sightings_knew)), (a_p1_lexicon, .inr (3, [.int p1_lexicon_words, .ref a_p1_lexicon_length, .ref a_p1_lexicon_number, .ref a_p1_lexicon_weight, .ref a_p1_lexicon_leastLike, .ref a_p1_lexicon_row, .int p1_lexicon_rowLips, .int p1_lexicon_girlKnows, .ref a_p1_lexicon_lipsOf, .ref a_p1_lexicon_others])), (a_p1_lexicon_length, .inl (E.2.1 0, 10, .inl p1_lexicon_length)), (a_p1_lexicon_number, .inl (E.2.1 0, 10, .inl p1_lexicon_number)), (a_p1_lexicon_weight, .inl (E.2.1 0, 10, .inl p1_lexicon_weight)), (a_p1_lexicon_leastLike, .inl (E.2.1 0, 6, .inl p1_lexicon_leastLike)), (a_p1_lexicon_row, .inl (E.2.1 0, 24, .inl p1_lexicon_row)), (a_p1_lexicon_lipsOf, .inl (E.2.1 0, 60, .inl p1_lexicon_lipsOf)), (a_p1_level, .inl (E.2.1 0, 6, .inl p1_level)), (a_p1_loss, .inl (E.2.1 0, 6, .inl p1_loss))]
def rm_Shed_copyFrom : Room := { frames := 2, cells := 0, slots := 0, locals := 47 }
set_option maxHeartbeats 4000000 in
set_option maxRecDepth 100000 in
theorem c_Shed_copyFrom (l : Launch) (E : m_E) (sz N : Nat) (a_t : Nat) (a_t_floor : Nat) (a_t_floor_place : Nat) (a_t_floor_way : Nat) (a_t_floor_tell : Nat) (a_t_floor_look : Nat) (a_t_floor_farSquare : Nat) (a_t_sightings : Nat) (a_t_sightings_weaver : Nat) (a_t_sightings_second : Nat) (a_t_sightings_knew : Nat) (a_t_lexicon : Nat) (a_t_lexicon_others : Nat) (a_t_lexicon_length : Nat) (a_t_lexicon_number : Nat) (a_t_lexicon_weight : Nat) (a_t_lexicon_leastLike : Nat) (a_t_lexicon_row : Nat) (a_t_lexicon_lipsOf : Nat) (a_t_level : Nat) (a_t_loss : Nat) (a_p1 : Nat) (a_p1_floor : Nat) (a_p1_floor_place : Nat) (a_p1_floor_way : Nat) (a_p1_floor_tell : Nat) (a_p1_floor_look : Nat) (a_p1_floor_farSquare : Nat) (a_p1_sightings : Nat) (a_p1_sightings_weaver : Nat) (a_p1_sightings_second : Nat) (a_p1_sightings_knew : Nat) (a_p1_lexicon : Nat) (a_p1_lexicon_others : Nat) (a_p1_lexicon_length : Nat) (a_p1_lexicon_number : Nat) (a_p1_lexicon_weight : Nat) (a_p1_lexicon_leastLike : Nat) (a_p1_lexicon_row : Nat) (a_p1_lexicon_lipsOf : Nat) (a_p1_level : Nat) (a_p1_loss : Nat) (t_clearness : Int32) (t_isKept : Int32) (t_floor_pillars : Int64) (t_floor_weavers : Int32) (t_floor_place : Nat → Int32) (t_floor_way : Nat → Int32) (t_floor_tell : Nat → Int32) (t_floor_look : Nat → Int32) (t_floor_farSquare : Nat → Int32) (t_sightings_many : Int32) (t_sightings_weaver : Nat → Int32) (t_sightings_second : Nat → Int32) (t_sightings_knew : Nat → Int32) (t_lexicon_words : Int32) (t_lexicon_rowLips : Int32) (t_lexicon_girlKnows : Int32) (t_lexicon_length : Nat → Int32) (t_lexicon_number : Nat → Int32) (t_lexicon_weight : Nat → Int32) (t_lexicon_leastLike : Nat → Int32) (t_lexicon_row : Nat → Int32) (t_lexicon_lipsOf : Nat → Int32) (t_level : Nat → Int32) (t_loss : Nat → Int32) (p1_clearness : Int32) (p1_isKept : Int32) (p1_floor_pillars : Int64) (p1_floor_weavers : Int32) (p1_floor_place : Nat → Int32) (p1_floor_way : Nat → Int32) (p1_floor_tell : Nat → Int32) (p1_floor_look : Nat → Int32) (p1_floor_farSquare : Nat → Int32) (p1_sightings_many : Int32) (p1_sightings_weaver : Nat → Int32) (p1_sightings_second : Nat → Int32) (p1_sightings_knew : Nat → Int32) (p1_lexicon_words : Int32) (p1_lexicon_rowLips : Int32) (p1_lexicon_girlKnows : Int32) (p1_lexicon_length : Nat → Int32) (p1_lexicon_number : Nat → Int32) (p1_lexicon_weight : Nat → Int32) (p1_lexicon_leastLike : Nat → Int32) (p1_lexicon_row : Nat → Int32) (p1_lexicon_lipsOf : Nat → Int32) (p1_level : Nat → Int32) (p1_loss : Nat → Int32)  (ures : Int32 × Int64 × Int32 × (Nat → Int32) × (Nat → Int32) × (Nat → Int32) × (Nat → Int32) × (Nat → Int32) × Int32 × (Nat → Int32) × (Nat → Int32) × (Nat → Int32) × Int32 × Int32 × Int32 × (Nat → Int32) × (Nat → Int32) × (Nat → Int32) × (Nat → Int32) × (Nat → Int32) × (Nat → Int32) × (Nat → Int32) × (Nat → Int32)) (hF : F_Shed_copyFrom t_floor_place t_floor_way t_floor_tell t_floor_look t_floor_farSquare t_sightings_weaver t_sightings_second t_sightings_knew t_lexicon_length t_lexicon_number t_lexicon_weight t_lexicon_leastLike t_lexicon_row t_lexicon_lipsOf t_level t_loss p1_clearness p1_floor_pillars p1_floor_weavers p1_floor_place p1_floor_way p1_floor_tell p1_floor_look p1_floor_farSquare p1_sightings_many p1_sightings_weaver p1_sightings_second p1_sightings_knew p1_lexicon_words p1_lexicon_rowLips p1_lexicon_girlKnows p1_lexicon_length p1_lexicon_number p1_lexicon_weight p1_lexicon_leastLike p1_lexicon_row p1_lexicon_lipsOf p1_level p1_loss = some ures) : m_Met l yX7_copyFrom cX7_copyFrom 2 none rm_Shed_copyFrom E (wd_Shed_copyFrom E a_t a_t_floor a_t_floor_place a_t_floor_way a_t_floor_tell a_t_floor_look a_t_floor_farSquare a_t_sightings a_t_sightings_weaver a_t_sightings_second a_t_sightings_knew a_t_lexicon a_t_lexicon_others a_t_lexicon_length a_t_lexicon_number a_t_lexicon_weight a_t_lexicon_leastLike a_t_lexicon_row a_t_lexicon_lipsOf a_t_level a_t_loss a_p1 a_p1_floor a_p1_floor_place a_p1_floor_way a_p1_floor_tell a_p1_floor_look a_p1_floor_farSquare a_p1_sightings a_p1_sightings_weaver a_p1_sightings_second a_p1_sightings_knew a_p1_lexicon a_p1_lexicon_others a_p1_lexicon_length a_p1_lexicon_number a_p1_lexicon_weight a_p1_lexicon_leastLike a_p1_lexicon_row a_p1_lexicon_lipsOf a_p1_level a_p1_loss t_clearness t_isKept t_floor_pillars t_floor_weavers t_floor_place t_floor_way t_floor_tell t_floor_look t_floor_farSquare t_sightings_many t_sightings_weaver t_sightings_second t_sightings_knew t_lexicon_words t_lexicon_rowLips t_lexicon_girlKnows t_lexicon_length t_lexicon_number t_lexicon_weight t_lexicon_leastLike t_lexicon_row t_lexicon_lipsOf t_level t_loss p1_clearness p1_isKept p1_floor_pillars p1_floor_weavers p1_floor_place p1_floor_way p1_floor_tell p1_floor_look p1_floor_farSquare p1_sightings_many p1_sightings_weaver p1_sightings_second p1_sightings_knew p1_lexicon_words p1_lexicon_rowLips p1_lexicon_girlKnows p1_lexicon_length p1_lexicon_number p1_lexicon_weight p1_lexicon_leastLike p1_lexicon_row p1_lexicon_lipsOf p1_level p1_loss) (wd_Shed_copyFrom E a_t a_t_floor a_t_floor_place a_t_floor_way a_t_floor_tell a_t_floor_look a_t_floor_farSquare a_t_sightings a_t_sightings_weaver a_t_sightings_second a_t_sightings_knew a_t_lexicon a_t_lexicon_others a_t_lexicon_length a_t_lexicon_number a_t_lexicon_weight a_t_lexicon_leastLike a_t_lexicon_row a_t_lexicon_lipsOf a_t_level a_t_loss a_p1 a_p1_floor a_p1_floor_place a_p1_floor_way a_p1_floor_tell a_p1_floor_look a_p1_floor_farSquare a_p1_sightings a_p1_sightings_weaver a_p1_sightings_second a_p1_sightings_knew a_p1_lexicon a_p1_lexicon_others a_p1_lexicon_length a_p1_lexicon_number a_p1_lexicon_weight a_p1_lexicon_leastLike a_p1_lexicon_row a_p1_lexicon_lipsOf a_p1_level a_p1_loss ures.1 t_isKept ures.2.1 ures.2.2.1 ures.2.2.2.1 ures.2.2.2.2.1 ures.2.2.2.2.2.1 ures.2.2.2.2.2.2.1 ures.2.2.2.2.2.2.2.1 ures.2.2.2.2.2.2.2.2.1 ures.2.2.2.2.2.2.2.2.2.1 ures.2.2.2.2.2.2.2.2.2.2.1 ures.2.2.2.2.2.2.2.2.2.2.2.1 ures.2.2.2.2.2.2.2.2.2.2.2.2.1 ures.2.2.2.2.2.2.2.2.2.2.2.2.2.1 ures.2.2.2.2.2.2.2.2.2.2.2.2.2.2.1 ures.2.2.2.2.2.2.2.2.2.2.2.2.2.2.2.1 ures.2.2.2.2.2.2.2.2.2.2.2.2.2.2.2.2.1 ures.2.2.2.2.2.2.2.2.2.2.2.2.2.2.2.2.2.1 ures.2.2.2.2.2.2.2.2.2.2.2.2.2.2.2.2.2.2.1 ures.2.2.2.2.2.2.2.2.2.2.2.2.2.2.2.2.2.2.2.1 ures.2.2.2.2.2.2.2.2.2.2.2.2.2.2.2.2.2.2.2.2.1 ures.2.2.2.2.2.2.2.2.2.2.2.2.2.2.2.2.2.2.2.2.2.1 ures.2.2.2.2.2.2.2.2.2.2.2.2.2.2.2.2.2.2.2.2.2.2 p1_clearness p1_isKept p1_floor_pillars p1_floor_weavers p1_floor_place p1_floor_way p1_floor_tell p1_floor_look p1_floor_farSquare p1_sightings_many p1_sightings_weaver p1_sightings_second p1_sightings_knew p1_lexicon_words p1_lexicon_rowLips p1_lexicon_girlKnows p1_lexicon_length p1_lexicon_number p1_lexicon_weight p1_lexicon_leastLike p1_lexicon_row p1_lexicon_lipsOf p1_level p1_loss) sz [.ref a_t, .ref a_p1] none := by
  refine m_ofV (by decide) (Nat.le_of_ble_eq_true rfl) ?_
  intro p e s m args below meth c A Q ls X hW hA hl hret
  obtain ⟨hx, hb, -, hown, hts, hK, -, hG⟩ := id X
  have hl : lv_has ls 2 [(0, .ref a_t), (1, .ref a_p1)] := hl
  unfold F_Shed_copyFrom at hF
  refine lv_aload_n hx hb dX7_copyFrom_0 rfl (lv_at hl 0 rfl) ?_
  refine m_get X hW fdX7_10 0 rfl rfl dX7_copyFrom_1 ?_
  refine lv_aload_n hx hb dX7_copyFrom_4 rfl (lv_at hl 1 rfl) ?_
  refine m_get X hW fdX7_10 20 rfl rfl dX7_copyFrom_5 ?_
  obtain ⟨t_floor_pillars'_2, t_floor_weavers'_2, t_floor_place'_2, t_floor_way'_2, t_floor_tell'_2, t_floor_look'_2, t_floor_farSquare'_2, hC1, hF⟩ := bO_s7 hF
  refine m_callV X hW hA hl.1 lkX7_41 (c_Floor_copyFrom l E _ N a_t_floor a_t_floor_place a_t_floor_way a_t_floor_tell a_t_floor_look a_t_floor_farSquare a_p1_floor a_p1_floor_place a_p1_floor_way a_p1_floor_tell a_p1_floor_look a_p1_floor_farSquare t_floor_pillars t_floor_weavers t_floor_place t_floor_way t_floor_tell t_floor_look t_floor_farSquare p1_floor_pillars p1_floor_weavers p1_floor_place p1_floor_way p1_floor_tell p1_floor_look p1_floor_farSquare  (t_floor_pillars'_2, t_floor_weavers'_2, t_floor_place'_2, t_floor_way'_2, t_floor_tell'_2, t_floor_look'_2, t_floor_farSquare'_2) hC1) [1, 2, 3, 4, 5, 6, 21, 22, 23, 24, 25, 26] (by decide) rfl rfl (ws' := (wd_Shed_copyFrom E a_t a_t_floor a_t_floor_place a_t_floor_way a_t_floor_tell a_t_floor_look a_t_floor_farSquare a_t_sightings a_t_sightings_weaver a_t_sightings_second a_t_sightings_knew a_t_lexicon a_t_lexicon_others a_t_lexicon_length a_t_lexicon_number a_t_lexicon_weight a_t_lexicon_leastLike a_t_lexicon_row a_t_lexicon_lipsOf a_t_level a_t_loss a_p1 a_p1_floor a_p1_floor_place a_p1_floor_way a_p1_floor_tell a_p1_floor_look a_p1_floor_farSquare a_p1_sightings a_p1_sightings_weaver a_p1_sightings_second a_p1_sightings_knew a_p1_lexicon a_p1_lexicon_others a_p1_lexicon_length a_p1_lexicon_number a_p1_lexicon_weight a_p1_lexicon_leastLike a_p1_lexicon_row a_p1_lexicon_lipsOf a_p1_level a_p1_loss t_clearness t_isKept t_floor_pillars'_2 t_floor_weavers'_2 t_floor_place'_2 t_floor_way'_2 t_floor_tell'_2 t_floor_look'_2 t_floor_farSquare'_2 t_sightings_many t_sightings_weaver t_sightings_second t_sightings_knew t_lexicon_words t_lexicon_rowLips t_lexicon_girlKnows t_lexicon_length t_lexicon_number t_lexicon_weight t_lexicon_leastLike t_lexicon_row t_lexicon_lipsOf t_level t_loss p1_clearness p1_isKept p1_floor_pillars p1_floor_weavers p1_floor_place p1_floor_way p1_floor_tell p1_floor_look p1_floor_farSquare p1_sightings_many p1_sightings_weaver p1_sightings_second p1_sightings_knew p1_lexicon_words p1_lexicon_rowLips p1_lexicon_girlKnows p1_lexicon_length p1_lexicon_number p1_lexicon_weight p1_lexicon_leastLike p1_lexicon_row p1_lexicon_lipsOf p1_level p1_loss)) rfl 1 rfl rfl rfl (As := [.ref a_p1_floor]) (rest := []) rfl rfl ⟨rfl, rfl, Nat.le_of_ble_eq_true rfl, Nat.le_of_ble_eq_true rfl⟩ (Nat.le_of_ble_eq_true rfl) (Nat.zero_le _) (Nat.zero_le _) dX7_copyFrom_8 (fun H locs hW => ?_)
  clear hC1
  refine lv_aload_n hx hb dX7_copyFrom_11 rfl (lv_at hl 0 rfl) ?_
  refine m_get X hW fdX7_19 0 rfl rfl dX7_copyFrom_12 ?_
  refine lv_aload_n hx hb dX7_copyFrom_15 rfl (lv_at hl 1 rfl) ?_
  refine m_get X hW fdX7_19 20 rfl rfl dX7_copyFrom_16 ?_
  obtain ⟨t_sightings_many'_2, t_sightings_weaver'_2, t_sightings_second'_2, t_sightings_knew'_2, hC2, hF⟩ := bO_s4 hF
  refine m_callV X hW hA hl.1 lkX7_45 (c_Sightings_copyFrom l E _ N a_t_sightings a_t_sightings_weaver a_t_sightings_second a_t_sightings_knew a_p1_sightings a_p1_sightings_weaver a_p1_sightings_second a_p1_sightings_knew t_sightings_many t_sightings_weaver t_sightings_second t_sightings_knew p1_sightings_many p1_sightings_weaver p1_sightings_second p1_sightings_knew  (t_sightings_many'_2, t_sightings_weaver'_2, t_sightings_second'_2, t_sightings_knew'_2) hC2) [7, 8, 9, 10, 27, 28, 29, 30] (by decide) rfl rfl (ws' := (wd_Shed_copyFrom E a_t a_t_floor a_t_floor_place a_t_floor_way a_t_floor_tell a_t_floor_look a_t_floor_farSquare a_t_sightings a_t_sightings_weaver a_t_sightings_second a_t_sightings_knew a_t_lexicon a_t_lexicon_others a_t_lexicon_length a_t_lexicon_number a_t_lexicon_weight a_t_lexicon_leastLike a_t_lexicon_row a_t_lexicon_lipsOf a_t_level a_t_loss a_p1 a_p1_floor a_p1_floor_place a_p1_floor_way a_p1_floor_tell a_p1_floor_look a_p1_floor_farSquare a_p1_sightings a_p1_sightings_weaver a_p1_sightings_second a_p1_sightings_knew a_p1_lexicon a_p1_lexicon_others a_p1_lexicon_length a_p1_lexicon_number a_p1_lexicon_weight a_p1_lexicon_leastLike a_p1_lexicon_row a_p1_lexicon_lipsOf a_p1_level a_p1_loss t_clearness t_isKept t_floor_pillars'_2 t_floor_weavers'_2 t_floor_place'_2 t_floor_way'_2 t_floor_tell'_2 t_floor_look'_2 t_floor_farSquare'_2 t_sightings_many'_2 t_sightings_weaver'_2 t_sightings_second'_2 t_sightings_knew'_2 t_lexicon_words t_lexicon_rowLips t_lexicon_girlKnows t_lexicon_length t_lexicon_number t_lexicon_weight t_lexicon_leastLike t_lexicon_row t_lexicon_lipsOf t_level t_loss p1_clearness p1_isKept p1_floor_pillars p1_floor_weavers p1_floor_place p1_floor_way p1_floor_tell p1_floor_look p1_floor_farSquare p1_sightings_many p1_sightings_weaver p1_sightings_second p1_sightings_knew p1_lexicon_words p1_lexicon_rowLips p1_lexicon_girlKnows p1_lexicon_length p1_lexicon_number p1_lexicon_weight p1_lexicon_leastLike p1_lexicon_row p1_lexicon_lipsOf p1_level p1_loss)) rfl 7 rfl rfl rfl (As := [.ref a_p1_sightings]) (rest := []) rfl rfl ⟨rfl, rfl, Nat.le_of_ble_eq_true rfl, Nat.le_of_ble_eq_true rfl⟩ (Nat.le_of_ble_eq_true rfl) (Nat.zero_le _) (Nat.zero_le _) dX7_copyFrom_19 (fun H locs hW => ?_)
  clear hC2
  refine lv_aload_n hx hb dX7_copyFrom_22 rfl (lv_at hl 0 rfl) ?_
  refine m_get X hW fdX7_26 0 rfl rfl dX7_copyFrom_23 ?_
  refine lv_aload_n hx hb dX7_copyFrom_26 rfl (lv_at hl 1 rfl) ?_
  refine m_get X hW fdX7_26 20 rfl rfl dX7_copyFrom_27 ?_
  obtain ⟨t_lexicon_words'_2, t_lexicon_rowLips'_2, t_lexicon_girlKnows'_2, t_lexicon_length'_2, t_lexicon_number'_2, t_lexicon_weight'_2, t_lexicon_leastLike'_2, t_lexicon_row'_2, t_lexicon_lipsOf'_2, hC3, hF⟩ := bO_s9 hF
  refine m_callV X hW hA hl.1 lkX7_48 (c_Lexicon_copyFrom l E _ N a_t_lexicon a_t_lexicon_others a_t_lexicon_length a_t_lexicon_number a_t_lexicon_weight a_t_lexicon_leastLike a_t_lexicon_row a_t_lexicon_lipsOf a_p1_lexicon a_p1_lexicon_others a_p1_lexicon_length a_p1_lexicon_number a_p1_lexicon_weight a_p1_lexicon_leastLike a_p1_lexicon_row a_p1_lexicon_lipsOf t_lexicon_words t_lexicon_rowLips t_lexicon_girlKnows t_lexicon_length t_lexicon_number t_lexicon_weight t_lexicon_leastLike t_lexicon_row t_lexicon_lipsOf p1_lexicon_words p1_lexicon_rowLips p1_lexicon_girlKnows p1_lexicon_length p1_lexicon_number p1_lexicon_weight p1_lexicon_leastLike p1_lexicon_row p1_lexicon_lipsOf  (t_lexicon_words'_2, t_lexicon_rowLips'_2, t_lexicon_girlKnows'_2, t_lexicon_length'_2, t_lexicon_number'_2, t_lexicon_weight'_2, t_lexicon_leastLike'_2, t_lexicon_row'_2, t_lexicon_lipsOf'_2) hC3) [11, 12, 13, 14, 15, 16, 17, 31, 32, 33, 34, 35, 36, 37] (by decide) rfl rfl (ws' := (wd_Shed_copyFrom E a_t a_t_floor a_t_floor_place a_t_floor_way a_t_floor_tell a_t_floor_look a_t_floor_farSquare a_t_sightings a_t_sightings_weaver a_t_sightings_second a_t_sightings_knew a_t_lexicon a_t_lexicon_others a_t_lexicon_length a_t_lexicon_number a_t_lexicon_weight a_t_lexicon_leastLike a_t_lexicon_row a_t_lexicon_lipsOf a_t_level a_t_loss a_p1 a_p1_floor a_p1_floor_place a_p1_floor_way a_p1_floor_tell a_p1_floor_look a_p1_floor_farSquare a_p1_sightings a_p1_sightings_weaver a_p1_sightings_second a_p1_sightings_knew a_p1_lexicon a_p1_lexicon_others a_p1_lexicon_length a_p1_lexicon_number a_p1_lexicon_weight a_p1_lexicon_leastLike a_p1_lexicon_row a_p1_lexicon_lipsOf a_p1_level a_p1_loss t_clearness t_isKept t_floor_pillars'_2 t_floor_weavers'_2 t_floor_place'_2 t_floor_way'_2 t_floor_tell'_2 t_floor_look'_2 t_floor_farSquare'_2 t_sightings_many'_2 t_sightings_weaver'_2 t_sightings_second'_2 t_sightings_knew'_2 t_lexicon_words'_2 t_lexicon_rowLips'_2 t_lexicon_girlKnows'_2 t_lexicon_length'_2 t_lexicon_number'_2 t_lexicon_weight'_2 t_lexicon_leastLike'_2 t_lexicon_row'_2 t_lexicon_lipsOf'_2 t_level t_loss p1_clearness p1_isKept p1_floor_pillars p1_floor_weavers p1_floor_place p1_floor_way p1_floor_tell p1_floor_look p1_floor_farSquare p1_sightings_many p1_sightings_weaver p1_sightings_second p1_sightings_knew p1_lexicon_words p1_lexicon_rowLips p1_lexicon_girlKnows p1_lexicon_length p1_lexicon_number p1_lexicon_weight p1_lexicon_leastLike p1_lexicon_row p1_lexicon_lipsOf p1_level p1_loss)) rfl 11 rfl rfl rfl (As := [.ref a_p1_lexicon]) (rest := []) rfl rfl ⟨rfl, rfl, Nat.le_of_ble_eq_true rfl, Nat.le_of_ble_eq_true rfl⟩ (Nat.le_of_ble_eq_true rfl) (Nat.zero_le _) (Nat.zero_le _) dX7_copyFrom_30 (fun H locs hW => ?_)
  clear hC3
  refine lv_aload_n hx hb dX7_copyFrom_33 rfl (lv_at hl 1 rfl) ?_
  refine m_get X hW fdX7_30 20 rfl rfl dX7_copyFrom_34 ?_
  refine lv_iconst (v := (0 : Int32)) hx hb dX7_copyFrom_37 (by decide) ?_
  refine lv_aload_n hx hb dX7_copyFrom_38 rfl (lv_at hl 0 rfl) ?_
  refine m_get X hW fdX7_30 0 rfl rfl dX7_copyFrom_39 ?_
  refine lv_iconst (v := (0 : Int32)) hx hb dX7_copyFrom_42 (by decide) ?_
  refine lv_bipush (v := (6 : Int32)) hx hb dX7_copyFrom_43 (by decide) ?_
  refine m_copyi X hW hl.1 wk_1007 wk_734 wk_733 wk_16 38 18 rfl rfl (by decide) rfl rfl rfl (Nat.le_of_ble_eq_true rfl) (Nat.le_of_ble_eq_true rfl) dX7_copyFrom_45 (ws' := (wd_Shed_copyFrom E a_t a_t_floor a_t_floor_place a_t_floor_way a_t_floor_tell a_t_floor_look a_t_floor_farSquare a_t_sightings a_t_sightings_weaver a_t_sightings_second a_t_sightings_knew a_t_lexicon a_t_lexicon_others a_t_lexicon_length a_t_lexicon_number a_t_lexicon_weight a_t_lexicon_leastLike a_t_lexicon_row a_t_lexicon_lipsOf a_t_level a_t_loss a_p1 a_p1_floor a_p1_floor_place a_p1_floor_way a_p1_floor_tell a_p1_floor_look a_p1_floor_farSquare a_p1_sightings a_p1_sightings_weaver a_p1_sightings_second a_p1_sightings_knew a_p1_lexicon a_p1_lexicon_others a_p1_lexicon_length a_p1_lexicon_number a_p1_lexicon_weight a_p1_lexicon_leastLike a_p1_lexicon_row a_p1_lexicon_lipsOf a_p1_level a_p1_loss t_clearness t_isKept t_floor_pillars'_2 t_floor_weavers'_2 t_floor_place'_2 t_floor_way'_2 t_floor_tell'_2 t_floor_look'_2 t_floor_farSquare'_2 t_sightings_many'_2 t_sightings_weaver'_2 t_sightings_second'_2 t_sightings_knew'_2 t_lexicon_words'_2 t_lexicon_rowLips'_2 t_lexicon_girlKnows'_2 t_lexicon_length'_2 t_lexicon_number'_2 t_lexicon_weight'_2 t_lexicon_leastLike'_2 t_lexicon_row'_2 t_lexicon_lipsOf'_2 (va_cpy p1_level t_level 0 0 6) t_loss p1_clearness p1_isKept p1_floor_pillars p1_floor_weavers p1_floor_place p1_floor_way p1_floor_tell p1_floor_look p1_floor_farSquare p1_sightings_many p1_sightings_weaver p1_sightings_second p1_sightings_knew p1_lexicon_words p1_lexicon_rowLips p1_lexicon_girlKnows p1_lexicon_length p1_lexicon_number p1_lexicon_weight p1_lexicon_leastLike p1_lexicon_row p1_lexicon_lipsOf p1_level p1_loss)) (ksp := 0) (kdp := 0) (kn := 6) rfl (fun H locs hW => ?_)
  refine lv_aload_n hx hb dX7_copyFrom_48 rfl (lv_at hl 1 rfl) ?_
  refine m_get X hW fdX7_34 20 rfl rfl dX7_copyFrom_49 ?_
  refine lv_iconst (v := (0 : Int32)) hx hb dX7_copyFrom_52 (by decide) ?_
  refine lv_aload_n hx hb dX7_copyFrom_53 rfl (lv_at hl 0 rfl) ?_
  refine m_get X hW fdX7_34 0 rfl rfl dX7_copyFrom_54 ?_
  refine lv_iconst (v := (0 : Int32)) hx hb dX7_copyFrom_57 (by decide) ?_
  refine lv_bipush (v := (6 : Int32)) hx hb dX7_copyFrom_58 (by decide) ?_
  refine m_copyi X hW hl.1 wk_1007 wk_734 wk_733 wk_16 39 19 rfl rfl (by decide) rfl rfl rfl (Nat.le_of_ble_eq_true rfl) (Nat.le_of_ble_eq_true rfl) dX7_copyFrom_60 (ws' := (wd_Shed_copyFrom E a_t a_t_floor a_t_floor_place a_t_floor_way a_t_floor_tell a_t_floor_look a_t_floor_farSquare a_t_sightings a_t_sightings_weaver a_t_sightings_second a_t_sightings_knew a_t_lexicon a_t_lexicon_others a_t_lexicon_length a_t_lexicon_number a_t_lexicon_weight a_t_lexicon_leastLike a_t_lexicon_row a_t_lexicon_lipsOf a_t_level a_t_loss a_p1 a_p1_floor a_p1_floor_place a_p1_floor_way a_p1_floor_tell a_p1_floor_look a_p1_floor_farSquare a_p1_sightings a_p1_sightings_weaver a_p1_sightings_second a_p1_sightings_knew a_p1_lexicon a_p1_lexicon_others a_p1_lexicon_length a_p1_lexicon_number a_p1_lexicon_weight a_p1_lexicon_leastLike a_p1_lexicon_row a_p1_lexicon_lipsOf a_p1_level a_p1_loss t_clearness t_isKept t_floor_pillars'_2 t_floor_weavers'_2 t_floor_place'_2 t_floor_way'_2 t_floor_tell'_2 t_floor_look'_2 t_floor_farSquare'_2 t_sightings_many'_2 t_sightings_weaver'_2 t_sightings_second'_2 t_sightings_knew'_2 t_lexicon_words'_2 t_lexicon_rowLips'_2 t_lexicon_girlKnows'_2 t_lexicon_length'_2 t_lexicon_number'_2 t_lexicon_weight'_2 t_lexicon_leastLike'_2 t_lexicon_row'_2 t_lexicon_lipsOf'_2 (va_cpy p1_level t_level 0 0 6) (va_cpy p1_loss t_loss 0 0 6) p1_clearness p1_isKept p1_floor_pillars p1_floor_weavers p1_floor_place p1_floor_way p1_floor_tell p1_floor_look p1_floor_farSquare p1_sightings_many p1_sightings_weaver p1_sightings_second p1_sightings_knew p1_lexicon_words p1_lexicon_rowLips p1_lexicon_girlKnows p1_lexicon_length p1_lexicon_number p1_lexicon_weight p1_lexicon_leastLike p1_lexicon_row p1_lexicon_lipsOf p1_level p1_loss)) (ksp := 0) (kdp := 0) (kn := 6) rfl (fun H locs hW => ?_)
  refine lv_aload_n hx hb dX7_copyFrom_63 rfl (lv_at hl 0 rfl) ?_
  refine lv_aload_n hx hb dX7_copyFrom_64 rfl (lv_at hl 1 rfl) ?_
  refine m_get X hW fdX7_37 20 rfl rfl dX7_copyFrom_65 ?_
  refine m_putf X hW fdX7_37 0 rfl (Nat.le_of_ble_eq_true rfl) rfl rfl dX7_copyFrom_68 (ws' := (wd_Shed_copyFrom E a_t a_t_floor a_t_floor_place a_t_floor_way a_t_floor_tell a_t_floor_look a_t_floor_farSquare a_t_sightings a_t_sightings_weaver a_t_sightings_second a_t_sightings_knew a_t_lexicon a_t_lexicon_others a_t_lexicon_length a_t_lexicon_number a_t_lexicon_weight a_t_lexicon_leastLike a_t_lexicon_row a_t_lexicon_lipsOf a_t_level a_t_loss a_p1 a_p1_floor a_p1_floor_place a_p1_floor_way a_p1_floor_tell a_p1_floor_look a_p1_floor_farSquare a_p1_sightings a_p1_sightings_weaver a_p1_sightings_second a_p1_sightings_knew a_p1_lexicon a_p1_lexicon_others a_p1_lexicon_length a_p1_lexicon_number a_p1_lexicon_weight a_p1_lexicon_leastLike a_p1_lexicon_row a_p1_lexicon_lipsOf a_p1_level a_p1_loss p1_clearness t_isKept t_floor_pillars'_2 t_floor_weavers'_2 t_floor_place'_2 t_floor_way'_2 t_floor_tell'_2 t_floor_look'_2 t_floor_farSquare'_2 t_sightings_many'_2 t_sightings_weaver'_2 t_sightings_second'_2 t_sightings_knew'_2 t_lexicon_words'_2 t_lexicon_rowLips'_2 t_lexicon_girlKnows'_2 t_lexicon_length'_2 t_lexicon_number'_2 t_lexicon_weight'_2 t_lexicon_leastLike'_2 t_lexicon_row'_2 t_lexicon_lipsOf'_2 (va_cpy p1_level t_level 0 0 6) (va_cpy p1_loss t_loss 0 0 6) p1_clearness p1_isKept p1_floor_pillars p1_floor_weavers p1_floor_place p1_floor_way p1_floor_tell p1_floor_look p1_floor_farSquare p1_sightings_many p1_sightings_weaver p1_sightings_second p1_sightings_knew p1_lexicon_words p1_lexicon_rowLips p1_lexicon_girlKnows p1_lexicon_length p1_lexicon_number p1_lexicon_weight p1_lexicon_leastLike p1_lexicon_row p1_lexicon_lipsOf p1_level p1_loss)) rfl (fun H locs hW => ?_)
  have hq := Option.some.inj hF
  subst hq
  exact hret _ _ _ _ hW dX7_copyFrom_71
abbrev wd_Shed_beginAnew (E : m_E) (a_t : Nat) (a_t_level : Nat) (a_t_loss : Nat) (a_t_floor : Nat) (a_t_floor_place : Nat) (a_t_floor_way : Nat) (a_t_floor_tell : Nat) (a_t_floor_look : Nat) (a_t_floor_farSquare : Nat) (a_t_sightings : Nat) (a_t_sightings_weaver : Nat) (a_t_sightings_second : Nat) (a_t_sightings_knew : Nat) (a_t_lexicon : Nat) (a_t_lexicon_length : Nat) (a_t_lexicon_number : Nat) (a_t_lexicon_weight : Nat) (a_t_lexicon_row : Nat) (a_t_lexicon_lipsOf : Nat) (a_t_lexicon_others : Nat) (a_t_lexicon_leastLike : Nat) (t_clearness : Int32) (t_isKept : Int32) (t_floor_pillars : Int64) (t_floor_weavers : Int32) (t_floor_farSquare : Nat → Int32) (t_sightings_many : Int32) (t_lexicon_words : Int32) (t_lexicon_rowLips : Int32) (t_lexicon_girlKnows : Int32) (t_lexicon_leastLike : Nat → Int32) : va_W := [(a_t, .inr (7, [.ref a_t_floor, .ref a_t_sightings, .ref a_t_lexicon, .ref a_t_level, .ref a_t_loss, .int t_clearness, .int t_isKept])), (a_t_floor, .inr (1, [.long t_floor_pillars, .int t_floor_weavers, .ref a_t_floor_place, .ref a_t_floor_way, .ref a_t_floor_tell, .ref a_t_floor_look, .ref a_t_floor_farSquare])), (a_t_floor_farSquare, .inl (E.2.1 0, 2, .inl t_floor_farSquare)), (a_t_sightings, .inr (8, [.int t_sightings_many, .ref a_t_sightings_weaver, .ref a_t_sightings_second, .ref a_t_sightings_knew])), (a_t_lexicon, .inr (3, [.int t_lexicon_words, .ref a_t_lexicon_length, .ref a_t_lexicon_number, .ref a_t_lexicon_weight, .ref a_t_lexicon_leastLike, .ref a_t_lexicon_row, .int t_lexicon_rowLips, .int t_lexicon_girlKnows, .ref a_t_lexicon_lipsOf, .ref a_t_lexicon_others])), (a_t_lexicon_leastLike, .inl (E.2.1 0, 6, .inl t_lexicon_leastLike))]
def rm_Shed_beginAnew : Room := { frames := 1, cells := 0, slots := 0, locals := 21 }
set_option maxHeartbeats 4000000 in
set_option maxRecDepth 100000 in
theorem c_Shed_beginAnew (l : Launch) (E : m_E) (sz N : Nat) (a_t : Nat) (a_t_level : Nat) (a_t_loss : Nat) (a_t_floor : Nat) (a_t_floor_place : Nat) (a_t_floor_way : Nat) (a_t_floor_tell : Nat) (a_t_floor_look : Nat) (a_t_floor_farSquare : Nat) (a_t_sightings : Nat) (a_t_sightings_weaver : Nat) (a_t_sightings_second : Nat) (a_t_sightings_knew : Nat) (a_t_lexicon : Nat) (a_t_lexicon_length : Nat) (a_t_lexicon_number : Nat) (a_t_lexicon_weight : Nat) (a_t_lexicon_row : Nat) (a_t_lexicon_lipsOf : Nat) (a_t_lexicon_others : Nat) (a_t_lexicon_leastLike : Nat) (t_clearness : Int32) (t_isKept : Int32) (t_floor_pillars : Int64) (t_floor_weavers : Int32) (t_floor_farSquare : Nat → Int32) (t_sightings_many : Int32) (t_lexicon_words : Int32) (t_lexicon_rowLips : Int32) (t_lexicon_girlKnows : Int32) (t_lexicon_leastLike : Nat → Int32)  (ures : Int64 × Int32 × (Nat → Int32) × Int32 × Int32 × Int32 × Int32 × (Nat → Int32)) (hF : F_Shed_beginAnew N t_floor_farSquare t_lexicon_leastLike = some ures) : m_Met l yX7_beginAnew cX7_beginAnew 1 none rm_Shed_beginAnew E (wd_Shed_beginAnew E a_t a_t_level a_t_loss a_t_floor a_t_floor_place a_t_floor_way a_t_floor_tell a_t_floor_look a_t_floor_farSquare a_t_sightings a_t_sightings_weaver a_t_sightings_second a_t_sightings_knew a_t_lexicon a_t_lexicon_length a_t_lexicon_number a_t_lexicon_weight a_t_lexicon_row a_t_lexicon_lipsOf a_t_lexicon_others a_t_lexicon_leastLike t_clearness t_isKept t_floor_pillars t_floor_weavers t_floor_farSquare t_sightings_many t_lexicon_words t_lexicon_rowLips t_lexicon_girlKnows t_lexicon_leastLike) (wd_Shed_beginAnew E a_t a_t_level a_t_loss a_t_floor a_t_floor_place a_t_floor_way a_t_floor_tell a_t_floor_look a_t_floor_farSquare a_t_sightings a_t_sightings_weaver a_t_sightings_second a_t_sightings_knew a_t_lexicon a_t_lexicon_length a_t_lexicon_number a_t_lexicon_weight a_t_lexicon_row a_t_lexicon_lipsOf a_t_lexicon_others a_t_lexicon_leastLike t_clearness t_isKept ures.1 ures.2.1 ures.2.2.1 ures.2.2.2.1 ures.2.2.2.2.1 ures.2.2.2.2.2.1 ures.2.2.2.2.2.2.1 ures.2.2.2.2.2.2.2) sz [.ref a_t] none := by
  refine m_ofV (by decide) (Nat.le_of_ble_eq_true rfl) ?_
  intro p e s m args below meth c A Q ls X hW hA hl hret
  obtain ⟨hx, hb, -, hown, hts, hK, -, hG⟩ := id X
  have hl : lv_has ls 1 [(0, .ref a_t)] := hl
  unfold F_Shed_beginAnew at hF
  refine lv_aload_n hx hb dX7_beginAnew_0 rfl (lv_at hl 0 rfl) ?_
  refine m_get X hW fdX7_10 0 rfl rfl dX7_beginAnew_1 ?_
  obtain ⟨t_floor_pillars'_2, t_floor_weavers'_2, t_floor_farSquare'_2, hC1, hF⟩ := bO_s3 hF
  refine m_callV X hW hA hl.1 lkX7_57 (c_Floor_makeEmpty l E _ N a_t_floor a_t_floor_place a_t_floor_way a_t_floor_tell a_t_floor_look a_t_floor_farSquare t_floor_pillars t_floor_weavers t_floor_farSquare  (t_floor_pillars'_2, t_floor_weavers'_2, t_floor_farSquare'_2) hC1) [1, 2] (by decide) rfl rfl (ws' := (wd_Shed_beginAnew E a_t a_t_level a_t_loss a_t_floor a_t_floor_place a_t_floor_way a_t_floor_tell a_t_floor_look a_t_floor_farSquare a_t_sightings a_t_sightings_weaver a_t_sightings_second a_t_sightings_knew a_t_lexicon a_t_lexicon_length a_t_lexicon_number a_t_lexicon_weight a_t_lexicon_row a_t_lexicon_lipsOf a_t_lexicon_others a_t_lexicon_leastLike t_clearness t_isKept t_floor_pillars'_2 t_floor_weavers'_2 t_floor_farSquare'_2 t_sightings_many t_lexicon_words t_lexicon_rowLips t_lexicon_girlKnows t_lexicon_leastLike)) rfl 1 rfl rfl rfl (As := []) (rest := []) rfl rfl ⟨rfl, rfl, Nat.le_of_ble_eq_true rfl, Nat.le_of_ble_eq_true rfl⟩ (Nat.le_of_ble_eq_true rfl) (Nat.zero_le _) (Nat.zero_le _) dX7_beginAnew_4 (fun H locs hW => ?_)
  clear hC1
  refine lv_aload_n hx hb dX7_beginAnew_7 rfl (lv_at hl 0 rfl) ?_
  refine m_get X hW fdX7_19 0 rfl rfl dX7_beginAnew_8 ?_
  refine lv_iconst (v := (0 : Int32)) hx hb dX7_beginAnew_11 (by decide) ?_
  refine m_putf X hW fdX7_60 3 rfl (Nat.le_of_ble_eq_true rfl) rfl rfl dX7_beginAnew_12 (ws' := (wd_Shed_beginAnew E a_t a_t_level a_t_loss a_t_floor a_t_floor_place a_t_floor_way a_t_floor_tell a_t_floor_look a_t_floor_farSquare a_t_sightings a_t_sightings_weaver a_t_sightings_second a_t_sightings_knew a_t_lexicon a_t_lexicon_length a_t_lexicon_number a_t_lexicon_weight a_t_lexicon_row a_t_lexicon_lipsOf a_t_lexicon_others a_t_lexicon_leastLike t_clearness t_isKept t_floor_pillars'_2 t_floor_weavers'_2 t_floor_farSquare'_2 (0 : Int32) t_lexicon_words t_lexicon_rowLips t_lexicon_girlKnows t_lexicon_leastLike)) rfl (fun H locs hW => ?_)
  refine lv_aload_n hx hb dX7_beginAnew_15 rfl (lv_at hl 0 rfl) ?_
  refine m_get X hW fdX7_26 0 rfl rfl dX7_beginAnew_16 ?_
  obtain ⟨t_lexicon_words'_2, t_lexicon_rowLips'_2, t_lexicon_girlKnows'_2, t_lexicon_leastLike'_2, hC2, hF⟩ := bO_s4 hF
  refine m_callV X hW hA hl.1 lkX7_63 (c_Lexicon_makeEmpty l E _ N a_t_lexicon a_t_lexicon_length a_t_lexicon_number a_t_lexicon_weight a_t_lexicon_row a_t_lexicon_lipsOf a_t_lexicon_others a_t_lexicon_leastLike t_lexicon_words t_lexicon_rowLips t_lexicon_girlKnows t_lexicon_leastLike  (t_lexicon_words'_2, t_lexicon_rowLips'_2, t_lexicon_girlKnows'_2, t_lexicon_leastLike'_2) hC2) [4, 5] (by decide) rfl rfl (ws' := (wd_Shed_beginAnew E a_t a_t_level a_t_loss a_t_floor a_t_floor_place a_t_floor_way a_t_floor_tell a_t_floor_look a_t_floor_farSquare a_t_sightings a_t_sightings_weaver a_t_sightings_second a_t_sightings_knew a_t_lexicon a_t_lexicon_length a_t_lexicon_number a_t_lexicon_weight a_t_lexicon_row a_t_lexicon_lipsOf a_t_lexicon_others a_t_lexicon_leastLike t_clearness t_isKept t_floor_pillars'_2 t_floor_weavers'_2 t_floor_farSquare'_2 (0 : Int32) t_lexicon_words'_2 t_lexicon_rowLips'_2 t_lexicon_girlKnows'_2 t_lexicon_leastLike'_2)) rfl 4 rfl rfl rfl (As := []) (rest := []) rfl rfl ⟨rfl, rfl, Nat.le_of_ble_eq_true rfl, Nat.le_of_ble_eq_true rfl⟩ (Nat.le_of_ble_eq_true rfl) (Nat.zero_le _) (Nat.zero_le _) dX7_beginAnew_19 (fun H locs hW => ?_)
  clear hC2
  have hq := Option.some.inj hF
  subst hq
  exact hret _ _ _ _ hW dX7_beginAnew_22
abbrev wd_Text_tellWord (E : m_E) (a_p1 : Nat) (a_p3 : Nat) (a_p3_leastLike : Nat) (a_p3_row : Nat) (a_p3_others : Nat) (a_p3_length : Nat) (a_p3_number : Nat) (a_p3_weight : Nat) (a_p3_lipsOf : Nat) (p1_len : Nat) (p1 : Nat → Int32) (p3_words : Int32) (p3_rowLips : Int32) (p3_girlKnows : Int32) (p3_length : Nat → Int32) (p3_number : Nat → Int32) (p3_weight : Nat → Int32) (p3_lipsOf : Nat → Int32) : va_W := [(a_p1, .inl (E.2.1 0, p1_len, .inl p1)), (a_p3, .inr (3, [.int p3_words, .ref a_p3_length, .ref a_p3_number, .ref a_p3_weight, .ref a_p3_leastLike, .ref a_p3_row, .int p3_rowLips, .int p3_girlKnows, .ref a_p3_lipsOf, .ref a_p3_others])), (a_p3_length, .inl (E.2.1 0, 10, .inl p3_length)), (a_p3_number, .inl (E.2.1 0, 10, .inl p3_number)), (a_p3_weight, .inl (E.2.1 0, 10, .inl p3_weight)), (a_p3_lipsOf, .inl (E.2.1 0, 60, .inl p3_lipsOf))]
def rm_Text_tellWord : Room := { frames := 2, cells := 0, slots := 0, locals := 47 }
set_option maxHeartbeats 4000000 in
set_option maxRecDepth 100000 in
theorem c_Text_tellWord (l : Launch) (E : m_E) (sz N : Nat) (a_p1 : Nat) (a_p3 : Nat) (a_p3_leastLike : Nat) (a_p3_row : Nat) (a_p3_others : Nat) (a_p3_length : Nat) (a_p3_number : Nat) (a_p3_weight : Nat) (a_p3_lipsOf : Nat) (p1_len : Nat) (p1 : Nat → Int32) (p3_words : Int32) (p3_rowLips : Int32) (p3_girlKnows : Int32) (p3_length : Nat → Int32) (p3_number : Nat → Int32) (p3_weight : Nat → Int32) (p3_lipsOf : Nat → Int32) (p2 : Int32) (ures : Int32 × Int32 × (Nat → Int32) × (Nat → Int32) × (Nat → Int32) × (Nat → Int32)) (hF : F_Text_tellWord N p2 p1 p1_len p3_words p3_length p3_number p3_weight p3_lipsOf = some ures) : m_Met l yX9_tellWord cX9_tellWord 5 (some .int) rm_Text_tellWord E (wd_Text_tellWord E a_p1 a_p3 a_p3_leastLike a_p3_row a_p3_others a_p3_length a_p3_number a_p3_weight a_p3_lipsOf p1_len p1 p3_words p3_rowLips p3_girlKnows p3_length p3_number p3_weight p3_lipsOf) (wd_Text_tellWord E a_p1 a_p3 a_p3_leastLike a_p3_row a_p3_others a_p3_length a_p3_number a_p3_weight a_p3_lipsOf p1_len p1 ures.2.1 p3_rowLips p3_girlKnows ures.2.2.1 ures.2.2.2.1 ures.2.2.2.2.1 ures.2.2.2.2.2) sz [.ref a_p1, .int p2, .ref a_p3] (some (.int ures.1)) := by
  refine m_ofI (by decide) (Nat.le_of_ble_eq_true rfl) ?_
  intro p e s m args below meth c A Q ls X hW hA hl hret
  obtain ⟨hx, hb, -, hown, hts, hK, -, hG⟩ := id X
  have hl : lv_has ls 5 [(0, .ref a_p1), (1, .int p2), (2, .ref a_p3)] := hl
  unfold F_Text_tellWord at hF
  refine lv_iconst (v := (0 : Int32)) hx hb dX9_tellWord_0 (by decide) ?_
  refine lv_istore_n (lv' := [(3, .int (0 : Int32)), (0, .ref a_p1), (1, .int p2), (2, .ref a_p3)]) hx hb dX9_tellWord_1 rfl hl (by decide) rfl (fun ls hl => ?_)
  refine lv_iconst (v := (1 : Int32)) hx hb dX9_tellWord_2 (by decide) ?_
  refine lv_istore (lv' := [(4, .int (1 : Int32)), (3, .int (0 : Int32)), (0, .ref a_p1), (1, .int p2), (2, .ref a_p3)]) hx hb dX9_tellWord_3 hl (by decide) rfl (fun ls hl => ?_)
  obtain ⟨out6, hX2, hr5, hF⟩ := bT_s1 hF
  have L1 : ∀ (k0 : Nat) (x3 : Int32) (x4 : Int32) (out8 : (Int32 × Int32 × (Nat → Int32) × (Nat → Int32) × (Nat → Int32) × (Nat → Int32)) ⊕ (Int32))  (H : Heap) (locs : List Loc) (ls : Array Slot), Text_tellWord_L5 p2 p1_len p1 p3_words p3_length p3_number p3_weight p3_lipsOf k0 x3 x4 = some out8 → m_H E A (wd_Text_tellWord E a_p1 a_p3 a_p3_leastLike a_p3_row a_p3_others a_p3_length a_p3_number a_p3_weight a_p3_lipsOf p1_len p1 p3_words p3_rowLips p3_girlKnows p3_length p3_number p3_weight p3_lipsOf) s.heap H locs → lv_has ls 5 [(4, .int x4), (3, .int x3), (0, .ref a_p1), (1, .int p2), (2, .ref a_p3)] → (∀ a, out8 = .inl a → a = ures) → (∀ (x3_2 : Int32) (H : Heap) (locs : List Loc) (ls : Array Slot), out8 = .inr x3_2 → m_H E A (wd_Text_tellWord E a_p1 a_p3 a_p3_leastLike a_p3_row a_p3_others a_p3_length a_p3_number a_p3_weight a_p3_lipsOf p1_len p1 p3_words p3_rowLips p3_girlKnows p3_length p3_number p3_weight p3_lipsOf) s.heap H locs → lv_has ls 5 [(3, .int x3_2), (0, .ref a_p1), (1, .int p2), (2, .ref a_p3)] → W p l e rm_Text_tellWord s m args below meth c H locs 0 0 Q (F0 m 39 ls [])) → W p l e rm_Text_tellWord s m args below meth c H locs 0 0 Q (F0 m 5 ls []) := by
    clear hF
    intro k0
    induction k0 with
    | zero =>
      intro x3 x4 out8 H locs ls hF
      cases hF
    | succ k0 ih4 =>
      intro x3 x4 out8 H locs ls hF hW hl hr7 hk3
      rw [Text_tellWord_L5] at hF
      refine lv_iload hx hb dX9_tellWord_5 (lv_at hl 0 rfl) ?_
      refine lv_iload_n hx hb dX9_tellWord_7 rfl (lv_at hl 3 rfl) ?_
      refine lv_icmp_gt (tgt := 39) hx hb dX9_tellWord_8 (by decide) (fun c9 => ?_) (fun c9 => ?_)
      · have hF := if_y c9 hF
        exact hk3 x3 _ _ _ (Option.some.inj hF).symm hW (lv_sub hl [1, 2, 3, 4] rfl)
      · have hF := if_n c9 hF
        refine lv_aload_n hx hb dX9_tellWord_11 rfl (lv_at hl 2 rfl) ?_
        refine lv_iload hx hb dX9_tellWord_12 (lv_at hl 0 rfl) ?_
        obtain ⟨g10, hF⟩ := gd_some hF
        refine m_iald X hW 0 (k := x4.toNatClampNeg) rfl g10 rfl dX9_tellWord_14 ?_
        refine lv_bipush (v := (6 : Int32)) hx hb dX9_tellWord_15 (by decide) ?_
        refine lv_icmp_lt (tgt := 23) hx hb dX9_tellWord_17 (by decide) (fun c11 => ?_) (fun c11 => ?_)
        · have hF := if_y c11 hF
          refine lv_iload_n hx hb dX9_tellWord_23 rfl (lv_at hl 1 rfl) ?_
          refine lv_bipush (v := (6 : Int32)) hx hb dX9_tellWord_24 (by decide) ?_
          refine lv_imul hx hb dX9_tellWord_26 ?_
          refine lv_aload_n hx hb dX9_tellWord_27 rfl (lv_at hl 2 rfl) ?_
          refine lv_iload hx hb dX9_tellWord_28 (lv_at hl 0 rfl) ?_
          refine m_iald X hW 0 (k := x4.toNatClampNeg) rfl g10 rfl dX9_tellWord_30 ?_
          refine lv_iadd hx hb dX9_tellWord_31 ?_
          refine lv_istore_n (lv' := [(3, .int ((x3 * (6 : Int32)) + (p1 x4.toNatClampNeg))), (4, .int x4), (0, .ref a_p1), (1, .int p2), (2, .ref a_p3)]) hx hb dX9_tellWord_32 rfl hl (by decide) rfl (fun ls hl => ?_)
          refine lv_iinc (v := (x4 + (1 : Int32))) (lv' := [(4, .int (x4 + (1 : Int32))), (3, .int ((x3 * (6 : Int32)) + (p1 x4.toNatClampNeg))), (0, .ref a_p1), (1, .int p2), (2, .ref a_p3)]) hx hb dX9_tellWord_33 hl (k := 1) rfl rfl (by decide) rfl (fun ls hl => ?_)
          refine lv_goto (tgt := 5) hx hb dX9_tellWord_36 (by decide) ?_
          exact ih4 ((x3 * (6 : Int32)) + (p1 x4.toNatClampNeg)) (x4 + (1 : Int32)) out8 _ _ _ hF hW (lv_sub hl [0, 1, 2, 3, 4] rfl) hr7 hk3
        · have hF := if_n c11 hF
          refine lv_bipush (v := (-2 : Int32)) hx hb dX9_tellWord_20 (by decide) ?_
          have hq := (Option.some.inj hF).symm
          have hq := hr7 _ hq
          subst hq
          exact hret _ _ _ _ hW dX9_tellWord_22
  refine L1 N (0 : Int32) (1 : Int32) out6 _ _ _ hX2 hW (lv_sub hl [0, 1, 2, 3, 4] rfl) hr5 ?_
  intro x3_2 H locs ls ho hW hl
  have hF := hF x3_2 ho
  clear L1
  refine lv_aload_n hx hb dX9_tellWord_39 rfl (lv_at hl 3 rfl) ?_
  refine lv_iload_n hx hb dX9_tellWord_40 rfl (lv_at hl 2 rfl) ?_
  refine lv_iload_n hx hb dX9_tellWord_41 rfl (lv_at hl 0 rfl) ?_
  refine lv_aload_n hx hb dX9_tellWord_42 rfl (lv_at hl 1 rfl) ?_
  refine lv_iconst (v := (0 : Int32)) hx hb dX9_tellWord_43 (by decide) ?_
  obtain ⟨g12, hF⟩ := gd_some hF
  refine m_iald X hW 0 (k := 0) rfl g12 rfl dX9_tellWord_44 ?_
  obtain ⟨r45, p3_words'_2, p3_length'_2, p3_number'_2, p3_weight'_2, p3_lipsOf'_2, hC13, hF⟩ := bO_s6 hF
  refine m_callV X hW hA hl.1 lkX9_149 (c_Lexicon_addWord l E _ N a_p3 a_p3_leastLike a_p3_row a_p3_others a_p3_length a_p3_number a_p3_weight a_p3_lipsOf p3_words p3_rowLips p3_girlKnows p3_length p3_number p3_weight p3_lipsOf p2 x3_2 (p1 0) (r45, p3_words'_2, p3_length'_2, p3_number'_2, p3_weight'_2, p3_lipsOf'_2) hC13) [1, 2, 3, 4, 5] (by decide) rfl rfl (ws' := (wd_Text_tellWord E a_p1 a_p3 a_p3_leastLike a_p3_row a_p3_others a_p3_length a_p3_number a_p3_weight a_p3_lipsOf p1_len p1 p3_words'_2 p3_rowLips p3_girlKnows p3_length'_2 p3_number'_2 p3_weight'_2 p3_lipsOf'_2)) rfl 1 rfl rfl rfl (As := [.int p2, .int x3_2, .int (p1 0)]) (rest := []) rfl rfl ⟨rfl, rfl, Nat.le_of_ble_eq_true rfl, Nat.le_of_ble_eq_true rfl⟩ (Nat.le_of_ble_eq_true rfl) (Nat.zero_le _) (Nat.zero_le _) dX9_tellWord_45 (fun H locs hW => ?_)
  clear hC13
  have hq := Option.some.inj hF
  subst hq
  exact hret _ _ _ _ hW dX9_tellWord_48
