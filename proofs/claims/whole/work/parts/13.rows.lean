abbrev wd_S_plain (E : m_E) (a_t : Nat) (a_t_draft : Nat) (a_t_firstImage : Nat) (a_t_secondImage : Nat) (a_t_news : Nat) (a_t_otherNews : Nat) (a_t_readings : Nat) (a_t_chances : Nat) (a_t_turning : Nat) (a_t_text : Nat) (a_t_fraction : Nat) (a_t_now : Nat) (a_t_now_floor : Nat) (a_t_now_sightings : Nat) (a_t_now_lexicon : Nat) (a_t_now_level : Nat) (a_t_now_loss : Nat) (t_now_clearness : Int32) (t_now_isKept : Int32) : va_W := [(a_t, .inr (11, [.ref a_t_now, .ref a_t_draft, .ref a_t_firstImage, .ref a_t_secondImage, .ref a_t_news, .ref a_t_otherNews, .ref a_t_readings, .ref a_t_chances, .ref a_t_turning, .ref a_t_text, .ref a_t_fraction])), (a_t_now, .inr (7, [.ref a_t_now_floor, .ref a_t_now_sightings, .ref a_t_now_lexicon, .ref a_t_now_level, .ref a_t_now_loss, .int t_now_clearness, .int t_now_isKept]))]
def rm_S_plain : Room := { frames := 1, cells := 0, slots := 0, locals := 22 }
set_option maxHeartbeats 4000000 in
set_option maxRecDepth 100000 in
theorem c_S_plain (l : Launch) (E : m_E) (sz N : Nat) (a_t : Nat) (a_t_draft : Nat) (a_t_firstImage : Nat) (a_t_secondImage : Nat) (a_t_news : Nat) (a_t_otherNews : Nat) (a_t_readings : Nat) (a_t_chances : Nat) (a_t_turning : Nat) (a_t_text : Nat) (a_t_fraction : Nat) (a_t_now : Nat) (a_t_now_floor : Nat) (a_t_now_sightings : Nat) (a_t_now_lexicon : Nat) (a_t_now_level : Nat) (a_t_now_loss : Nat) (t_now_clearness : Int32) (t_now_isKept : Int32) (p1 : Int32) (ures : Int32 × Int32) (hF : F_S_plain p1 t_now_clearness = some ures) : m_Met l yX11_plain cX11_plain 3 (some .int) rm_S_plain E (wd_S_plain E a_t a_t_draft a_t_firstImage a_t_secondImage a_t_news a_t_otherNews a_t_readings a_t_chances a_t_turning a_t_text a_t_fraction a_t_now a_t_now_floor a_t_now_sightings a_t_now_lexicon a_t_now_level a_t_now_loss t_now_clearness t_now_isKept) (wd_S_plain E a_t a_t_draft a_t_firstImage a_t_secondImage a_t_news a_t_otherNews a_t_readings a_t_chances a_t_turning a_t_text a_t_fraction a_t_now a_t_now_floor a_t_now_sightings a_t_now_lexicon a_t_now_level a_t_now_loss ures.2 t_now_isKept) sz [.ref a_t, .int p1] (some (.int ures.1)) := by
  refine m_ofI (by decide) (Nat.le_of_ble_eq_true rfl) ?_
  intro p e s m args below meth c A Q ls X hW hA hl hret
  obtain ⟨hx, hb, -, hown, hts, hK, -, hG⟩ := id X
  have hl : lv_has ls 3 [(0, .ref a_t), (1, .int p1)] := hl
  unfold F_S_plain at hF
  refine lv_iload_n hx hb dX11_plain_0 rfl (lv_at hl 1 rfl) ?_
  refine lv_iconst (v := (1 : Int32)) hx hb dX11_plain_1 (by decide) ?_
  refine lv_bipush (v := (99 : Int32)) hx hb dX11_plain_2 (by decide) ?_
  refine m_callS X hW hA hl.1 lkX11_98 (c_S_within l E _ N   p1 (1 : Int32) (99 : Int32) (F_S_within p1 (1 : Int32) (99 : Int32)) rfl) ([]) (by decide) rfl rfl (ws' := (wd_S_plain E a_t a_t_draft a_t_firstImage a_t_secondImage a_t_news a_t_otherNews a_t_readings a_t_chances a_t_turning a_t_text a_t_fraction a_t_now a_t_now_floor a_t_now_sightings a_t_now_lexicon a_t_now_level a_t_now_loss t_now_clearness t_now_isKept)) rfl (As := [.int p1, .int (1 : Int32), .int (99 : Int32)]) (rest := []) rfl rfl ⟨rfl, rfl, Nat.le_of_ble_eq_true rfl, Nat.le_of_ble_eq_true rfl⟩ (Nat.le_of_ble_eq_true rfl) (Nat.zero_le _) (Nat.zero_le _) dX11_plain_4 (fun H locs hW => ?_)
  refine lv_if_ne (tgt := 13) hx hb dX11_plain_7 (by decide) (fun c1 => ?_) (fun c1 => ?_)
  · have hF := if_n c1 hF
    refine lv_aload_n hx hb dX11_plain_13 rfl (lv_at hl 0 rfl) ?_
    refine m_get X hW fdX11_10 0 rfl rfl dX11_plain_14 ?_
    refine m_get X hW fdX11_208 1 rfl rfl dX11_plain_17 ?_
    refine lv_istore_n (lv' := [(2, .int t_now_clearness), (0, .ref a_t), (1, .int p1)]) hx hb dX11_plain_20 rfl hl (by decide) rfl (fun ls hl => ?_)
    refine lv_aload_n hx hb dX11_plain_21 rfl (lv_at hl 1 rfl) ?_
    refine m_get X hW fdX11_10 0 rfl rfl dX11_plain_22 ?_
    refine lv_iload_n hx hb dX11_plain_25 rfl (lv_at hl 2 rfl) ?_
    refine m_putf X hW fdX11_208 1 rfl (Nat.le_of_ble_eq_true rfl) rfl rfl dX11_plain_26 (ws' := (wd_S_plain E a_t a_t_draft a_t_firstImage a_t_secondImage a_t_news a_t_otherNews a_t_readings a_t_chances a_t_turning a_t_text a_t_fraction a_t_now a_t_now_floor a_t_now_sightings a_t_now_lexicon a_t_now_level a_t_now_loss p1 t_now_isKept)) rfl (fun H locs hW => ?_)
    refine lv_iload_n hx hb dX11_plain_29 rfl (lv_at hl 0 rfl) ?_
    have hq := Option.some.inj hF
    subst hq
    exact hret _ _ _ _ hW dX11_plain_30
  · have hF := if_y c1 hF
    refine lv_bipush (v := (-2 : Int32)) hx hb dX11_plain_10 (by decide) ?_
    have hq := Option.some.inj hF
    subst hq
    exact hret _ _ _ _ hW dX11_plain_12
abbrev wd_S_commonDivisor (E : m_E)   : va_W := []
def rm_S_commonDivisor : Room := { frames := 0, cells := 0, slots := 0, locals := 0 }
set_option maxHeartbeats 4000000 in
set_option maxRecDepth 100000 in
theorem c_S_commonDivisor (l : Launch) (E : m_E) (sz N : Nat)   (p1 : Int32) (p2 : Int32) (ures : Int32) (hF : F_S_commonDivisor N p1 p2 = some ures) : m_Met l yX11_commonDivisor cX11_commonDivisor 6 (some .int) rm_S_commonDivisor E (wd_S_commonDivisor E) (wd_S_commonDivisor E) sz [.int p1, .int p2] (some (.int ures)) := by
  refine m_ofI (by decide) (Nat.le_of_ble_eq_true rfl) ?_
  intro p e s m args below meth c A Q ls X hW hA hl hret
  obtain ⟨hx, hb, -, hown, hts, hK, -, hG⟩ := id X
  have hl : lv_has ls 6 [(0, .int p1), (1, .int p2)] := hl
  unfold F_S_commonDivisor at hF
  refine lv_iload_n hx hb dX11_commonDivisor_0 rfl (lv_at hl 0 rfl) ?_
  refine lv_istore_n (lv' := [(2, .int p1), (0, .int p1), (1, .int p2)]) hx hb dX11_commonDivisor_1 rfl hl (by decide) rfl (fun ls hl => ?_)
  refine lv_iload_n hx hb dX11_commonDivisor_2 rfl (lv_at hl 2 rfl) ?_
  refine lv_istore_n (lv' := [(3, .int p2), (2, .int p1), (0, .int p1), (1, .int p2)]) hx hb dX11_commonDivisor_3 rfl hl (by decide) rfl (fun ls hl => ?_)
  refine lv_iconst (v := (0 : Int32)) hx hb dX11_commonDivisor_4 (by decide) ?_
  refine lv_istore (lv' := [(4, .int (0 : Int32)), (3, .int p2), (2, .int p1), (0, .int p1), (1, .int p2)]) hx hb dX11_commonDivisor_5 hl (by decide) rfl (fun ls hl => ?_)
  obtain ⟨x2_2, hX2, hF⟩ := bO_s1 hF
  have L1 : ∀ (k0 : Nat) (x2 : Int32) (x3 : Int32) (x4 : Int32) (x2_2 : Int32) (H : Heap) (locs : List Loc) (ls : Array Slot), S_commonDivisor_L7  k0 x2 x3 x4 = some x2_2 → m_H E A (wd_S_commonDivisor E) s.heap H locs → lv_has ls 6 [(4, .int x4), (3, .int x3), (2, .int x2)] → (∀ (H : Heap) (locs : List Loc) (ls : Array Slot), m_H E A (wd_S_commonDivisor E) s.heap H locs → lv_has ls 6 [(2, .int x2_2)] → W p l e rm_S_commonDivisor s m args below meth c H locs 0 0 Q (F0 m 34 ls [])) → W p l e rm_S_commonDivisor s m args below meth c H locs 0 0 Q (F0 m 7 ls []) := by
    clear hF
    intro k0
    induction k0 with
    | zero =>
      intro x2 x3 x4 x2_2 H locs ls hF
      cases hF
    | succ k0 ih4 =>
      intro x2 x3 x4 x2_2 H locs ls hF hW hl hk3
      rw [S_commonDivisor_L7] at hF
      refine lv_iload hx hb dX11_commonDivisor_7 (lv_at hl 0 rfl) ?_
      refine lv_bipush (v := (100 : Int32)) hx hb dX11_commonDivisor_9 (by decide) ?_
      refine lv_icmp_ge (tgt := 34) hx hb dX11_commonDivisor_11 (by decide) (fun c5 => ?_) (fun c5 => ?_)
      · have hF := if_y c5 hF
        cases hF
        exact hk3 _ _ _ hW (lv_sub hl [2] rfl)
      · have hF := if_n c5 hF
        refine lv_iload_n hx hb dX11_commonDivisor_14 rfl (lv_at hl 1 rfl) ?_
        refine lv_if_le (tgt := 34) hx hb dX11_commonDivisor_15 (by decide) (fun c6 => ?_) (fun c6 => ?_)
        · have hF := if_y c6 hF
          cases hF
          exact hk3 _ _ _ hW (lv_sub hl [2] rfl)
        · have hF := if_n c6 hF
          refine lv_iload_n hx hb dX11_commonDivisor_18 rfl (lv_at hl 2 rfl) ?_
          refine lv_iload_n hx hb dX11_commonDivisor_19 rfl (lv_at hl 1 rfl) ?_
          obtain ⟨g7, hF⟩ := gd_some hF
          refine m_irem hx hb dX11_commonDivisor_20 (nz_ne g7) ?_
          refine lv_istore (lv' := [(5, .int (jrem x2 x3)), (4, .int x4), (3, .int x3), (2, .int x2)]) hx hb dX11_commonDivisor_21 hl (by decide) rfl (fun ls hl => ?_)
          refine lv_iload_n hx hb dX11_commonDivisor_23 rfl (lv_at hl 2 rfl) ?_
          refine lv_istore_n (lv' := [(2, .int x3), (5, .int (jrem x2 x3)), (4, .int x4), (3, .int x3)]) hx hb dX11_commonDivisor_24 rfl hl (by decide) rfl (fun ls hl => ?_)
          refine lv_iload hx hb dX11_commonDivisor_25 (lv_at hl 1 rfl) ?_
          refine lv_istore_n (lv' := [(3, .int (jrem x2 x3)), (2, .int x3), (5, .int (jrem x2 x3)), (4, .int x4)]) hx hb dX11_commonDivisor_27 rfl hl (by decide) rfl (fun ls hl => ?_)
          refine lv_iinc (v := (x4 + (1 : Int32))) (lv' := [(4, .int (x4 + (1 : Int32))), (3, .int (jrem x2 x3)), (2, .int x3), (5, .int (jrem x2 x3))]) hx hb dX11_commonDivisor_28 hl (k := 3) rfl rfl (by decide) rfl (fun ls hl => ?_)
          refine lv_goto (tgt := 7) hx hb dX11_commonDivisor_31 (by decide) ?_
          exact ih4 x3 (jrem x2 x3) (x4 + (1 : Int32)) x2_2 _ _ _ hF hW (lv_sub hl [0, 1, 2] rfl) hk3
  refine L1 N p1 p2 (0 : Int32) x2_2 _ _ _ hX2 hW (lv_sub hl [0, 1, 2] rfl) ?_
  intro H locs ls hW hl
  clear L1
  refine lv_iload_n hx hb dX11_commonDivisor_34 rfl (lv_at hl 0 rfl) ?_
  have hq := Option.some.inj hF
  subst hq
  exact hret _ _ _ _ hW dX11_commonDivisor_35
abbrev wd_Chances_findParts (E : m_E) (a_t : Nat) (a_t_heardAs : Nat) (a_t_chance : Nat) (a_t_before : Nat) (a_t_below : Nat) (a_t_scaled : Nat) (a_t_scaledBelow : Nat) (a_t_total : Nat) (a_t_part : Nat) (t_words : Int32) (t_total : Nat → Int32) (t_part : Nat → Int32) : va_W := [(a_t, .inr (0, [.ref a_t_heardAs, .ref a_t_total, .ref a_t_part, .ref a_t_chance, .ref a_t_before, .ref a_t_below, .ref a_t_scaled, .ref a_t_scaledBelow, .int t_words])), (a_t_total, .inl (E.2.1 0, 10, .inl t_total)), (a_t_part, .inl (E.2.1 0, 10, .inl t_part))]
def rm_Chances_findParts : Room := { frames := 1, cells := 0, slots := 0, locals := 25 }
set_option maxHeartbeats 4000000 in
set_option maxRecDepth 100000 in
theorem c_Chances_findParts (l : Launch) (E : m_E) (sz N : Nat) (a_t : Nat) (a_t_heardAs : Nat) (a_t_chance : Nat) (a_t_before : Nat) (a_t_below : Nat) (a_t_scaled : Nat) (a_t_scaledBelow : Nat) (a_t_total : Nat) (a_t_part : Nat) (t_words : Int32) (t_total : Nat → Int32) (t_part : Nat → Int32)  (ures : (Nat → Int32)) (hF : F_Chances_findParts N t_words t_total t_part = some ures) : m_Met l yX0_findParts cX0_findParts 4 none rm_Chances_findParts E (wd_Chances_findParts E a_t a_t_heardAs a_t_chance a_t_before a_t_below a_t_scaled a_t_scaledBelow a_t_total a_t_part t_words t_total t_part) (wd_Chances_findParts E a_t a_t_heardAs a_t_chance a_t_before a_t_below a_t_scaled a_t_scaledBelow a_t_total a_t_part t_words t_total ures) sz [.ref a_t] none := by
  refine m_ofV (by decide) (Nat.le_of_ble_eq_true rfl) ?_
  intro p e s m args below meth c A Q ls X hW hA hl hret
  obtain ⟨hx, hb, -, hown, hts, hK, -, hG⟩ := id X
  have hl : lv_has ls 4 [(0, .ref a_t)] := hl
  unfold F_Chances_findParts at hF
  refine lv_iconst (v := (0 : Int32)) hx hb dX0_findParts_0 (by decide) ?_
  refine lv_istore_n (lv' := [(1, .int (0 : Int32)), (0, .ref a_t)]) hx hb dX0_findParts_1 rfl hl (by decide) rfl (fun ls hl => ?_)
  obtain ⟨t_part'_8, hX2, hF⟩ := bO_s1 hF
  have L1 : ∀ (k0 : Nat) (x1 : Int32) (t_part'_5 : Nat → Int32) (t_part'_8 : Nat → Int32) (H : Heap) (locs : List Loc) (ls : Array Slot), Chances_findParts_L2 N t_words t_total k0 x1 t_part'_5 = some t_part'_8 → m_H E A (wd_Chances_findParts E a_t a_t_heardAs a_t_chance a_t_before a_t_below a_t_scaled a_t_scaledBelow a_t_total a_t_part t_words t_total t_part'_5) s.heap H locs → lv_has ls 4 [(1, .int x1), (0, .ref a_t)] → (∀ (H : Heap) (locs : List Loc) (ls : Array Slot), m_H E A (wd_Chances_findParts E a_t a_t_heardAs a_t_chance a_t_before a_t_below a_t_scaled a_t_scaledBelow a_t_total a_t_part t_words t_total t_part'_8) s.heap H locs → lv_has ls 4 [] → W p l e rm_Chances_findParts s m args below meth c H locs 0 0 Q (F0 m 72 ls [])) → W p l e rm_Chances_findParts s m args below meth c H locs 0 0 Q (F0 m 2 ls []) := by
    clear hF
    intro k0
    induction k0 with
    | zero =>
      intro x1 t_part'_5 t_part'_8 H locs ls hF
      cases hF
    | succ k0 ih4 =>
      intro x1 t_part'_5 t_part'_8 H locs ls hF hW hl hk3
      rw [Chances_findParts_L2] at hF
      refine lv_iload_n hx hb dX0_findParts_2 rfl (lv_at hl 0 rfl) ?_
      refine lv_aload_n hx hb dX0_findParts_3 rfl (lv_at hl 1 rfl) ?_
      refine m_get X hW fdX0_47 0 rfl rfl dX0_findParts_4 ?_
      refine lv_icmp_ge (tgt := 72) hx hb dX0_findParts_7 (by decide) (fun c5 => ?_) (fun c5 => ?_)
      · have hF := if_y c5 hF
        cases hF
        exact hk3 _ _ _ hW (lv_sub hl [] rfl)
      · have hF := if_n c5 hF
        refine lv_aload_n hx hb dX0_findParts_10 rfl (lv_at hl 1 rfl) ?_
        refine m_get X hW fdX0_20 0 rfl rfl dX0_findParts_11 ?_
        refine lv_iload_n hx hb dX0_findParts_14 rfl (lv_at hl 0 rfl) ?_
        refine lv_aload_n hx hb dX0_findParts_15 rfl (lv_at hl 1 rfl) ?_
        refine m_get X hW fdX0_16 0 rfl rfl dX0_findParts_16 ?_
        refine lv_iload_n hx hb dX0_findParts_19 rfl (lv_at hl 0 rfl) ?_
        obtain ⟨g6, hF⟩ := gd_some hF
        refine m_iald X hW 1 (k := x1.toNatClampNeg) rfl g6 rfl dX0_findParts_20 ?_
        refine m_iast X hW 2 (k := x1.toNatClampNeg) rfl g6 rfl dX0_findParts_21 (ws' := (wd_Chances_findParts E a_t a_t_heardAs a_t_chance a_t_before a_t_below a_t_scaled a_t_scaledBelow a_t_total a_t_part t_words t_total (upd t_part'_5 x1.toNatClampNeg (t_total x1.toNatClampNeg)))) rfl (fun H locs hW => ?_)
        refine lv_iconst (v := (0 : Int32)) hx hb dX0_findParts_22 (by decide) ?_
        refine lv_istore_n (lv' := [(2, .int (0 : Int32)), (1, .int x1), (0, .ref a_t)]) hx hb dX0_findParts_23 rfl hl (by decide) rfl (fun ls hl => ?_)
        obtain ⟨t_part'_7, hX8, hF⟩ := bO_s1 hF
        have L7 : ∀ (k0 : Nat) (x2 : Int32) (t_part'_6 : Nat → Int32) (t_part'_7 : Nat → Int32) (H : Heap) (locs : List Loc) (ls : Array Slot), Chances_findParts_L24 N x1 k0 x2 t_part'_6 = some t_part'_7 → m_H E A (wd_Chances_findParts E a_t a_t_heardAs a_t_chance a_t_before a_t_below a_t_scaled a_t_scaledBelow a_t_total a_t_part t_words t_total t_part'_6) s.heap H locs → lv_has ls 4 [(2, .int x2), (1, .int x1), (0, .ref a_t)] → (∀ (H : Heap) (locs : List Loc) (ls : Array Slot), m_H E A (wd_Chances_findParts E a_t a_t_heardAs a_t_chance a_t_before a_t_below a_t_scaled a_t_scaledBelow a_t_total a_t_part t_words t_total t_part'_7) s.heap H locs → lv_has ls 4 [(1, .int x1), (0, .ref a_t)] → W p l e rm_Chances_findParts s m args below meth c H locs 0 0 Q (F0 m 66 ls [])) → W p l e rm_Chances_findParts s m args below meth c H locs 0 0 Q (F0 m 24 ls []) := by
          clear hF
          intro k0
          induction k0 with
          | zero =>
            intro x2 t_part'_6 t_part'_7 H locs ls hF
            cases hF
          | succ k0 ih10 =>
            intro x2 t_part'_6 t_part'_7 H locs ls hF hW hl hk9
            rw [Chances_findParts_L24] at hF
            refine lv_iload_n hx hb dX0_findParts_24 rfl (lv_at hl 0 rfl) ?_
            refine lv_iload_n hx hb dX0_findParts_25 rfl (lv_at hl 1 rfl) ?_
            refine lv_icmp_ge (tgt := 66) hx hb dX0_findParts_26 (by decide) (fun c11 => ?_) (fun c11 => ?_)
            · have hF := if_y c11 hF
              cases hF
              exact hk9 _ _ _ hW (lv_sub hl [1, 2] rfl)
            · have hF := if_n c11 hF
              refine lv_aload_n hx hb dX0_findParts_29 rfl (lv_at hl 2 rfl) ?_
              refine m_get X hW fdX0_20 0 rfl rfl dX0_findParts_30 ?_
              refine lv_iload_n hx hb dX0_findParts_33 rfl (lv_at hl 1 rfl) ?_
              refine m_iald X hW 2 (k := x1.toNatClampNeg) rfl g6 rfl dX0_findParts_34 ?_
              refine lv_aload_n hx hb dX0_findParts_35 rfl (lv_at hl 2 rfl) ?_
              refine m_get X hW fdX0_20 0 rfl rfl dX0_findParts_36 ?_
              refine lv_iload_n hx hb dX0_findParts_39 rfl (lv_at hl 0 rfl) ?_
              obtain ⟨g12, hF⟩ := gd_some hF
              refine m_iald X hW 2 (k := x2.toNatClampNeg) rfl g12 rfl dX0_findParts_40 ?_
              obtain ⟨r41, hC13, hF⟩ := bO_s1 hF
              refine m_callN X hW hA hl.1 lkX0_71 (c_S_commonDivisor l E _ N   (t_part'_6 x1.toNatClampNeg) (t_part'_6 x2.toNatClampNeg) r41 hC13) ([]) (by decide) rfl rfl (ws' := (wd_Chances_findParts E a_t a_t_heardAs a_t_chance a_t_before a_t_below a_t_scaled a_t_scaledBelow a_t_total a_t_part t_words t_total t_part'_6)) rfl (As := [.int (t_part'_6 x1.toNatClampNeg), .int (t_part'_6 x2.toNatClampNeg)]) (rest := []) rfl rfl ⟨rfl, rfl, Nat.le_of_ble_eq_true rfl, Nat.le_of_ble_eq_true rfl⟩ (Nat.le_of_ble_eq_true rfl) (Nat.zero_le _) (Nat.zero_le _) dX0_findParts_41 (fun H locs hW => ?_)
              clear hC13
              refine lv_istore_n (lv' := [(3, .int r41), (2, .int x2), (1, .int x1), (0, .ref a_t)]) hx hb dX0_findParts_44 rfl hl (by decide) rfl (fun ls hl => ?_)
              refine lv_iload_n hx hb dX0_findParts_45 rfl (lv_at hl 0 rfl) ?_
              refine lv_iconst (v := (1 : Int32)) hx hb dX0_findParts_46 (by decide) ?_
              refine lv_icmp_le (tgt := 60) hx hb dX0_findParts_47 (by decide) (fun c14 => ?_) (fun c14 => ?_)
              · have hF := if_y c14 hF
                refine lv_iinc (v := (x2 + (1 : Int32))) (lv' := [(2, .int (x2 + (1 : Int32))), (3, .int r41), (1, .int x1), (0, .ref a_t)]) hx hb dX0_findParts_60 hl (k := 1) rfl rfl (by decide) rfl (fun ls hl => ?_)
                refine lv_goto (tgt := 24) hx hb dX0_findParts_63 (by decide) ?_
                exact ih10 (x2 + (1 : Int32)) t_part'_6 t_part'_7 _ _ _ hF hW (lv_sub hl [0, 2, 3] rfl) hk9
              · have hF := if_n c14 hF
                refine lv_aload_n hx hb dX0_findParts_50 rfl (lv_at hl 3 rfl) ?_
                refine m_get X hW fdX0_20 0 rfl rfl dX0_findParts_51 ?_
                refine lv_iload_n hx hb dX0_findParts_54 rfl (lv_at hl 2 rfl) ?_
                refine lv_dup2_11 hx hb dX0_findParts_55 rfl rfl ?_
                refine m_iald X hW 2 (k := x1.toNatClampNeg) rfl g6 rfl dX0_findParts_56 ?_
                refine lv_iload_n hx hb dX0_findParts_57 rfl (lv_at hl 0 rfl) ?_
                obtain ⟨g15, hF⟩ := gd_some hF
                refine lv_idiv hx hb dX0_findParts_58 (nz_ne g15) ?_
                refine m_iast X hW 2 (k := x1.toNatClampNeg) rfl g6 rfl dX0_findParts_59 (ws' := (wd_Chances_findParts E a_t a_t_heardAs a_t_chance a_t_before a_t_below a_t_scaled a_t_scaledBelow a_t_total a_t_part t_words t_total (upd t_part'_6 x1.toNatClampNeg ((t_part'_6 x1.toNatClampNeg) / r41)))) rfl (fun H locs hW => ?_)
                refine lv_iinc (v := (x2 + (1 : Int32))) (lv' := [(2, .int (x2 + (1 : Int32))), (3, .int r41), (1, .int x1), (0, .ref a_t)]) hx hb dX0_findParts_60 hl (k := 1) rfl rfl (by decide) rfl (fun ls hl => ?_)
                refine lv_goto (tgt := 24) hx hb dX0_findParts_63 (by decide) ?_
                exact ih10 (x2 + (1 : Int32)) (upd t_part'_6 x1.toNatClampNeg ((t_part'_6 x1.toNatClampNeg) / r41)) t_part'_7 _ _ _ hF hW (lv_sub hl [0, 2, 3] rfl) hk9
        refine L7 N (0 : Int32) (upd t_part'_5 x1.toNatClampNeg (t_total x1.toNatClampNeg)) t_part'_7 _ _ _ hX8 hW (lv_sub hl [0, 1, 2] rfl) ?_
        intro H locs ls hW hl
        clear L7
        refine lv_iinc (v := (x1 + (1 : Int32))) (lv' := [(1, .int (x1 + (1 : Int32))), (0, .ref a_t)]) hx hb dX0_findParts_66 hl (k := 0) rfl rfl (by decide) rfl (fun ls hl => ?_)
        refine lv_goto (tgt := 2) hx hb dX0_findParts_69 (by decide) ?_
        exact ih4 (x1 + (1 : Int32)) t_part'_7 t_part'_8 _ _ _ hF hW (lv_sub hl [0, 1] rfl) hk3
  refine L1 N (0 : Int32) t_part t_part'_8 _ _ _ hX2 hW (lv_sub hl [0, 1] rfl) ?_
  intro H locs ls hW hl
  clear L1
  have hq := Option.some.inj hF
  subst hq
  exact hret _ _ _ _ hW dX0_findParts_72
abbrev wd_Chances_say (E : m_E) (a_t : Nat) (a_t_before : Nat) (a_t_scaled : Nat) (a_t_scaledBelow : Nat) (a_t_heardAs : Nat) (a_t_total : Nat) (a_t_part : Nat) (a_t_chance : Nat) (a_t_below : Nat) (a_t_below_limb : Nat) (a_p1 : Nat) (a_p1_number : Nat) (a_p1_row : Nat) (a_p1_others : Nat) (a_p1_length : Nat) (a_p1_weight : Nat) (a_p1_leastLike : Nat) (a_p1_lipsOf : Nat) (r_t_heardAs : Nat → Nat) (r_t_chance : Nat → Nat) (r_t_chance_limb : Nat → Nat) (t_words : Int32) (t_heardAs : Nat → Nat → Int32) (t_total : Nat → Int32) (t_part : Nat → Int32) (t_chance_limb : Nat → Nat → Int32) (t_chance_limbs : Nat → Int32) (t_below_limbs : Int32) (t_below_limb : Nat → Int32) (p1_words : Int32) (p1_rowLips : Int32) (p1_girlKnows : Int32) (p1_length : Nat → Int32) (p1_weight : Nat → Int32) (p1_leastLike : Nat → Int32) (p1_lipsOf : Nat → Int32) : va_W := [(a_t, .inr (0, [.ref a_t_heardAs, .ref a_t_total, .ref a_t_part, .ref a_t_chance, .ref a_t_before, .ref a_t_below, .ref a_t_scaled, .ref a_t_scaledBelow, .int t_words])), (a_t_heardAs, .inl (E.2.1 3, 10, .inr (.inr (.inr (.inr (fun i => some (r_t_heardAs i))))))), (a_t_total, .inl (E.2.1 0, 10, .inl t_total)), (a_t_part, .inl (E.2.1 0, 10, .inl t_part)), (a_t_chance, .inl (E.2.1 2, 10, .inr (.inr (.inr (.inr (fun i => some (r_t_chance i))))))), (a_t_below, .inr (4, [.ref a_t_below_limb, .int t_below_limbs])), (a_t_below_limb, .inl (E.2.1 0, 40, .inl t_below_limb)), (a_p1, .inr (3, [.int p1_words, .ref a_p1_length, .ref a_p1_number, .ref a_p1_weight, .ref a_p1_leastLike, .ref a_p1_row, .int p1_rowLips, .int p1_girlKnows, .ref a_p1_lipsOf, .ref a_p1_others])), (a_p1_length, .inl (E.2.1 0, 10, .inl p1_length)), (a_p1_weight, .inl (E.2.1 0, 10, .inl p1_weight)), (a_p1_leastLike, .inl (E.2.1 0, 6, .inl p1_leastLike)), (a_p1_lipsOf, .inl (E.2.1 0, 60, .inl p1_lipsOf))] ++ (m_fam 10 (fun i => (r_t_heardAs i, .inl (E.2.1 0, 10, .inl (t_heardAs i)))) ++ (m_fam 10 (fun i => (r_t_chance i, .inr (4, [.ref (r_t_chance_limb i), .int (t_chance_limbs i)]))) ++ (m_fam 10 (fun i => (r_t_chance_limb i, .inl (E.2.1 0, 40, .inl (t_chance_limb i)))) ++ [])))
def rm_Chances_say : Room := { frames := 2, cells := 0, slots := 0, locals := 48 }
set_option maxHeartbeats 4000000 in
set_option maxRecDepth 100000 in
theorem c_Chances_say (l : Launch) (E : m_E) (sz N : Nat) (a_t : Nat) (a_t_before : Nat) (a_t_scaled : Nat) (a_t_scaledBelow : Nat) (a_t_heardAs : Nat) (a_t_total : Nat) (a_t_part : Nat) (a_t_chance : Nat) (a_t_below : Nat) (a_t_below_limb : Nat) (a_p1 : Nat) (a_p1_number : Nat) (a_p1_row : Nat) (a_p1_others : Nat) (a_p1_length : Nat) (a_p1_weight : Nat) (a_p1_leastLike : Nat) (a_p1_lipsOf : Nat) (r_t_heardAs : Nat → Nat) (r_t_chance : Nat → Nat) (r_t_chance_limb : Nat → Nat) (t_words : Int32) (t_heardAs : Nat → Nat → Int32) (t_total : Nat → Int32) (t_part : Nat → Int32) (t_chance_limb : Nat → Nat → Int32) (t_chance_limbs : Nat → Int32) (t_below_limbs : Int32) (t_below_limb : Nat → Int32) (p1_words : Int32) (p1_rowLips : Int32) (p1_girlKnows : Int32) (p1_length : Nat → Int32) (p1_weight : Nat → Int32) (p1_leastLike : Nat → Int32) (p1_lipsOf : Nat → Int32) (p2 : Int32) (p3 : Int32) (ures : Int32 × (Nat → Nat → Int32) × (Nat → Int32) × (Nat → Int32) × (Nat → Nat → Int32) × (Nat → Int32) × Int32 × (Nat → Int32)) (hF : F_Chances_say N p2 p3 t_heardAs t_total t_part t_chance_limb t_chance_limbs t_below_limb p1_words p1_length p1_weight p1_leastLike p1_lipsOf = some ures) : m_Met l yX0_say cX0_say 7 none rm_Chances_say E (wd_Chances_say E a_t a_t_before a_t_scaled a_t_scaledBelow a_t_heardAs a_t_total a_t_part a_t_chance a_t_below a_t_below_limb a_p1 a_p1_number a_p1_row a_p1_others a_p1_length a_p1_weight a_p1_leastLike a_p1_lipsOf r_t_heardAs r_t_chance r_t_chance_limb t_words t_heardAs t_total t_part t_chance_limb t_chance_limbs t_below_limbs t_below_limb p1_words p1_rowLips p1_girlKnows p1_length p1_weight p1_leastLike p1_lipsOf) (wd_Chances_say E a_t a_t_before a_t_scaled a_t_scaledBelow a_t_heardAs a_t_total a_t_part a_t_chance a_t_below a_t_below_limb a_p1 a_p1_number a_p1_row a_p1_others a_p1_length a_p1_weight a_p1_leastLike a_p1_lipsOf r_t_heardAs r_t_chance r_t_chance_limb ures.1 ures.2.1 ures.2.2.1 ures.2.2.2.1 ures.2.2.2.2.1 ures.2.2.2.2.2.1 ures.2.2.2.2.2.2.1 ures.2.2.2.2.2.2.2 p1_words p1_rowLips p1_girlKnows p1_length p1_weight p1_leastLike p1_lipsOf) sz [.ref a_t, .ref a_p1, .int p2, .int p3] none := by
  refine m_ofV (by decide) (Nat.le_of_ble_eq_true rfl) ?_
  intro p e s m args below meth c A Q ls X hW hA hl hret
  obtain ⟨hx, hb, -, hown, hts, hK, -, hG⟩ := id X
  have hl : lv_has ls 7 [(0, .ref a_t), (1, .ref a_p1), (2, .int p2), (3, .int p3)] := hl
  unfold F_Chances_say at hF
  refine lv_aload_n hx hb dX0_say_0 rfl (lv_at hl 0 rfl) ?_
  refine lv_aload_n hx hb dX0_say_1 rfl (lv_at hl 1 rfl) ?_
  refine m_get X hW fdX0_43 7 rfl rfl dX0_say_2 ?_
  refine m_putf X hW fdX0_47 0 rfl (Nat.le_of_ble_eq_true rfl) rfl rfl dX0_say_5 (ws' := (wd_Chances_say E a_t a_t_before a_t_scaled a_t_scaledBelow a_t_heardAs a_t_total a_t_part a_t_chance a_t_below a_t_below_limb a_p1 a_p1_number a_p1_row a_p1_others a_p1_length a_p1_weight a_p1_leastLike a_p1_lipsOf r_t_heardAs r_t_chance r_t_chance_limb p1_words t_heardAs t_total t_part t_chance_limb t_chance_limbs t_below_limbs t_below_limb p1_words p1_rowLips p1_girlKnows p1_length p1_weight p1_leastLike p1_lipsOf)) rfl (fun H locs hW => ?_)
  refine lv_iconst (v := (0 : Int32)) hx hb dX0_say_8 (by decide) ?_
  refine lv_istore (lv' := [(4, .int (0 : Int32)), (0, .ref a_t), (1, .ref a_p1), (2, .int p2), (3, .int p3)]) hx hb dX0_say_9 hl (by decide) rfl (fun ls hl => ?_)
  obtain ⟨t_heardAs'_10, t_total'_10, t_chance_limbs'_6, t_chance_limb'_6, hX2, hF⟩ := bO_s4 hF
  have L1 : ∀ (k0 : Nat) (x4 : Int32) (t_heardAs'_6 : Nat → Nat → Int32) (t_total'_6 : Nat → Int32) (t_chance_limbs'_4 : Nat → Int32) (t_chance_limb'_4 : Nat → Nat → Int32) (t_heardAs'_10 : Nat → Nat → Int32) (t_total'_10 : Nat → Int32) (t_chance_limbs'_6 : Nat → Int32) (t_chance_limb'_6 : Nat → Nat → Int32) (H : Heap) (locs : List Loc) (ls : Array Slot), Chances_say_L11 N p1_words p1_length p1_leastLike p1_lipsOf p1_weight p2 p3 k0 x4 t_heardAs'_6 t_total'_6 t_chance_limbs'_4 t_chance_limb'_4 = some (t_heardAs'_10, t_total'_10, t_chance_limbs'_6, t_chance_limb'_6) → m_H E A (wd_Chances_say E a_t a_t_before a_t_scaled a_t_scaledBelow a_t_heardAs a_t_total a_t_part a_t_chance a_t_below a_t_below_limb a_p1 a_p1_number a_p1_row a_p1_others a_p1_length a_p1_weight a_p1_leastLike a_p1_lipsOf r_t_heardAs r_t_chance r_t_chance_limb p1_words t_heardAs'_6 t_total'_6 t_part t_chance_limb'_4 t_chance_limbs'_4 t_below_limbs t_below_limb p1_words p1_rowLips p1_girlKnows p1_length p1_weight p1_leastLike p1_lipsOf) s.heap H locs → lv_has ls 7 [(4, .int x4), (0, .ref a_t), (1, .ref a_p1), (2, .int p2), (3, .int p3)] → (∀ (H : Heap) (locs : List Loc) (ls : Array Slot), m_H E A (wd_Chances_say E a_t a_t_before a_t_scaled a_t_scaledBelow a_t_heardAs a_t_total a_t_part a_t_chance a_t_below a_t_below_limb a_p1 a_p1_number a_p1_row a_p1_others a_p1_length a_p1_weight a_p1_leastLike a_p1_lipsOf r_t_heardAs r_t_chance r_t_chance_limb p1_words t_heardAs'_10 t_total'_10 t_part t_chance_limb'_6 t_chance_limbs'_6 t_below_limbs t_below_limb p1_words p1_rowLips p1_girlKnows p1_length p1_weight p1_leastLike p1_lipsOf) s.heap H locs → lv_has ls 7 [(0, .ref a_t)] → W p l e rm_Chances_say s m args below meth c H locs 0 0 Q (F0 m 197 ls [])) → W p l e rm_Chances_say s m args below meth c H locs 0 0 Q (F0 m 11 ls []) := by
    clear hF
    intro k0
    induction k0 with
    | zero =>
      intro x4 t_heardAs'_6 t_total'_6 t_chance_limbs'_4 t_chance_limb'_4 t_heardAs'_10 t_total'_10 t_chance_limbs'_6 t_chance_limb'_6 H locs ls hF
      cases hF
    | succ k0 ih4 =>
      intro x4 t_heardAs'_6 t_total'_6 t_chance_limbs'_4 t_chance_limb'_4 t_heardAs'_10 t_total'_10 t_chance_limbs'_6 t_chance_limb'_6 H locs ls hF hW hl hk3
      rw [Chances_say_L11] at hF
      refine lv_iload hx hb dX0_say_11 (lv_at hl 0 rfl) ?_
      refine lv_aload_n hx hb dX0_say_13 rfl (lv_at hl 1 rfl) ?_
      refine m_get X hW fdX0_47 0 rfl rfl dX0_say_14 ?_
      refine lv_icmp_ge (tgt := 197) hx hb dX0_say_17 (by decide) (fun c5 => ?_) (fun c5 => ?_)
      · have hF := if_y c5 hF
        cases hF
        exact hk3 _ _ _ hW (lv_sub hl [1] rfl)
      · have hF := if_n c5 hF
        refine lv_aload_n hx hb dX0_say_20 rfl (lv_at hl 1 rfl) ?_
        refine m_get X hW fdX0_16 0 rfl rfl dX0_say_21 ?_
        refine lv_iload hx hb dX0_say_24 (lv_at hl 0 rfl) ?_
        refine lv_iconst (v := (0 : Int32)) hx hb dX0_say_26 (by decide) ?_
        obtain ⟨g6, hF⟩ := gd_some hF
        refine m_iast X hW 2 (k := x4.toNatClampNeg) rfl g6 rfl dX0_say_27 (ws' := (wd_Chances_say E a_t a_t_before a_t_scaled a_t_scaledBelow a_t_heardAs a_t_total a_t_part a_t_chance a_t_below a_t_below_limb a_p1 a_p1_number a_p1_row a_p1_others a_p1_length a_p1_weight a_p1_leastLike a_p1_lipsOf r_t_heardAs r_t_chance r_t_chance_limb p1_words t_heardAs'_6 (upd t_total'_6 x4.toNatClampNeg (0 : Int32)) t_part t_chance_limb'_4 t_chance_limbs'_4 t_below_limbs t_below_limb p1_words p1_rowLips p1_girlKnows p1_length p1_weight p1_leastLike p1_lipsOf)) rfl (fun H locs hW => ?_)
        refine lv_iconst (v := (0 : Int32)) hx hb dX0_say_28 (by decide) ?_
        refine lv_istore (lv' := [(5, .int (0 : Int32)), (4, .int x4), (0, .ref a_t), (1, .ref a_p1), (2, .int p2), (3, .int p3)]) hx hb dX0_say_29 hl (by decide) rfl (fun ls hl => ?_)
        obtain ⟨t_heardAs'_9, t_total'_8, hX8, hF⟩ := bO_s2 hF
        have L7 : ∀ (k0 : Nat) (x5 : Int32) (t_heardAs'_7 : Nat → Nat → Int32) (t_total'_7 : Nat → Int32) (t_heardAs'_9 : Nat → Nat → Int32) (t_total'_8 : Nat → Int32) (H : Heap) (locs : List Loc) (ls : Array Slot), Chances_say_L31 N p1_words p1_length x4 p1_leastLike p1_lipsOf p1_weight p2 k0 x5 t_heardAs'_7 t_total'_7 = some (t_heardAs'_9, t_total'_8) → m_H E A (wd_Chances_say E a_t a_t_before a_t_scaled a_t_scaledBelow a_t_heardAs a_t_total a_t_part a_t_chance a_t_below a_t_below_limb a_p1 a_p1_number a_p1_row a_p1_others a_p1_length a_p1_weight a_p1_leastLike a_p1_lipsOf r_t_heardAs r_t_chance r_t_chance_limb p1_words t_heardAs'_7 t_total'_7 t_part t_chance_limb'_4 t_chance_limbs'_4 t_below_limbs t_below_limb p1_words p1_rowLips p1_girlKnows p1_length p1_weight p1_leastLike p1_lipsOf) s.heap H locs → lv_has ls 7 [(5, .int x5), (4, .int x4), (0, .ref a_t), (1, .ref a_p1), (2, .int p2), (3, .int p3)] → (∀ (H : Heap) (locs : List Loc) (ls : Array Slot), m_H E A (wd_Chances_say E a_t a_t_before a_t_scaled a_t_scaledBelow a_t_heardAs a_t_total a_t_part a_t_chance a_t_below a_t_below_limb a_p1 a_p1_number a_p1_row a_p1_others a_p1_length a_p1_weight a_p1_leastLike a_p1_lipsOf r_t_heardAs r_t_chance r_t_chance_limb p1_words t_heardAs'_9 t_total'_8 t_part t_chance_limb'_4 t_chance_limbs'_4 t_below_limbs t_below_limb p1_words p1_rowLips p1_girlKnows p1_length p1_weight p1_leastLike p1_lipsOf) s.heap H locs → lv_has ls 7 [(4, .int x4), (0, .ref a_t), (1, .ref a_p1), (2, .int p2), (3, .int p3)] → W p l e rm_Chances_say s m args below meth c H locs 0 0 Q (F0 m 143 ls [])) → W p l e rm_Chances_say s m args below meth c H locs 0 0 Q (F0 m 31 ls []) := by
          clear hF
          intro k0
          induction k0 with
          | zero =>
            intro x5 t_heardAs'_7 t_total'_7 t_heardAs'_9 t_total'_8 H locs ls hF
            cases hF
          | succ k0 ih10 =>
            intro x5 t_heardAs'_7 t_total'_7 t_heardAs'_9 t_total'_8 H locs ls hF hW hl hk9
            rw [Chances_say_L31] at hF
            refine lv_iload hx hb dX0_say_31 (lv_at hl 0 rfl) ?_
            refine lv_aload_n hx hb dX0_say_33 rfl (lv_at hl 2 rfl) ?_
            refine m_get X hW fdX0_47 0 rfl rfl dX0_say_34 ?_
            refine lv_icmp_ge (tgt := 143) hx hb dX0_say_37 (by decide) (fun c11 => ?_) (fun c11 => ?_)
            · have hF := if_y c11 hF
              cases hF
              exact hk9 _ _ _ hW (lv_sub hl [1, 2, 3, 4, 5] rfl)
            · have hF := if_n c11 hF
              refine lv_aload_n hx hb dX0_say_40 rfl (lv_at hl 3 rfl) ?_
              refine m_get X hW fdX0_48 7 rfl rfl dX0_say_41 ?_
              refine lv_iload hx hb dX0_say_44 (lv_at hl 1 rfl) ?_
              refine m_iald X hW 8 (k := x4.toNatClampNeg) rfl g6 rfl dX0_say_46 ?_
              refine lv_aload_n hx hb dX0_say_47 rfl (lv_at hl 3 rfl) ?_
              refine m_get X hW fdX0_48 7 rfl rfl dX0_say_48 ?_
              refine lv_iload hx hb dX0_say_51 (lv_at hl 0 rfl) ?_
              obtain ⟨g12, hF⟩ := gd_some hF
              refine m_iald X hW 8 (k := x5.toNatClampNeg) rfl g12 rfl dX0_say_53 ?_
              obtain ⟨y0, hX14, hF⟩ := bO_s1 hF
              have J13 : ∀ (H : Heap) (locs : List Loc) (ls : Array Slot), m_H E A (wd_Chances_say E a_t a_t_before a_t_scaled a_t_scaledBelow a_t_heardAs a_t_total a_t_part a_t_chance a_t_below a_t_below_limb a_p1 a_p1_number a_p1_row a_p1_others a_p1_length a_p1_weight a_p1_leastLike a_p1_lipsOf r_t_heardAs r_t_chance r_t_chance_limb p1_words t_heardAs'_7 t_total'_7 t_part t_chance_limb'_4 t_chance_limbs'_4 t_below_limbs t_below_limb p1_words p1_rowLips p1_girlKnows p1_length p1_weight p1_leastLike p1_lipsOf) s.heap H locs → lv_has ls 7 [(5, .int x5), (4, .int x4), (0, .ref a_t), (1, .ref a_p1), (2, .int p2), (3, .int p3)] → W p l e rm_Chances_say s m args below meth c H locs 0 0 Q (F0 m 62 ls [.int y0]) := by
                intro H locs ls hW hl
                refine lv_istore (lv' := [(6, .int y0), (5, .int x5), (4, .int x4), (0, .ref a_t), (1, .ref a_p1), (2, .int p2), (3, .int p3)]) hx hb dX0_say_62 hl (by decide) rfl (fun ls hl => ?_)
                refine lv_aload_n hx hb dX0_say_64 rfl (lv_at hl 3 rfl) ?_
                refine m_get X hW fdX0_11 0 rfl rfl dX0_say_65 ?_
                refine lv_iload hx hb dX0_say_68 (lv_at hl 2 rfl) ?_
                refine m_aaldA X hW 1 (k := x4.toNatClampNeg) rfl g6 rfl dX0_say_70 ?_
                refine lv_iload hx hb dX0_say_71 (lv_at hl 1 rfl) ?_
                refine lv_iload hx hb dX0_say_73 (lv_at hl 0 rfl) ?_
                obtain ⟨y2, hX16, hF⟩ := bO_s1 hF
                have J15 : ∀ (H : Heap) (locs : List Loc) (ls : Array Slot), m_H E A (wd_Chances_say E a_t a_t_before a_t_scaled a_t_scaledBelow a_t_heardAs a_t_total a_t_part a_t_chance a_t_below a_t_below_limb a_p1 a_p1_number a_p1_row a_p1_others a_p1_length a_p1_weight a_p1_leastLike a_p1_lipsOf r_t_heardAs r_t_chance r_t_chance_limb p1_words t_heardAs'_7 t_total'_7 t_part t_chance_limb'_4 t_chance_limbs'_4 t_below_limbs t_below_limb p1_words p1_rowLips p1_girlKnows p1_length p1_weight p1_leastLike p1_lipsOf) s.heap H locs → lv_has ls 7 [(5, .int x5), (4, .int x4), (0, .ref a_t), (1, .ref a_p1), (2, .int p2), (3, .int p3)] → W p l e rm_Chances_say s m args below meth c H locs 0 0 Q (F0 m 98 ls [.int y2, .int x5, .ref (r_t_heardAs (x4.toNatClampNeg))]) := by
                  intro H locs ls hW hl
                  refine m_iast X hW (12 + (x4.toNatClampNeg)) (k := x5.toNatClampNeg) (m_fg (b := 12) rfl (by rfl) (ixb_lt g6)) g12 rfl dX0_say_98 (ws' := (wd_Chances_say E a_t a_t_before a_t_scaled a_t_scaledBelow a_t_heardAs a_t_total a_t_part a_t_chance a_t_below a_t_below_limb a_p1 a_p1_number a_p1_row a_p1_others a_p1_length a_p1_weight a_p1_leastLike a_p1_lipsOf r_t_heardAs r_t_chance r_t_chance_limb p1_words (va_up t_heardAs'_7 x4.toNatClampNeg (upd (t_heardAs'_7 x4.toNatClampNeg) x5.toNatClampNeg y2)) t_total'_7 t_part t_chance_limb'_4 t_chance_limbs'_4 t_below_limbs t_below_limb p1_words p1_rowLips p1_girlKnows p1_length p1_weight p1_leastLike p1_lipsOf)) (m_fset (b := 12) rfl (by rfl) (ixb_lt g6) rfl (by intro i _; by_cases h : i = (x4.toNatClampNeg) <;> simp [va_up, h])) (fun H locs hW => ?_)
                  refine lv_iload hx hb dX0_say_99 (lv_at hl 0 rfl) ?_
                  refine lv_iload hx hb dX0_say_101 (lv_at hl 1 rfl) ?_
                  obtain ⟨t_heardAs'_8, hX18, hF⟩ := bO_s1 hF
                  have J17 : ∀ (H : Heap) (locs : List Loc) (ls : Array Slot), m_H E A (wd_Chances_say E a_t a_t_before a_t_scaled a_t_scaledBelow a_t_heardAs a_t_total a_t_part a_t_chance a_t_below a_t_below_limb a_p1 a_p1_number a_p1_row a_p1_others a_p1_length a_p1_weight a_p1_leastLike a_p1_lipsOf r_t_heardAs r_t_chance r_t_chance_limb p1_words t_heardAs'_8 t_total'_7 t_part t_chance_limb'_4 t_chance_limbs'_4 t_below_limbs t_below_limb p1_words p1_rowLips p1_girlKnows p1_length p1_weight p1_leastLike p1_lipsOf) s.heap H locs → lv_has ls 7 [(5, .int x5), (4, .int x4), (0, .ref a_t), (1, .ref a_p1), (2, .int p2), (3, .int p3)] → W p l e rm_Chances_say s m args below meth c H locs 0 0 Q (F0 m 117 ls []) := by
                    intro H locs ls hW hl
                    refine lv_aload_n hx hb dX0_say_117 rfl (lv_at hl 2 rfl) ?_
                    refine m_get X hW fdX0_16 0 rfl rfl dX0_say_118 ?_
                    refine lv_iload hx hb dX0_say_121 (lv_at hl 1 rfl) ?_
                    refine lv_dup2_11 hx hb dX0_say_123 rfl rfl ?_
                    refine m_iald X hW 2 (k := x4.toNatClampNeg) rfl g6 rfl dX0_say_124 ?_
                    refine lv_aload_n hx hb dX0_say_125 rfl (lv_at hl 2 rfl) ?_
                    refine m_get X hW fdX0_11 0 rfl rfl dX0_say_126 ?_
                    refine lv_iload hx hb dX0_say_129 (lv_at hl 1 rfl) ?_
                    refine m_aaldA X hW 1 (k := x4.toNatClampNeg) rfl g6 rfl dX0_say_131 ?_
                    refine lv_iload hx hb dX0_say_132 (lv_at hl 0 rfl) ?_
                    refine m_iald X hW (12 + (x4.toNatClampNeg)) (k := x5.toNatClampNeg) (m_fg (b := 12) rfl (by rfl) (ixb_lt g6)) g12 rfl dX0_say_134 ?_
                    refine lv_iadd hx hb dX0_say_135 ?_
                    refine m_iast X hW 2 (k := x4.toNatClampNeg) rfl g6 rfl dX0_say_136 (ws' := (wd_Chances_say E a_t a_t_before a_t_scaled a_t_scaledBelow a_t_heardAs a_t_total a_t_part a_t_chance a_t_below a_t_below_limb a_p1 a_p1_number a_p1_row a_p1_others a_p1_length a_p1_weight a_p1_leastLike a_p1_lipsOf r_t_heardAs r_t_chance r_t_chance_limb p1_words t_heardAs'_8 (upd t_total'_7 x4.toNatClampNeg ((t_total'_7 x4.toNatClampNeg) + ((t_heardAs'_8 x4.toNatClampNeg) x5.toNatClampNeg))) t_part t_chance_limb'_4 t_chance_limbs'_4 t_below_limbs t_below_limb p1_words p1_rowLips p1_girlKnows p1_length p1_weight p1_leastLike p1_lipsOf)) rfl (fun H locs hW => ?_)
                    refine lv_iinc (v := (x5 + (1 : Int32))) (lv' := [(5, .int (x5 + (1 : Int32))), (4, .int x4), (0, .ref a_t), (1, .ref a_p1), (2, .int p2), (3, .int p3)]) hx hb dX0_say_137 hl (k := 0) rfl rfl (by decide) rfl (fun ls hl => ?_)
                    refine lv_goto (tgt := 31) hx hb dX0_say_140 (by decide) ?_
                    exact ih10 (x5 + (1 : Int32)) t_heardAs'_8 (upd t_total'_7 x4.toNatClampNeg ((t_total'_7 x4.toNatClampNeg) + ((t_heardAs'_8 x4.toNatClampNeg) x5.toNatClampNeg))) t_heardAs'_9 t_total'_8 _ _ _ hF hW (lv_sub hl [0, 1, 2, 3, 4, 5] rfl) hk9
                  clear hF
                  have hF := hX18
                  clear hX18
                  refine lv_icmp_ne (tgt := 117) hx hb dX0_say_103 (by decide) (fun c19 => ?_) (fun c19 => ?_)
                  · have hF := if_n c19 hF
                    cases hF
                    exact J17 _ _ _ hW (lv_sub hl [0, 1, 2, 3, 4, 5] rfl)
                  · have hF := if_y c19 hF
                    refine lv_aload_n hx hb dX0_say_106 rfl (lv_at hl 2 rfl) ?_
                    refine m_get X hW fdX0_11 0 rfl rfl dX0_say_107 ?_
                    refine lv_iload hx hb dX0_say_110 (lv_at hl 1 rfl) ?_
                    refine m_aaldA X hW 1 (k := x4.toNatClampNeg) rfl g6 rfl dX0_say_112 ?_
                    refine lv_iload hx hb dX0_say_113 (lv_at hl 0 rfl) ?_
                    refine lv_iload_n hx hb dX0_say_115 rfl (lv_at hl 4 rfl) ?_
                    refine m_iast X hW (12 + (x4.toNatClampNeg)) (k := x5.toNatClampNeg) (m_fg (b := 12) rfl (by rfl) (ixb_lt g6)) g12 rfl dX0_say_116 (ws' := (wd_Chances_say E a_t a_t_before a_t_scaled a_t_scaledBelow a_t_heardAs a_t_total a_t_part a_t_chance a_t_below a_t_below_limb a_p1 a_p1_number a_p1_row a_p1_others a_p1_length a_p1_weight a_p1_leastLike a_p1_lipsOf r_t_heardAs r_t_chance r_t_chance_limb p1_words (va_up (va_up t_heardAs'_7 x4.toNatClampNeg (upd (t_heardAs'_7 x4.toNatClampNeg) x5.toNatClampNeg y2)) x4.toNatClampNeg (upd ((va_up t_heardAs'_7 x4.toNatClampNeg (upd (t_heardAs'_7 x4.toNatClampNeg) x5.toNatClampNeg y2)) x4.toNatClampNeg) x5.toNatClampNeg p2)) t_total'_7 t_part t_chance_limb'_4 t_chance_limbs'_4 t_below_limbs t_below_limb p1_words p1_rowLips p1_girlKnows p1_length p1_weight p1_leastLike p1_lipsOf)) (m_fset (b := 12) rfl (by rfl) (ixb_lt g6) rfl (by intro i _; by_cases h : i = (x4.toNatClampNeg) <;> simp [va_up, h])) (fun H locs hW => ?_)
                    cases hF
                    exact J17 _ _ _ hW (lv_sub hl [0, 1, 2, 3, 4, 5] rfl)
                clear hF
                have hF := hX16
                clear hX16
                refine lv_if_eq (tgt := 97) hx hb dX0_say_75 (by decide) (fun c20 => ?_) (fun c20 => ?_)
                · have hF := if_y c20 hF
                  refine lv_iconst (v := (0 : Int32)) hx hb dX0_say_97 (by decide) ?_
                  cases hF
                  exact J15 _ _ _ hW (lv_sub hl [1, 2, 3, 4, 5, 6] rfl)
                · have hF := if_n c20 hF
                  refine lv_aload_n hx hb dX0_say_78 rfl (lv_at hl 4 rfl) ?_
                  refine m_get X hW fdX0_51 7 rfl rfl dX0_say_79 ?_
                  refine lv_iload hx hb dX0_say_82 (lv_at hl 1 rfl) ?_
                  refine m_iald X hW 9 (k := x5.toNatClampNeg) rfl g12 rfl dX0_say_84 ?_
                  refine lv_aload_n hx hb dX0_say_85 rfl (lv_at hl 4 rfl) ?_
                  refine lv_iload hx hb dX0_say_86 (lv_at hl 2 rfl) ?_
                  refine lv_iload hx hb dX0_say_88 (lv_at hl 1 rfl) ?_
                  obtain ⟨r90, hC21, hF⟩ := bO_s1 hF
                  refine m_callV X hW hA hl.1 lkX0_54 (c_Lexicon_unlikeLips l E _ N a_p1 a_p1_number a_p1_weight a_p1_row a_p1_others a_p1_length a_p1_leastLike a_p1_lipsOf p1_words p1_rowLips p1_girlKnows p1_length p1_leastLike p1_lipsOf x4 x5 r90 hC21) ([7, 8, 10, 11]) (by decide) rfl rfl (ws' := (wd_Chances_say E a_t a_t_before a_t_scaled a_t_scaledBelow a_t_heardAs a_t_total a_t_part a_t_chance a_t_below a_t_below_limb a_p1 a_p1_number a_p1_row a_p1_others a_p1_length a_p1_weight a_p1_leastLike a_p1_lipsOf r_t_heardAs r_t_chance r_t_chance_limb p1_words t_heardAs'_7 t_total'_7 t_part t_chance_limb'_4 t_chance_limbs'_4 t_below_limbs t_below_limb p1_words p1_rowLips p1_girlKnows p1_length p1_weight p1_leastLike p1_lipsOf)) rfl 7 rfl rfl rfl (As := [.int x4, .int x5]) (rest := [.int (p1_weight x5.toNatClampNeg), .int x5, .ref (r_t_heardAs (x4.toNatClampNeg))]) rfl rfl ⟨rfl, rfl, Nat.le_of_ble_eq_true rfl, Nat.le_of_ble_eq_true rfl⟩ (Nat.le_of_ble_eq_true rfl) (Nat.zero_le _) (Nat.zero_le _) dX0_say_90 (fun H locs hW => ?_)
                  clear hC21
                  refine m_ishr hx hb dX0_say_93 ?_
                  refine lv_goto (tgt := 98) hx hb dX0_say_94 (by decide) ?_
                  cases hF
                  exact J15 _ _ _ hW (lv_sub hl [1, 2, 3, 4, 5, 6] rfl)
              clear hF
              have hF := hX14
              clear hX14
              refine lv_icmp_ne (tgt := 61) hx hb dX0_say_54 (by decide) (fun c22 => ?_) (fun c22 => ?_)
              · have hF := if_n c22 hF
                refine lv_iconst (v := (0 : Int32)) hx hb dX0_say_61 (by decide) ?_
                cases hF
                exact J13 _ _ _ hW (lv_sub hl [0, 1, 2, 3, 4, 5] rfl)
              · have hF := if_y c22 hF
                refine lv_iconst (v := (1 : Int32)) hx hb dX0_say_57 (by decide) ?_
                refine lv_goto (tgt := 62) hx hb dX0_say_58 (by decide) ?_
                cases hF
                exact J13 _ _ _ hW (lv_sub hl [0, 1, 2, 3, 4, 5] rfl)
        refine L7 N (0 : Int32) t_heardAs'_6 (upd t_total'_6 x4.toNatClampNeg (0 : Int32)) t_heardAs'_9 t_total'_8 _ _ _ hX8 hW (lv_sub hl [0, 1, 2, 3, 4, 5] rfl) ?_
        intro H locs ls hW hl
        clear L7
        refine lv_aload_n hx hb dX0_say_143 rfl (lv_at hl 2 rfl) ?_
        refine m_get X hW fdX0_48 7 rfl rfl dX0_say_144 ?_
        refine lv_iload hx hb dX0_say_147 (lv_at hl 0 rfl) ?_
        refine m_iald X hW 8 (k := x4.toNatClampNeg) rfl g6 rfl dX0_say_149 ?_
        refine lv_aload_n hx hb dX0_say_150 rfl (lv_at hl 2 rfl) ?_
        refine m_get X hW fdX0_48 7 rfl rfl dX0_say_151 ?_
        refine lv_iload_n hx hb dX0_say_154 rfl (lv_at hl 4 rfl) ?_
        obtain ⟨g23, hF⟩ := gd_some hF
        refine m_iald X hW 8 (k := p3.toNatClampNeg) rfl g23 rfl dX0_say_155 ?_
        obtain ⟨t_total'_9, hX25, hF⟩ := bO_s1 hF
        have J24 : ∀ (H : Heap) (locs : List Loc) (ls : Array Slot), m_H E A (wd_Chances_say E a_t a_t_before a_t_scaled a_t_scaledBelow a_t_heardAs a_t_total a_t_part a_t_chance a_t_below a_t_below_limb a_p1 a_p1_number a_p1_row a_p1_others a_p1_length a_p1_weight a_p1_leastLike a_p1_lipsOf r_t_heardAs r_t_chance r_t_chance_limb p1_words t_heardAs'_9 t_total'_9 t_part t_chance_limb'_4 t_chance_limbs'_4 t_below_limbs t_below_limb p1_words p1_rowLips p1_girlKnows p1_length p1_weight p1_leastLike p1_lipsOf) s.heap H locs → lv_has ls 7 [(4, .int x4), (0, .ref a_t), (1, .ref a_p1), (2, .int p2), (3, .int p3)] → W p l e rm_Chances_say s m args below meth c H locs 0 0 Q (F0 m 167 ls []) := by
          intro H locs ls hW hl
          refine lv_aload_n hx hb dX0_say_167 rfl (lv_at hl 1 rfl) ?_
          refine m_get X hW fdX0_25 0 rfl rfl dX0_say_168 ?_
          refine lv_iload hx hb dX0_say_171 (lv_at hl 0 rfl) ?_
          refine m_aald X hW 4 (k := x4.toNatClampNeg) rfl g6 rfl dX0_say_173 ?_
          refine lv_iload hx hb dX0_say_174 (lv_at hl 0 rfl) ?_
          refine lv_iload_n hx hb dX0_say_176 rfl (lv_at hl 4 rfl) ?_
          obtain ⟨y1, hX27, hF⟩ := bO_s1 hF
          have J26 : ∀ (H : Heap) (locs : List Loc) (ls : Array Slot), m_H E A (wd_Chances_say E a_t a_t_before a_t_scaled a_t_scaledBelow a_t_heardAs a_t_total a_t_part a_t_chance a_t_below a_t_below_limb a_p1 a_p1_number a_p1_row a_p1_others a_p1_length a_p1_weight a_p1_leastLike a_p1_lipsOf r_t_heardAs r_t_chance r_t_chance_limb p1_words t_heardAs'_9 t_total'_9 t_part t_chance_limb'_4 t_chance_limbs'_4 t_below_limbs t_below_limb p1_words p1_rowLips p1_girlKnows p1_length p1_weight p1_leastLike p1_lipsOf) s.heap H locs → lv_has ls 7 [(4, .int x4), (0, .ref a_t), (1, .ref a_p1), (2, .int p2), (3, .int p3)] → W p l e rm_Chances_say s m args below meth c H locs 0 0 Q (F0 m 185 ls [.int y1, .ref (r_t_chance (x4.toNatClampNeg))]) := by
            intro H locs ls hW hl
            refine m_callN X hW hA hl.1 lkX0_58 (c_S_oneIf l E _ N   y1 (F_S_oneIf y1) rfl) ([]) (by decide) rfl rfl (ws' := (wd_Chances_say E a_t a_t_before a_t_scaled a_t_scaledBelow a_t_heardAs a_t_total a_t_part a_t_chance a_t_below a_t_below_limb a_p1 a_p1_number a_p1_row a_p1_others a_p1_length a_p1_weight a_p1_leastLike a_p1_lipsOf r_t_heardAs r_t_chance r_t_chance_limb p1_words t_heardAs'_9 t_total'_9 t_part t_chance_limb'_4 t_chance_limbs'_4 t_below_limbs t_below_limb p1_words p1_rowLips p1_girlKnows p1_length p1_weight p1_leastLike p1_lipsOf)) rfl (As := [.int y1]) (rest := [.ref (r_t_chance (x4.toNatClampNeg))]) rfl rfl ⟨rfl, rfl, Nat.le_of_ble_eq_true rfl, Nat.le_of_ble_eq_true rfl⟩ (Nat.le_of_ble_eq_true rfl) (Nat.zero_le _) (Nat.zero_le _) dX0_say_185 (fun H locs hW => ?_)
            obtain ⟨t_chance_limbs'_5, t_chance_limb'_5, hC28, hF⟩ := bO_s2 hF
            refine m_callV X hW hA hl.1 lkX0_64 (c_Natural_put l E _ N (r_t_chance (x4.toNatClampNeg)) (r_t_chance_limb (x4.toNatClampNeg)) (t_chance_limbs'_4 x4.toNatClampNeg) (t_chance_limb'_4 x4.toNatClampNeg) (F_S_oneIf y1) (t_chance_limbs'_5, t_chance_limb'_5) hC28) ([(22 + (x4.toNatClampNeg)), (32 + (x4.toNatClampNeg))]) (m_nd (by have := (ixb_lt g6); simp only [va_nd, List.mem_cons, List.not_mem_nil, or_false, not_or, decide_eq_true_eq, Bool.and_eq_true, not_false_eq_true, and_true, true_and]; omega)) (m_Cc (m_fg (b := 22) m_sp1 (by rfl) (ixb_lt g6)) (m_Cc (m_fg (b := 32) m_sp2 (by rfl) (ixb_lt g6)) m_Cn)) rfl (ws' := (wd_Chances_say E a_t a_t_before a_t_scaled a_t_scaledBelow a_t_heardAs a_t_total a_t_part a_t_chance a_t_below a_t_below_limb a_p1 a_p1_number a_p1_row a_p1_others a_p1_length a_p1_weight a_p1_leastLike a_p1_lipsOf r_t_heardAs r_t_chance r_t_chance_limb p1_words t_heardAs'_9 t_total'_9 t_part (va_up t_chance_limb'_4 x4.toNatClampNeg t_chance_limb'_5) (va_up t_chance_limbs'_4 x4.toNatClampNeg t_chance_limbs'_5) t_below_limbs t_below_limb p1_words p1_rowLips p1_girlKnows p1_length p1_weight p1_leastLike p1_lipsOf)) (m_putc (ws1 := (wd_Chances_say E a_t a_t_before a_t_scaled a_t_scaledBelow a_t_heardAs a_t_total a_t_part a_t_chance a_t_below a_t_below_limb a_p1 a_p1_number a_p1_row a_p1_others a_p1_length a_p1_weight a_p1_leastLike a_p1_lipsOf r_t_heardAs r_t_chance r_t_chance_limb p1_words t_heardAs'_9 t_total'_9 t_part t_chance_limb'_4 (va_up t_chance_limbs'_4 x4.toNatClampNeg t_chance_limbs'_5) t_below_limbs t_below_limb p1_words p1_rowLips p1_girlKnows p1_length p1_weight p1_leastLike p1_lipsOf)) (m_fset (b := 22) m_sp1 (by rfl) (ixb_lt g6) m_sp1 (by intro i _; by_cases h : i = (x4.toNatClampNeg) <;> simp [va_up, h])) (m_putc (ws1 := (wd_Chances_say E a_t a_t_before a_t_scaled a_t_scaledBelow a_t_heardAs a_t_total a_t_part a_t_chance a_t_below a_t_below_limb a_p1 a_p1_number a_p1_row a_p1_others a_p1_length a_p1_weight a_p1_leastLike a_p1_lipsOf r_t_heardAs r_t_chance r_t_chance_limb p1_words t_heardAs'_9 t_total'_9 t_part (va_up t_chance_limb'_4 x4.toNatClampNeg t_chance_limb'_5) (va_up t_chance_limbs'_4 x4.toNatClampNeg t_chance_limbs'_5) t_below_limbs t_below_limb p1_words p1_rowLips p1_girlKnows p1_length p1_weight p1_leastLike p1_lipsOf)) (m_fset (b := 32) m_sp2 (by rfl) (ixb_lt g6) m_sp2 (by intro i _; by_cases h : i = (x4.toNatClampNeg) <;> simp [va_up, h])) m_putn)) (22 + (x4.toNatClampNeg)) (m_fg (b := 22) m_sp1 (by rfl) (ixb_lt g6)) rfl rfl (As := [.int (F_S_oneIf y1)]) (rest := []) rfl rfl ⟨rfl, rfl, Nat.le_of_ble_eq_true rfl, Nat.le_of_ble_eq_true rfl⟩ (Nat.le_of_ble_eq_true rfl) (Nat.zero_le _) (Nat.zero_le _) dX0_say_188 (fun H locs hW => ?_)
            clear hC28
            refine lv_iinc (v := (x4 + (1 : Int32))) (lv' := [(4, .int (x4 + (1 : Int32))), (0, .ref a_t), (1, .ref a_p1), (2, .int p2), (3, .int p3)]) hx hb dX0_say_191 hl (k := 0) rfl rfl (by decide) rfl (fun ls hl => ?_)
            refine lv_goto (tgt := 11) hx hb dX0_say_194 (by decide) ?_
            exact ih4 (x4 + (1 : Int32)) t_heardAs'_9 t_total'_9 (va_up t_chance_limbs'_4 x4.toNatClampNeg t_chance_limbs'_5) (va_up t_chance_limb'_4 x4.toNatClampNeg t_chance_limb'_5) t_heardAs'_10 t_total'_10 t_chance_limbs'_6 t_chance_limb'_6 _ _ _ hF hW (lv_sub hl [0, 1, 2, 3, 4] rfl) hk3
          clear hF
          have hF := hX27
          clear hX27
          refine lv_icmp_ne (tgt := 184) hx hb dX0_say_177 (by decide) (fun c29 => ?_) (fun c29 => ?_)
          · have hF := if_n c29 hF
            refine lv_iconst (v := (0 : Int32)) hx hb dX0_say_184 (by decide) ?_
            cases hF
            exact J26 _ _ _ hW (lv_sub hl [0, 1, 2, 3, 4] rfl)
          · have hF := if_y c29 hF
            refine lv_iconst (v := (1 : Int32)) hx hb dX0_say_180 (by decide) ?_
            refine lv_goto (tgt := 185) hx hb dX0_say_181 (by decide) ?_
            cases hF
            exact J26 _ _ _ hW (lv_sub hl [0, 1, 2, 3, 4] rfl)
        clear hF
        have hF := hX25
        clear hX25
        refine lv_icmp_eq (tgt := 167) hx hb dX0_say_156 (by decide) (fun c30 => ?_) (fun c30 => ?_)
        · have hF := if_y c30 hF
          cases hF
          exact J24 _ _ _ hW (lv_sub hl [0, 1, 2, 3, 4] rfl)
        · have hF := if_n c30 hF
          refine lv_aload_n hx hb dX0_say_159 rfl (lv_at hl 1 rfl) ?_
          refine m_get X hW fdX0_16 0 rfl rfl dX0_say_160 ?_
          refine lv_iload hx hb dX0_say_163 (lv_at hl 0 rfl) ?_
          refine lv_iconst (v := (1 : Int32)) hx hb dX0_say_165 (by decide) ?_
          refine m_iast X hW 2 (k := x4.toNatClampNeg) rfl g6 rfl dX0_say_166 (ws' := (wd_Chances_say E a_t a_t_before a_t_scaled a_t_scaledBelow a_t_heardAs a_t_total a_t_part a_t_chance a_t_below a_t_below_limb a_p1 a_p1_number a_p1_row a_p1_others a_p1_length a_p1_weight a_p1_leastLike a_p1_lipsOf r_t_heardAs r_t_chance r_t_chance_limb p1_words t_heardAs'_9 (upd t_total'_8 x4.toNatClampNeg (1 : Int32)) t_part t_chance_limb'_4 t_chance_limbs'_4 t_below_limbs t_below_limb p1_words p1_rowLips p1_girlKnows p1_length p1_weight p1_leastLike p1_lipsOf)) rfl (fun H locs hW => ?_)
          cases hF
          exact J24 _ _ _ hW (lv_sub hl [0, 1, 2, 3, 4] rfl)
  refine L1 N (0 : Int32) t_heardAs t_total t_chance_limbs t_chance_limb t_heardAs'_10 t_total'_10 t_chance_limbs'_6 t_chance_limb'_6 _ _ _ hX2 hW (lv_sub hl [0, 1, 2, 3, 4] rfl) ?_
  intro H locs ls hW hl
  clear L1
  refine lv_aload_n hx hb dX0_say_197 rfl (lv_at hl 0 rfl) ?_
  refine m_get X hW fdX0_33 0 rfl rfl dX0_say_198 ?_
  refine lv_iconst (v := (1 : Int32)) hx hb dX0_say_201 (by decide) ?_
  obtain ⟨t_below_limbs'_2, t_below_limb'_2, hC31, hF⟩ := bO_s2 hF
  refine m_callV X hW hA hl.1 lkX0_64 (c_Natural_put l E _ N a_t_below a_t_below_limb t_below_limbs t_below_limb (1 : Int32) (t_below_limbs'_2, t_below_limb'_2) hC31) ([5, 6]) (by decide) rfl rfl (ws' := (wd_Chances_say E a_t a_t_before a_t_scaled a_t_scaledBelow a_t_heardAs a_t_total a_t_part a_t_chance a_t_below a_t_below_limb a_p1 a_p1_number a_p1_row a_p1_others a_p1_length a_p1_weight a_p1_leastLike a_p1_lipsOf r_t_heardAs r_t_chance r_t_chance_limb p1_words t_heardAs'_10 t_total'_10 t_part t_chance_limb'_6 t_chance_limbs'_6 t_below_limbs'_2 t_below_limb'_2 p1_words p1_rowLips p1_girlKnows p1_length p1_weight p1_leastLike p1_lipsOf)) rfl 5 rfl rfl rfl (As := [.int (1 : Int32)]) (rest := []) rfl rfl ⟨rfl, rfl, Nat.le_of_ble_eq_true rfl, Nat.le_of_ble_eq_true rfl⟩ (Nat.le_of_ble_eq_true rfl) (Nat.zero_le _) (Nat.zero_le _) dX0_say_202 (fun H locs hW => ?_)
  clear hC31
  refine lv_aload_n hx hb dX0_say_205 rfl (lv_at hl 0 rfl) ?_
  obtain ⟨t_part'_2, hC32, hF⟩ := bO_s1 hF
  refine m_callV X hW hA hl.1 lkX0_68 (c_Chances_findParts l E _ N a_t a_t_heardAs a_t_chance a_t_before a_t_below a_t_scaled a_t_scaledBelow a_t_total a_t_part p1_words t_total'_10 t_part  t_part'_2 hC32) ([0, 2, 3]) (by decide) rfl rfl (ws' := (wd_Chances_say E a_t a_t_before a_t_scaled a_t_scaledBelow a_t_heardAs a_t_total a_t_part a_t_chance a_t_below a_t_below_limb a_p1 a_p1_number a_p1_row a_p1_others a_p1_length a_p1_weight a_p1_leastLike a_p1_lipsOf r_t_heardAs r_t_chance r_t_chance_limb p1_words t_heardAs'_10 t_total'_10 t_part'_2 t_chance_limb'_6 t_chance_limbs'_6 t_below_limbs'_2 t_below_limb'_2 p1_words p1_rowLips p1_girlKnows p1_length p1_weight p1_leastLike p1_lipsOf)) rfl 0 rfl rfl rfl (As := []) (rest := []) rfl rfl ⟨rfl, rfl, Nat.le_of_ble_eq_true rfl, Nat.le_of_ble_eq_true rfl⟩ (Nat.le_of_ble_eq_true rfl) (Nat.zero_le _) (Nat.zero_le _) dX0_say_206 (fun H locs hW => ?_)
  clear hC32
  have hq := Option.some.inj hF
  subst hq
  exact hret _ _ _ _ hW dX0_say_209
abbrev wd_Natural_copyFrom (E : m_E) (a_t : Nat) (a_t_limb : Nat) (a_p1 : Nat) (a_p1_limb : Nat) (t_limbs : Int32) (t_limb : Nat → Int32) (p1_limbs : Int32) (p1_limb : Nat → Int32) : va_W := [(a_t, .inr (4, [.ref a_t_limb, .int t_limbs])), (a_t_limb, .inl (E.2.1 0, 40, .inl t_limb)), (a_p1, .inr (4, [.ref a_p1_limb, .int p1_limbs])), (a_p1_limb, .inl (E.2.1 0, 40, .inl p1_limb))]
def rm_Natural_copyFrom : Room := { frames := 1, cells := 0, slots := 0, locals := 26 }
set_option maxHeartbeats 4000000 in
set_option maxRecDepth 100000 in
theorem c_Natural_copyFrom (l : Launch) (E : m_E) (sz N : Nat) (a_t : Nat) (a_t_limb : Nat) (a_p1 : Nat) (a_p1_limb : Nat) (t_limbs : Int32) (t_limb : Nat → Int32) (p1_limbs : Int32) (p1_limb : Nat → Int32)  (ures : Int32 × (Nat → Int32)) (hF : F_Natural_copyFrom t_limb p1_limbs p1_limb = some ures) : m_Met l yX4_copyFrom cX4_copyFrom 2 none rm_Natural_copyFrom E (wd_Natural_copyFrom E a_t a_t_limb a_p1 a_p1_limb t_limbs t_limb p1_limbs p1_limb) (wd_Natural_copyFrom E a_t a_t_limb a_p1 a_p1_limb ures.1 ures.2 p1_limbs p1_limb) sz [.ref a_t, .ref a_p1] none := by
  refine m_ofV (by decide) (Nat.le_of_ble_eq_true rfl) ?_
  intro p e s m args below meth c A Q ls X hW hA hl hret
  obtain ⟨hx, hb, -, hown, hts, hK, -, hG⟩ := id X
  have hl : lv_has ls 2 [(0, .ref a_t), (1, .ref a_p1)] := hl
  unfold F_Natural_copyFrom at hF
  refine lv_aload_n hx hb dX4_copyFrom_0 rfl (lv_at hl 1 rfl) ?_
  refine m_get X hW fdX4_11 2 rfl rfl dX4_copyFrom_1 ?_
  refine lv_iconst (v := (0 : Int32)) hx hb dX4_copyFrom_4 (by decide) ?_
  refine lv_aload_n hx hb dX4_copyFrom_5 rfl (lv_at hl 0 rfl) ?_
  refine m_get X hW fdX4_11 0 rfl rfl dX4_copyFrom_6 ?_
  refine lv_iconst (v := (0 : Int32)) hx hb dX4_copyFrom_9 (by decide) ?_
  refine lv_aload_n hx hb dX4_copyFrom_10 rfl (lv_at hl 1 rfl) ?_
  refine m_get X hW fdX4_15 2 rfl rfl dX4_copyFrom_11 ?_
  obtain ⟨g1, hF⟩ := gd_some hF
  refine m_copyi X hW hl.1 wk_732 wk_734 wk_733 wk_16 3 1 rfl rfl g1 rfl rfl rfl (Nat.le_of_ble_eq_true rfl) (Nat.le_of_ble_eq_true rfl) dX4_copyFrom_14 (ws' := (wd_Natural_copyFrom E a_t a_t_limb a_p1 a_p1_limb t_limbs (va_cpy p1_limb t_limb 0 0 p1_limbs.toNatClampNeg) p1_limbs p1_limb)) (ksp := 0) (kdp := 0) (kn := p1_limbs.toNatClampNeg) rfl (fun H locs hW => ?_)
  refine lv_aload_n hx hb dX4_copyFrom_17 rfl (lv_at hl 0 rfl) ?_
  refine lv_aload_n hx hb dX4_copyFrom_18 rfl (lv_at hl 1 rfl) ?_
  refine m_get X hW fdX4_15 2 rfl rfl dX4_copyFrom_19 ?_
  refine m_putf X hW fdX4_15 0 rfl (Nat.le_of_ble_eq_true rfl) rfl rfl dX4_copyFrom_22 (ws' := (wd_Natural_copyFrom E a_t a_t_limb a_p1 a_p1_limb p1_limbs (va_cpy p1_limb t_limb 0 0 p1_limbs.toNatClampNeg) p1_limbs p1_limb)) rfl (fun H locs hW => ?_)
  have hq := Option.some.inj hF
  subst hq
  exact hret _ _ _ _ hW dX4_copyFrom_25
abbrev wd_Natural_multiply (E : m_E) (a_t : Nat) (a_t_limb : Nat) (t_limbs : Int32) (t_limb : Nat → Int32) : va_W := [(a_t, .inr (4, [.ref a_t_limb, .int t_limbs])), (a_t_limb, .inl (E.2.1 0, 40, .inl t_limb))]
def rm_Natural_multiply : Room := { frames := 0, cells := 0, slots := 0, locals := 0 }
set_option maxHeartbeats 4000000 in
set_option maxRecDepth 100000 in
theorem c_Natural_multiply (l : Launch) (E : m_E) (sz N : Nat) (a_t : Nat) (a_t_limb : Nat) (t_limbs : Int32) (t_limb : Nat → Int32) (p1 : Int32) (ures : Int32 × (Nat → Int32)) (hF : F_Natural_multiply N p1 t_limbs t_limb = some ures) : m_Met l yX4_multiply cX4_multiply 5 none rm_Natural_multiply E (wd_Natural_multiply E a_t a_t_limb t_limbs t_limb) (wd_Natural_multiply E a_t a_t_limb ures.1 ures.2) sz [.ref a_t, .int p1] none := by
  refine m_ofV (by decide) (Nat.le_of_ble_eq_true rfl) ?_
  intro p e s m args below meth c A Q ls X hW hA hl hret
  obtain ⟨hx, hb, -, hown, hts, hK, -, hG⟩ := id X
  have hl : lv_has ls 5 [(0, .ref a_t), (1, .int p1)] := hl
  unfold F_Natural_multiply at hF
  refine lv_lconst (v := (0 : Int64)) hx hb dX4_multiply_0 (by decide) ?_
  refine lv_lstore_n (lv' := [(2, .long (0 : Int64)), (0, .ref a_t), (1, .int p1)]) hx hb dX4_multiply_1 rfl hl (by decide) rfl (fun ls hl => ?_)
  refine lv_iconst (v := (0 : Int32)) hx hb dX4_multiply_2 (by decide) ?_
  refine lv_istore (lv' := [(4, .int (0 : Int32)), (2, .long (0 : Int64)), (0, .ref a_t), (1, .int p1)]) hx hb dX4_multiply_3 hl (by decide) rfl (fun ls hl => ?_)
  obtain ⟨x2_2, t_limb'_4, hX2, hF⟩ := bO_s2 hF
  have L1 : ∀ (k0 : Nat) (x2 : Int64) (x4 : Int32) (t_limb'_3 : Nat → Int32) (x2_2 : Int64) (t_limb'_4 : Nat → Int32) (H : Heap) (locs : List Loc) (ls : Array Slot), Natural_multiply_L5 t_limbs p1 k0 x2 x4 t_limb'_3 = some (x2_2, t_limb'_4) → m_H E A (wd_Natural_multiply E a_t a_t_limb t_limbs t_limb'_3) s.heap H locs → lv_has ls 5 [(4, .int x4), (2, .long x2), (0, .ref a_t), (1, .int p1)] → (∀ (H : Heap) (locs : List Loc) (ls : Array Slot), m_H E A (wd_Natural_multiply E a_t a_t_limb t_limbs t_limb'_4) s.heap H locs → lv_has ls 5 [(2, .long x2_2), (0, .ref a_t)] → W p l e rm_Natural_multiply s m args below meth c H locs 0 0 Q (F0 m 52 ls [])) → W p l e rm_Natural_multiply s m args below meth c H locs 0 0 Q (F0 m 5 ls []) := by
    clear hF
    intro k0
    induction k0 with
    | zero =>
      intro x2 x4 t_limb'_3 x2_2 t_limb'_4 H locs ls hF
      cases hF
    | succ k0 ih4 =>
      intro x2 x4 t_limb'_3 x2_2 t_limb'_4 H locs ls hF hW hl hk3
      rw [Natural_multiply_L5] at hF
      refine lv_iload hx hb dX4_multiply_5 (lv_at hl 0 rfl) ?_
      refine lv_aload_n hx hb dX4_multiply_7 rfl (lv_at hl 2 rfl) ?_
      refine m_get X hW fdX4_15 0 rfl rfl dX4_multiply_8 ?_
      refine lv_icmp_ge (tgt := 52) hx hb dX4_multiply_11 (by decide) (fun c5 => ?_) (fun c5 => ?_)
      · have hF := if_y c5 hF
        cases hF
        exact hk3 _ _ _ hW (lv_sub hl [1, 2] rfl)
      · have hF := if_n c5 hF
        refine lv_lload_n hx hb dX4_multiply_14 rfl (lv_at hl 1 rfl) ?_
        refine lv_aload_n hx hb dX4_multiply_15 rfl (lv_at hl 2 rfl) ?_
        refine m_get X hW fdX4_11 0 rfl rfl dX4_multiply_16 ?_
        refine lv_iload hx hb dX4_multiply_19 (lv_at hl 0 rfl) ?_
        obtain ⟨g6, hF⟩ := gd_some hF
        refine m_iald X hW 1 (k := x4.toNatClampNeg) rfl g6 rfl dX4_multiply_21 ?_
        refine lv_i2l (v := (t_limb'_3 x4.toNatClampNeg).toInt64) hx hb dX4_multiply_22 rfl ?_
        refine lv_iload_n hx hb dX4_multiply_23 rfl (lv_at hl 3 rfl) ?_
        refine lv_i2l (v := p1.toInt64) hx hb dX4_multiply_24 rfl ?_
        refine lv_lmul hx hb dX4_multiply_25 ?_
        refine lv_ladd hx hb dX4_multiply_26 ?_
        refine lv_lstore_n (lv' := [(2, .long (x2 + ((t_limb'_3 x4.toNatClampNeg).toInt64 * p1.toInt64))), (4, .int x4), (0, .ref a_t), (1, .int p1)]) hx hb dX4_multiply_27 rfl hl (by decide) rfl (fun ls hl => ?_)
        refine lv_aload_n hx hb dX4_multiply_28 rfl (lv_at hl 2 rfl) ?_
        refine m_get X hW fdX4_11 0 rfl rfl dX4_multiply_29 ?_
        refine lv_iload hx hb dX4_multiply_32 (lv_at hl 1 rfl) ?_
        refine lv_lload_n hx hb dX4_multiply_34 rfl (lv_at hl 0 rfl) ?_
        refine lv_ldc2 (v := (1073741823 : Int64)) hx hb hown (hts _ wk_747) dX4_multiply_35 ?_
        refine lv_land hx hb dX4_multiply_38 ?_
        refine lv_l2i (v := ((x2 + ((t_limb'_3 x4.toNatClampNeg).toInt64 * p1.toInt64)) &&& (1073741823 : Int64)).toInt32) hx hb dX4_multiply_39 rfl ?_
        refine m_iast X hW 1 (k := x4.toNatClampNeg) rfl g6 rfl dX4_multiply_40 (ws' := (wd_Natural_multiply E a_t a_t_limb t_limbs (upd t_limb'_3 x4.toNatClampNeg ((x2 + ((t_limb'_3 x4.toNatClampNeg).toInt64 * p1.toInt64)) &&& (1073741823 : Int64)).toInt32))) rfl (fun H locs hW => ?_)
        refine lv_lload_n hx hb dX4_multiply_41 rfl (lv_at hl 0 rfl) ?_
        refine lv_bipush (v := (30 : Int32)) hx hb dX4_multiply_42 (by decide) ?_
        refine m_lshr hx hb dX4_multiply_44 ?_
        refine lv_lstore_n (lv' := [(2, .long (jshrL (x2 + ((t_limb'_3 x4.toNatClampNeg).toInt64 * p1.toInt64)) (30 : Int32))), (4, .int x4), (0, .ref a_t), (1, .int p1)]) hx hb dX4_multiply_45 rfl hl (by decide) rfl (fun ls hl => ?_)
        refine lv_iinc (v := (x4 + (1 : Int32))) (lv' := [(4, .int (x4 + (1 : Int32))), (2, .long (jshrL (x2 + ((t_limb'_3 x4.toNatClampNeg).toInt64 * p1.toInt64)) (30 : Int32))), (0, .ref a_t), (1, .int p1)]) hx hb dX4_multiply_46 hl (k := 1) rfl rfl (by decide) rfl (fun ls hl => ?_)
        refine lv_goto (tgt := 5) hx hb dX4_multiply_49 (by decide) ?_
        exact ih4 (jshrL (x2 + ((t_limb'_3 x4.toNatClampNeg).toInt64 * p1.toInt64)) (30 : Int32)) (x4 + (1 : Int32)) (upd t_limb'_3 x4.toNatClampNeg ((x2 + ((t_limb'_3 x4.toNatClampNeg).toInt64 * p1.toInt64)) &&& (1073741823 : Int64)).toInt32) x2_2 t_limb'_4 _ _ _ hF hW (lv_sub hl [0, 1, 2, 3] rfl) hk3
  refine L1 N (0 : Int64) (0 : Int32) t_limb x2_2 t_limb'_4 _ _ _ hX2 hW (lv_sub hl [0, 1, 2, 3] rfl) ?_
  intro H locs ls hW hl
  clear L1
  refine lv_lload_n hx hb dX4_multiply_52 rfl (lv_at hl 0 rfl) ?_
  refine lv_lconst (v := (0 : Int64)) hx hb dX4_multiply_53 (by decide) ?_
  refine W.lcmp hx hb dX4_multiply_54 ?_
  refine lv_if_le (tgt := 88) hx hb dX4_multiply_55 (by decide) (fun c7 => ?_) (fun c7 => ?_)
  · have hF := if_y c7 hF
    have hq := Option.some.inj hF
    subst hq
    exact hret _ _ _ _ hW dX4_multiply_88
  · have hF := if_n c7 hF
    refine lv_aload_n hx hb dX4_multiply_58 rfl (lv_at hl 1 rfl) ?_
    refine m_get X hW fdX4_15 0 rfl rfl dX4_multiply_59 ?_
    refine lv_bipush (v := (40 : Int32)) hx hb dX4_multiply_62 (by decide) ?_
    refine lv_icmp_ge (tgt := 88) hx hb dX4_multiply_64 (by decide) (fun c8 => ?_) (fun c8 => ?_)
    · have hF := if_y c8 hF
      have hq := Option.some.inj hF
      subst hq
      exact hret _ _ _ _ hW dX4_multiply_88
    · have hF := if_n c8 hF
      refine lv_aload_n hx hb dX4_multiply_67 rfl (lv_at hl 1 rfl) ?_
      refine m_get X hW fdX4_11 0 rfl rfl dX4_multiply_68 ?_
      refine lv_aload_n hx hb dX4_multiply_71 rfl (lv_at hl 1 rfl) ?_
      refine m_get X hW fdX4_15 0 rfl rfl dX4_multiply_72 ?_
      refine lv_lload_n hx hb dX4_multiply_75 rfl (lv_at hl 0 rfl) ?_
      refine lv_l2i (v := x2_2.toInt32) hx hb dX4_multiply_76 rfl ?_
      obtain ⟨g9, hF⟩ := gd_some hF
      refine m_iast X hW 1 (k := t_limbs.toNatClampNeg) rfl g9 rfl dX4_multiply_77 (ws' := (wd_Natural_multiply E a_t a_t_limb t_limbs (upd t_limb'_4 t_limbs.toNatClampNeg x2_2.toInt32))) rfl (fun H locs hW => ?_)
      refine lv_aload_n hx hb dX4_multiply_78 rfl (lv_at hl 1 rfl) ?_
      refine lv_dup hx hb dX4_multiply_79 rfl ?_
      refine m_get X hW fdX4_15 0 rfl rfl dX4_multiply_80 ?_
      refine lv_iconst (v := (1 : Int32)) hx hb dX4_multiply_83 (by decide) ?_
      refine lv_iadd hx hb dX4_multiply_84 ?_
      refine m_putf X hW fdX4_15 0 rfl (Nat.le_of_ble_eq_true rfl) rfl rfl dX4_multiply_85 (ws' := (wd_Natural_multiply E a_t a_t_limb (t_limbs + (1 : Int32)) (upd t_limb'_4 t_limbs.toNatClampNeg x2_2.toInt32))) rfl (fun H locs hW => ?_)
      have hq := Option.some.inj hF
      subst hq
      exact hret _ _ _ _ hW dX4_multiply_88
abbrev wd_Chances_multiplyByParts (E : m_E) (a_t : Nat) (a_t_heardAs : Nat) (a_t_total : Nat) (a_t_chance : Nat) (a_t_before : Nat) (a_t_below : Nat) (a_t_scaled : Nat) (a_t_scaledBelow : Nat) (a_t_part : Nat) (a_p1 : Nat) (a_p1_limb : Nat) (t_words : Int32) (t_part : Nat → Int32) (p1_limbs : Int32) (p1_limb : Nat → Int32) : va_W := [(a_t, .inr (0, [.ref a_t_heardAs, .ref a_t_total, .ref a_t_part, .ref a_t_chance, .ref a_t_before, .ref a_t_below, .ref a_t_scaled, .ref a_t_scaledBelow, .int t_words])), (a_t_part, .inl (E.2.1 0, 10, .inl t_part)), (a_p1, .inr (4, [.ref a_p1_limb, .int p1_limbs])), (a_p1_limb, .inl (E.2.1 0, 40, .inl p1_limb))]
def rm_Chances_multiplyByParts : Room := { frames := 1, cells := 0, slots := 0, locals := 24 }
set_option maxHeartbeats 4000000 in
set_option maxRecDepth 100000 in
theorem c_Chances_multiplyByParts (l : Launch) (E : m_E) (sz N : Nat) (a_t : Nat) (a_t_heardAs : Nat) (a_t_total : Nat) (a_t_chance : Nat) (a_t_before : Nat) (a_t_below : Nat) (a_t_scaled : Nat) (a_t_scaledBelow : Nat) (a_t_part : Nat) (a_p1 : Nat) (a_p1_limb : Nat) (t_words : Int32) (t_part : Nat → Int32) (p1_limbs : Int32) (p1_limb : Nat → Int32)  (ures : Int32 × (Nat → Int32)) (hF : F_Chances_multiplyByParts N t_words t_part p1_limbs p1_limb = some ures) : m_Met l yX0_multiplyByParts cX0_multiplyByParts 3 none rm_Chances_multiplyByParts E (wd_Chances_multiplyByParts E a_t a_t_heardAs a_t_total a_t_chance a_t_before a_t_below a_t_scaled a_t_scaledBelow a_t_part a_p1 a_p1_limb t_words t_part p1_limbs p1_limb) (wd_Chances_multiplyByParts E a_t a_t_heardAs a_t_total a_t_chance a_t_before a_t_below a_t_scaled a_t_scaledBelow a_t_part a_p1 a_p1_limb t_words t_part ures.1 ures.2) sz [.ref a_t, .ref a_p1] none := by
  refine m_ofV (by decide) (Nat.le_of_ble_eq_true rfl) ?_
  intro p e s m args below meth c A Q ls X hW hA hl hret
  obtain ⟨hx, hb, -, hown, hts, hK, -, hG⟩ := id X
  have hl : lv_has ls 3 [(0, .ref a_t), (1, .ref a_p1)] := hl
  unfold F_Chances_multiplyByParts at hF
  refine lv_iconst (v := (0 : Int32)) hx hb dX0_multiplyByParts_0 (by decide) ?_
  refine lv_istore_n (lv' := [(2, .int (0 : Int32)), (0, .ref a_t), (1, .ref a_p1)]) hx hb dX0_multiplyByParts_1 rfl hl (by decide) rfl (fun ls hl => ?_)
  obtain ⟨p1_limb'_6, p1_limbs'_6, hX2, hF⟩ := bO_s2 hF
  have L1 : ∀ (k0 : Nat) (x2 : Int32) (p1_limb'_4 : Nat → Int32) (p1_limbs'_4 : Int32) (p1_limb'_6 : Nat → Int32) (p1_limbs'_6 : Int32) (H : Heap) (locs : List Loc) (ls : Array Slot), Chances_multiplyByParts_L2 N t_words t_part k0 x2 p1_limb'_4 p1_limbs'_4 = some (p1_limb'_6, p1_limbs'_6) → m_H E A (wd_Chances_multiplyByParts E a_t a_t_heardAs a_t_total a_t_chance a_t_before a_t_below a_t_scaled a_t_scaledBelow a_t_part a_p1 a_p1_limb t_words t_part p1_limbs'_4 p1_limb'_4) s.heap H locs → lv_has ls 3 [(2, .int x2), (0, .ref a_t), (1, .ref a_p1)] → (∀ (H : Heap) (locs : List Loc) (ls : Array Slot), m_H E A (wd_Chances_multiplyByParts E a_t a_t_heardAs a_t_total a_t_chance a_t_before a_t_below a_t_scaled a_t_scaledBelow a_t_part a_p1 a_p1_limb t_words t_part p1_limbs'_6 p1_limb'_6) s.heap H locs → lv_has ls 3 [] → W p l e rm_Chances_multiplyByParts s m args below meth c H locs 0 0 Q (F0 m 36 ls [])) → W p l e rm_Chances_multiplyByParts s m args below meth c H locs 0 0 Q (F0 m 2 ls []) := by
    clear hF
    intro k0
    induction k0 with
    | zero =>
      intro x2 p1_limb'_4 p1_limbs'_4 p1_limb'_6 p1_limbs'_6 H locs ls hF
      cases hF
    | succ k0 ih4 =>
      intro x2 p1_limb'_4 p1_limbs'_4 p1_limb'_6 p1_limbs'_6 H locs ls hF hW hl hk3
      rw [Chances_multiplyByParts_L2] at hF
      refine lv_iload_n hx hb dX0_multiplyByParts_2 rfl (lv_at hl 0 rfl) ?_
      refine lv_aload_n hx hb dX0_multiplyByParts_3 rfl (lv_at hl 1 rfl) ?_
      refine m_get X hW fdX0_47 0 rfl rfl dX0_multiplyByParts_4 ?_
      refine lv_icmp_ge (tgt := 36) hx hb dX0_multiplyByParts_7 (by decide) (fun c5 => ?_) (fun c5 => ?_)
      · have hF := if_y c5 hF
        cases hF
        exact hk3 _ _ _ hW (lv_sub hl [] rfl)
      · have hF := if_n c5 hF
        refine lv_aload_n hx hb dX0_multiplyByParts_10 rfl (lv_at hl 1 rfl) ?_
        refine m_get X hW fdX0_20 0 rfl rfl dX0_multiplyByParts_11 ?_
        refine lv_iload_n hx hb dX0_multiplyByParts_14 rfl (lv_at hl 0 rfl) ?_
        obtain ⟨g6, hF⟩ := gd_some hF
        refine m_iald X hW 1 (k := x2.toNatClampNeg) rfl g6 rfl dX0_multiplyByParts_15 ?_
        refine lv_iconst (v := (1 : Int32)) hx hb dX0_multiplyByParts_16 (by decide) ?_
        refine lv_icmp_le (tgt := 30) hx hb dX0_multiplyByParts_17 (by decide) (fun c7 => ?_) (fun c7 => ?_)
        · have hF := if_y c7 hF
          refine lv_iinc (v := (x2 + (1 : Int32))) (lv' := [(2, .int (x2 + (1 : Int32))), (0, .ref a_t), (1, .ref a_p1)]) hx hb dX0_multiplyByParts_30 hl (k := 0) rfl rfl (by decide) rfl (fun ls hl => ?_)
          refine lv_goto (tgt := 2) hx hb dX0_multiplyByParts_33 (by decide) ?_
          exact ih4 (x2 + (1 : Int32)) p1_limb'_4 p1_limbs'_4 p1_limb'_6 p1_limbs'_6 _ _ _ hF hW (lv_sub hl [0, 1, 2] rfl) hk3
        · have hF := if_n c7 hF
          refine lv_aload_n hx hb dX0_multiplyByParts_20 rfl (lv_at hl 2 rfl) ?_
          refine lv_aload_n hx hb dX0_multiplyByParts_21 rfl (lv_at hl 1 rfl) ?_
          refine m_get X hW fdX0_20 0 rfl rfl dX0_multiplyByParts_22 ?_
          refine lv_iload_n hx hb dX0_multiplyByParts_25 rfl (lv_at hl 0 rfl) ?_
          refine m_iald X hW 1 (k := x2.toNatClampNeg) rfl g6 rfl dX0_multiplyByParts_26 ?_
          obtain ⟨p1_limbs'_5, p1_limb'_5, hC8, hF⟩ := bO_s2 hF
          refine m_callV X hW hA hl.1 lkX0_94 (c_Natural_multiply l E _ N a_p1 a_p1_limb p1_limbs'_4 p1_limb'_4 (t_part x2.toNatClampNeg) (p1_limbs'_5, p1_limb'_5) hC8) ([2, 3]) (by decide) rfl rfl (ws' := (wd_Chances_multiplyByParts E a_t a_t_heardAs a_t_total a_t_chance a_t_before a_t_below a_t_scaled a_t_scaledBelow a_t_part a_p1 a_p1_limb t_words t_part p1_limbs'_5 p1_limb'_5)) rfl 2 rfl rfl rfl (As := [.int (t_part x2.toNatClampNeg)]) (rest := []) rfl rfl ⟨rfl, rfl, Nat.le_of_ble_eq_true rfl, Nat.le_of_ble_eq_true rfl⟩ (Nat.le_of_ble_eq_true rfl) (Nat.zero_le _) (Nat.zero_le _) dX0_multiplyByParts_27 (fun H locs hW => ?_)
          clear hC8
          refine lv_iinc (v := (x2 + (1 : Int32))) (lv' := [(2, .int (x2 + (1 : Int32))), (0, .ref a_t), (1, .ref a_p1)]) hx hb dX0_multiplyByParts_30 hl (k := 0) rfl rfl (by decide) rfl (fun ls hl => ?_)
          refine lv_goto (tgt := 2) hx hb dX0_multiplyByParts_33 (by decide) ?_
          exact ih4 (x2 + (1 : Int32)) p1_limb'_5 p1_limbs'_5 p1_limb'_6 p1_limbs'_6 _ _ _ hF hW (lv_sub hl [0, 1, 2] rfl) hk3
  refine L1 N (0 : Int32) p1_limb p1_limbs p1_limb'_6 p1_limbs'_6 _ _ _ hX2 hW (lv_sub hl [0, 1, 2] rfl) ?_
  intro H locs ls hW hl
  clear L1
  have hq := Option.some.inj hF
  subst hq
  exact hret _ _ _ _ hW dX0_multiplyByParts_36
abbrev wd_Natural_trim (E : m_E) (a_t : Nat) (a_t_limb : Nat) (t_limbs : Int32) (t_limb : Nat → Int32) : va_W := [(a_t, .inr (4, [.ref a_t_limb, .int t_limbs])), (a_t_limb, .inl (E.2.1 0, 40, .inl t_limb))]
def rm_Natural_trim : Room := { frames := 0, cells := 0, slots := 0, locals := 0 }
set_option maxHeartbeats 4000000 in
set_option maxRecDepth 100000 in
theorem c_Natural_trim (l : Launch) (E : m_E) (sz N : Nat) (a_t : Nat) (a_t_limb : Nat) (t_limbs : Int32) (t_limb : Nat → Int32)  (ures : Int32) (hF : F_Natural_trim N t_limbs t_limb = some ures) : m_Met l yX4_trim cX4_trim 2 none rm_Natural_trim E (wd_Natural_trim E a_t a_t_limb t_limbs t_limb) (wd_Natural_trim E a_t a_t_limb ures t_limb) sz [.ref a_t] none := by
  refine m_ofV (by decide) (Nat.le_of_ble_eq_true rfl) ?_
  intro p e s m args below meth c A Q ls X hW hA hl hret
  obtain ⟨hx, hb, -, hown, hts, hK, -, hG⟩ := id X
  have hl : lv_has ls 2 [(0, .ref a_t)] := hl
  unfold F_Natural_trim at hF
  refine lv_aload_n hx hb dX4_trim_0 rfl (lv_at hl 0 rfl) ?_
  refine m_get X hW fdX4_15 0 rfl rfl dX4_trim_1 ?_
  refine lv_iconst (v := (1 : Int32)) hx hb dX4_trim_4 (by decide) ?_
  refine lv_isub hx hb dX4_trim_5 ?_
  refine lv_istore_n (lv' := [(1, .int (t_limbs - (1 : Int32))), (0, .ref a_t)]) hx hb dX4_trim_6 rfl hl (by decide) rfl (fun ls hl => ?_)
  obtain ⟨t_limbs'_4, hX2, hF⟩ := bO_s1 hF
  have L1 : ∀ (k0 : Nat) (x1 : Int32) (t_limbs'_3 : Int32) (t_limbs'_4 : Int32) (H : Heap) (locs : List Loc) (ls : Array Slot), Natural_trim_L7 t_limb k0 x1 t_limbs'_3 = some t_limbs'_4 → m_H E A (wd_Natural_trim E a_t a_t_limb t_limbs'_3 t_limb) s.heap H locs → lv_has ls 2 [(1, .int x1), (0, .ref a_t)] → (∀ (H : Heap) (locs : List Loc) (ls : Array Slot), m_H E A (wd_Natural_trim E a_t a_t_limb t_limbs'_4 t_limb) s.heap H locs → lv_has ls 2 [] → W p l e rm_Natural_trim s m args below meth c H locs 0 0 Q (F0 m 31 ls [])) → W p l e rm_Natural_trim s m args below meth c H locs 0 0 Q (F0 m 7 ls []) := by
    clear hF
    intro k0
    induction k0 with
    | zero =>
      intro x1 t_limbs'_3 t_limbs'_4 H locs ls hF
      cases hF
    | succ k0 ih4 =>
      intro x1 t_limbs'_3 t_limbs'_4 H locs ls hF hW hl hk3
      rw [Natural_trim_L7] at hF
      refine lv_iload_n hx hb dX4_trim_7 rfl (lv_at hl 0 rfl) ?_
      refine lv_if_lt (tgt := 31) hx hb dX4_trim_8 (by decide) (fun c5 => ?_) (fun c5 => ?_)
      · have hF := if_y c5 hF
        cases hF
        exact hk3 _ _ _ hW (lv_sub hl [] rfl)
      · have hF := if_n c5 hF
        refine lv_aload_n hx hb dX4_trim_11 rfl (lv_at hl 1 rfl) ?_
        refine m_get X hW fdX4_11 0 rfl rfl dX4_trim_12 ?_
        refine lv_iload_n hx hb dX4_trim_15 rfl (lv_at hl 0 rfl) ?_
        obtain ⟨g6, hF⟩ := gd_some hF
        refine m_iald X hW 1 (k := x1.toNatClampNeg) rfl g6 rfl dX4_trim_16 ?_
        refine lv_if_ne (tgt := 31) hx hb dX4_trim_17 (by decide) (fun c7 => ?_) (fun c7 => ?_)
        · have hF := if_n c7 hF
          cases hF
          exact hk3 _ _ _ hW (lv_sub hl [] rfl)
        · have hF := if_y c7 hF
          refine lv_aload_n hx hb dX4_trim_20 rfl (lv_at hl 1 rfl) ?_
          refine lv_iload_n hx hb dX4_trim_21 rfl (lv_at hl 0 rfl) ?_
          refine m_putf X hW fdX4_15 0 rfl (Nat.le_of_ble_eq_true rfl) rfl rfl dX4_trim_22 (ws' := (wd_Natural_trim E a_t a_t_limb x1 t_limb)) rfl (fun H locs hW => ?_)
          refine lv_iinc (v := (x1 + (-1 : Int32))) (lv' := [(1, .int (x1 + (-1 : Int32))), (0, .ref a_t)]) hx hb dX4_trim_25 hl (k := 0) rfl rfl (by decide) rfl (fun ls hl => ?_)
          refine lv_goto (tgt := 7) hx hb dX4_trim_28 (by decide) ?_
          exact ih4 (x1 + (-1 : Int32)) x1 t_limbs'_4 _ _ _ hF hW (lv_sub hl [0, 1] rfl) hk3
  refine L1 N (t_limbs - (1 : Int32)) t_limbs t_limbs'_4 _ _ _ hX2 hW (lv_sub hl [0, 1] rfl) ?_
  intro H locs ls hW hl
  clear L1
  have hq := Option.some.inj hF
  subst hq
  exact hret _ _ _ _ hW dX4_trim_31
abbrev wd_Natural_divide (E : m_E) (a_t : Nat) (a_t_limb : Nat) (t_limbs : Int32) (t_limb : Nat → Int32) : va_W := [(a_t, .inr (4, [.ref a_t_limb, .int t_limbs])), (a_t_limb, .inl (E.2.1 0, 40, .inl t_limb))]
def rm_Natural_divide : Room := { frames := 1, cells := 0, slots := 0, locals := 21 }
set_option maxHeartbeats 4000000 in
set_option maxRecDepth 100000 in
theorem c_Natural_divide (l : Launch) (E : m_E) (sz N : Nat) (a_t : Nat) (a_t_limb : Nat) (t_limbs : Int32) (t_limb : Nat → Int32) (p1 : Int32) (ures : Int32 × (Nat → Int32)) (hF : F_Natural_divide N p1 t_limbs t_limb = some ures) : m_Met l yX4_divide cX4_divide 5 none rm_Natural_divide E (wd_Natural_divide E a_t a_t_limb t_limbs t_limb) (wd_Natural_divide E a_t a_t_limb ures.1 ures.2) sz [.ref a_t, .int p1] none := by
  refine m_ofV (by decide) (Nat.le_of_ble_eq_true rfl) ?_
  intro p e s m args below meth c A Q ls X hW hA hl hret
  obtain ⟨hx, hb, -, hown, hts, hK, -, hG⟩ := id X
  have hl : lv_has ls 5 [(0, .ref a_t), (1, .int p1)] := hl
  unfold F_Natural_divide at hF
  refine lv_iload_n hx hb dX4_divide_0 rfl (lv_at hl 1 rfl) ?_
  refine lv_if_gt (tgt := 5) hx hb dX4_divide_1 (by decide) (fun c1 => ?_) (fun c1 => ?_)
  · have hF := if_y c1 hF
    refine lv_lconst (v := (0 : Int64)) hx hb dX4_divide_5 (by decide) ?_
    refine lv_lstore_n (lv' := [(2, .long (0 : Int64)), (0, .ref a_t), (1, .int p1)]) hx hb dX4_divide_6 rfl hl (by decide) rfl (fun ls hl => ?_)
    refine lv_aload_n hx hb dX4_divide_7 rfl (lv_at hl 1 rfl) ?_
    refine m_get X hW fdX4_15 0 rfl rfl dX4_divide_8 ?_
    refine lv_iconst (v := (1 : Int32)) hx hb dX4_divide_11 (by decide) ?_
    refine lv_isub hx hb dX4_divide_12 ?_
    refine lv_istore (lv' := [(4, .int (t_limbs - (1 : Int32))), (2, .long (0 : Int64)), (0, .ref a_t), (1, .int p1)]) hx hb dX4_divide_13 hl (by decide) rfl (fun ls hl => ?_)
    obtain ⟨t_limb'_4, hX3, hF⟩ := bO_s1 hF
    have L2 : ∀ (k0 : Nat) (x2 : Int64) (x4 : Int32) (t_limb'_3 : Nat → Int32) (t_limb'_4 : Nat → Int32) (H : Heap) (locs : List Loc) (ls : Array Slot), Natural_divide_L15 p1 k0 x2 x4 t_limb'_3 = some t_limb'_4 → m_H E A (wd_Natural_divide E a_t a_t_limb t_limbs t_limb'_3) s.heap H locs → lv_has ls 5 [(4, .int x4), (2, .long x2), (0, .ref a_t), (1, .int p1)] → (∀ (H : Heap) (locs : List Loc) (ls : Array Slot), m_H E A (wd_Natural_divide E a_t a_t_limb t_limbs t_limb'_4) s.heap H locs → lv_has ls 5 [(0, .ref a_t)] → W p l e rm_Natural_divide s m args below meth c H locs 0 0 Q (F0 m 57 ls [])) → W p l e rm_Natural_divide s m args below meth c H locs 0 0 Q (F0 m 15 ls []) := by
      clear hF
      intro k0
      induction k0 with
      | zero =>
        intro x2 x4 t_limb'_3 t_limb'_4 H locs ls hF
        cases hF
      | succ k0 ih5 =>
        intro x2 x4 t_limb'_3 t_limb'_4 H locs ls hF hW hl hk4
        rw [Natural_divide_L15] at hF
        refine lv_iload hx hb dX4_divide_15 (lv_at hl 0 rfl) ?_
        refine lv_if_lt (tgt := 57) hx hb dX4_divide_17 (by decide) (fun c6 => ?_) (fun c6 => ?_)
        · have hF := if_y c6 hF
          cases hF
          exact hk4 _ _ _ hW (lv_sub hl [2] rfl)
        · have hF := if_n c6 hF
          refine lv_lload_n hx hb dX4_divide_20 rfl (lv_at hl 1 rfl) ?_
          refine lv_bipush (v := (30 : Int32)) hx hb dX4_divide_21 (by decide) ?_
          refine m_lshl hx hb dX4_divide_23 ?_
          refine lv_aload_n hx hb dX4_divide_24 rfl (lv_at hl 2 rfl) ?_
          refine m_get X hW fdX4_11 0 rfl rfl dX4_divide_25 ?_
          refine lv_iload hx hb dX4_divide_28 (lv_at hl 0 rfl) ?_
          obtain ⟨g7, hF⟩ := gd_some hF
          refine m_iald X hW 1 (k := x4.toNatClampNeg) rfl g7 rfl dX4_divide_30 ?_
          refine lv_i2l (v := (t_limb'_3 x4.toNatClampNeg).toInt64) hx hb dX4_divide_31 rfl ?_
          refine lv_ladd hx hb dX4_divide_32 ?_
          refine lv_lstore_n (lv' := [(2, .long ((jshlL x2 (30 : Int32)) + (t_limb'_3 x4.toNatClampNeg).toInt64)), (4, .int x4), (0, .ref a_t), (1, .int p1)]) hx hb dX4_divide_33 rfl hl (by decide) rfl (fun ls hl => ?_)
          refine lv_aload_n hx hb dX4_divide_34 rfl (lv_at hl 2 rfl) ?_
          refine m_get X hW fdX4_11 0 rfl rfl dX4_divide_35 ?_
          refine lv_iload hx hb dX4_divide_38 (lv_at hl 1 rfl) ?_
          refine lv_lload_n hx hb dX4_divide_40 rfl (lv_at hl 0 rfl) ?_
          refine lv_iload_n hx hb dX4_divide_41 rfl (lv_at hl 3 rfl) ?_
          refine lv_i2l (v := p1.toInt64) hx hb dX4_divide_42 rfl ?_
          obtain ⟨g8, hF⟩ := gd_some hF
          refine lv_ldiv hx hb dX4_divide_43 (nzL_ne g8) ?_
          refine lv_l2i (v := (((jshlL x2 (30 : Int32)) + (t_limb'_3 x4.toNatClampNeg).toInt64) / p1.toInt64).toInt32) hx hb dX4_divide_44 rfl ?_
          refine m_iast X hW 1 (k := x4.toNatClampNeg) rfl g7 rfl dX4_divide_45 (ws' := (wd_Natural_divide E a_t a_t_limb t_limbs (upd t_limb'_3 x4.toNatClampNeg (((jshlL x2 (30 : Int32)) + (t_limb'_3 x4.toNatClampNeg).toInt64) / p1.toInt64).toInt32))) rfl (fun H locs hW => ?_)
          refine lv_lload_n hx hb dX4_divide_46 rfl (lv_at hl 0 rfl) ?_
          refine lv_iload_n hx hb dX4_divide_47 rfl (lv_at hl 3 rfl) ?_
          refine lv_i2l (v := p1.toInt64) hx hb dX4_divide_48 rfl ?_
          refine m_lrem hx hb dX4_divide_49 (nzL_ne g8) ?_
          refine lv_lstore_n (lv' := [(2, .long (jremL ((jshlL x2 (30 : Int32)) + (t_limb'_3 x4.toNatClampNeg).toInt64) p1.toInt64)), (4, .int x4), (0, .ref a_t), (1, .int p1)]) hx hb dX4_divide_50 rfl hl (by decide) rfl (fun ls hl => ?_)
          refine lv_iinc (v := (x4 + (-1 : Int32))) (lv' := [(4, .int (x4 + (-1 : Int32))), (2, .long (jremL ((jshlL x2 (30 : Int32)) + (t_limb'_3 x4.toNatClampNeg).toInt64) p1.toInt64)), (0, .ref a_t), (1, .int p1)]) hx hb dX4_divide_51 hl (k := 1) rfl rfl (by decide) rfl (fun ls hl => ?_)
          refine lv_goto (tgt := 15) hx hb dX4_divide_54 (by decide) ?_
          exact ih5 (jremL ((jshlL x2 (30 : Int32)) + (t_limb'_3 x4.toNatClampNeg).toInt64) p1.toInt64) (x4 + (-1 : Int32)) (upd t_limb'_3 x4.toNatClampNeg (((jshlL x2 (30 : Int32)) + (t_limb'_3 x4.toNatClampNeg).toInt64) / p1.toInt64).toInt32) t_limb'_4 _ _ _ hF hW (lv_sub hl [0, 1, 2, 3] rfl) hk4
    refine L2 N (0 : Int64) (t_limbs - (1 : Int32)) t_limb t_limb'_4 _ _ _ hX3 hW (lv_sub hl [0, 1, 2, 3] rfl) ?_
    intro H locs ls hW hl
    clear L2
    refine lv_aload_n hx hb dX4_divide_57 rfl (lv_at hl 0 rfl) ?_
    obtain ⟨t_limbs'_2, hC9, hF⟩ := bO_s1 hF
    refine m_callV X hW hA hl.1 lkX4_37 (c_Natural_trim l E _ N a_t a_t_limb t_limbs t_limb'_4  t_limbs'_2 hC9) ([0, 1]) (by decide) rfl rfl (ws' := (wd_Natural_divide E a_t a_t_limb t_limbs'_2 t_limb'_4)) rfl 0 rfl rfl rfl (As := []) (rest := []) rfl rfl ⟨rfl, rfl, Nat.le_of_ble_eq_true rfl, Nat.le_of_ble_eq_true rfl⟩ (Nat.le_of_ble_eq_true rfl) (Nat.zero_le _) (Nat.zero_le _) dX4_divide_58 (fun H locs hW => ?_)
    clear hC9
    have hq := Option.some.inj hF
    subst hq
    exact hret _ _ _ _ hW dX4_divide_61
  · have hF := if_n c1 hF
    have hq := Option.some.inj hF
    subst hq
    exact hret _ _ _ _ hW dX4_divide_4
abbrev wd_Natural_addTimes (E : m_E) (a_t : Nat) (a_t_limb : Nat) (a_p1 : Nat) (a_p1_limb : Nat) (t_limbs : Int32) (t_limb : Nat → Int32) (p1_limbs : Int32) (p1_limb : Nat → Int32) : va_W := [(a_t, .inr (4, [.ref a_t_limb, .int t_limbs])), (a_t_limb, .inl (E.2.1 0, 40, .inl t_limb)), (a_p1, .inr (4, [.ref a_p1_limb, .int p1_limbs])), (a_p1_limb, .inl (E.2.1 0, 40, .inl p1_limb))]
def rm_Natural_addTimes : Room := { frames := 1, cells := 0, slots := 0, locals := 21 }
set_option maxHeartbeats 4000000 in
set_option maxRecDepth 100000 in
theorem c_Natural_addTimes (l : Launch) (E : m_E) (sz N : Nat) (a_t : Nat) (a_t_limb : Nat) (a_p1 : Nat) (a_p1_limb : Nat) (t_limbs : Int32) (t_limb : Nat → Int32) (p1_limbs : Int32) (p1_limb : Nat → Int32) (p2 : Int32) (ures : Int32 × (Nat → Int32)) (hF : F_Natural_addTimes N p2 t_limbs t_limb p1_limbs p1_limb = some ures) : m_Met l yX4_addTimes cX4_addTimes 8 none rm_Natural_addTimes E (wd_Natural_addTimes E a_t a_t_limb a_p1 a_p1_limb t_limbs t_limb p1_limbs p1_limb) (wd_Natural_addTimes E a_t a_t_limb a_p1 a_p1_limb ures.1 ures.2 p1_limbs p1_limb) sz [.ref a_t, .ref a_p1, .int p2] none := by
  refine m_ofV (by decide) (Nat.le_of_ble_eq_true rfl) ?_
  intro p e s m args below meth c A Q ls X hW hA hl hret
  obtain ⟨hx, hb, -, hown, hts, hK, -, hG⟩ := id X
  have hl : lv_has ls 8 [(0, .ref a_t), (1, .ref a_p1), (2, .int p2)] := hl
  unfold F_Natural_addTimes at hF
  refine lv_lconst (v := (0 : Int64)) hx hb dX4_addTimes_0 (by decide) ?_
  refine lv_lstore_n (lv' := [(3, .long (0 : Int64)), (0, .ref a_t), (1, .ref a_p1), (2, .int p2)]) hx hb dX4_addTimes_1 rfl hl (by decide) rfl (fun ls hl => ?_)
  refine lv_iconst (v := (0 : Int32)) hx hb dX4_addTimes_2 (by decide) ?_
  refine lv_istore (lv' := [(5, .int (0 : Int32)), (3, .long (0 : Int64)), (0, .ref a_t), (1, .ref a_p1), (2, .int p2)]) hx hb dX4_addTimes_3 hl (by decide) rfl (fun ls hl => ?_)
  obtain ⟨t_limb'_4, t_limbs'_5, hX2, hF⟩ := bO_s2 hF
  have L1 : ∀ (k0 : Nat) (x3 : Int64) (x5 : Int32) (t_limb'_3 : Nat → Int32) (t_limbs'_4 : Int32) (t_limb'_4 : Nat → Int32) (t_limbs'_5 : Int32) (H : Heap) (locs : List Loc) (ls : Array Slot), Natural_addTimes_L5 p1_limbs p1_limb p2 k0 x3 x5 t_limb'_3 t_limbs'_4 = some (t_limb'_4, t_limbs'_5) → m_H E A (wd_Natural_addTimes E a_t a_t_limb a_p1 a_p1_limb t_limbs'_4 t_limb'_3 p1_limbs p1_limb) s.heap H locs → lv_has ls 8 [(5, .int x5), (3, .long x3), (0, .ref a_t), (1, .ref a_p1), (2, .int p2)] → (∀ (H : Heap) (locs : List Loc) (ls : Array Slot), m_H E A (wd_Natural_addTimes E a_t a_t_limb a_p1 a_p1_limb t_limbs'_5 t_limb'_4 p1_limbs p1_limb) s.heap H locs → lv_has ls 8 [(0, .ref a_t)] → W p l e rm_Natural_addTimes s m args below meth c H locs 0 0 Q (F0 m 118 ls [])) → W p l e rm_Natural_addTimes s m args below meth c H locs 0 0 Q (F0 m 5 ls []) := by
    clear hF
    intro k0
    induction k0 with
    | zero =>
      intro x3 x5 t_limb'_3 t_limbs'_4 t_limb'_4 t_limbs'_5 H locs ls hF
      cases hF
    | succ k0 ih4 =>
      intro x3 x5 t_limb'_3 t_limbs'_4 t_limb'_4 t_limbs'_5 H locs ls hF hW hl hk3
      rw [Natural_addTimes_L5] at hF
      refine lv_iload hx hb dX4_addTimes_5 (lv_at hl 0 rfl) ?_
      refine lv_bipush (v := (40 : Int32)) hx hb dX4_addTimes_7 (by decide) ?_
      refine lv_icmp_ge (tgt := 118) hx hb dX4_addTimes_9 (by decide) (fun c5 => ?_) (fun c5 => ?_)
      · have hF := if_y c5 hF
        cases hF
        exact hk3 _ _ _ hW (lv_sub hl [2] rfl)
      · have hF := if_n c5 hF
        refine lv_iload hx hb dX4_addTimes_12 (lv_at hl 0 rfl) ?_
        refine lv_aload_n hx hb dX4_addTimes_14 rfl (lv_at hl 3 rfl) ?_
        refine m_get X hW fdX4_15 2 rfl rfl dX4_addTimes_15 ?_
        refine lv_icmp_lt (tgt := 27) hx hb dX4_addTimes_18 (by decide) (fun c6 => ?_) (fun c6 => ?_)
        · have hF := if_y c6 hF
          refine lv_lload_n hx hb dX4_addTimes_27 rfl (lv_at hl 1 rfl) ?_
          refine lv_iload hx hb dX4_addTimes_28 (lv_at hl 0 rfl) ?_
          refine lv_aload_n hx hb dX4_addTimes_30 rfl (lv_at hl 2 rfl) ?_
          refine m_get X hW fdX4_15 0 rfl rfl dX4_addTimes_31 ?_
          obtain ⟨y1, hX8, hF⟩ := bO_s1 hF
          have J7 : ∀ (H : Heap) (locs : List Loc) (ls : Array Slot), m_H E A (wd_Natural_addTimes E a_t a_t_limb a_p1 a_p1_limb t_limbs'_4 t_limb'_3 p1_limbs p1_limb) s.heap H locs → lv_has ls 8 [(5, .int x5), (0, .ref a_t), (1, .ref a_p1), (2, .int p2)] → W p l e rm_Natural_addTimes s m args below meth c H locs 0 0 Q (F0 m 48 ls [.int y1, .long x3]) := by
            intro H locs ls hW hl
            refine lv_i2l (v := y1.toInt64) hx hb dX4_addTimes_48 rfl ?_
            refine lv_ladd hx hb dX4_addTimes_49 ?_
            refine lv_lstore (lv' := [(6, .long (x3 + y1.toInt64)), (5, .int x5), (0, .ref a_t), (1, .ref a_p1), (2, .int p2)]) hx hb dX4_addTimes_50 hl (by decide) rfl (fun ls hl => ?_)
            refine lv_iload hx hb dX4_addTimes_52 (lv_at hl 1 rfl) ?_
            refine lv_aload_n hx hb dX4_addTimes_54 rfl (lv_at hl 3 rfl) ?_
            refine m_get X hW fdX4_15 2 rfl rfl dX4_addTimes_55 ?_
            obtain ⟨x6, hX10, hF⟩ := bO_s1 hF
            have J9 : ∀ (H : Heap) (locs : List Loc) (ls : Array Slot), m_H E A (wd_Natural_addTimes E a_t a_t_limb a_p1 a_p1_limb t_limbs'_4 t_limb'_3 p1_limbs p1_limb) s.heap H locs → lv_has ls 8 [(6, .long x6), (5, .int x5), (0, .ref a_t), (1, .ref a_p1), (2, .int p2)] → W p l e rm_Natural_addTimes s m args below meth c H locs 0 0 Q (F0 m 77 ls []) := by
              intro H locs ls hW hl
              refine lv_aload_n hx hb dX4_addTimes_77 rfl (lv_at hl 2 rfl) ?_
              refine m_get X hW fdX4_11 0 rfl rfl dX4_addTimes_78 ?_
              refine lv_iload hx hb dX4_addTimes_81 (lv_at hl 1 rfl) ?_
              refine lv_lload hx hb dX4_addTimes_83 (lv_at hl 0 rfl) ?_
              refine lv_ldc2 (v := (1073741823 : Int64)) hx hb hown (hts _ wk_747) dX4_addTimes_85 ?_
              refine lv_land hx hb dX4_addTimes_88 ?_
              refine lv_l2i (v := (x6 &&& (1073741823 : Int64)).toInt32) hx hb dX4_addTimes_89 rfl ?_
              obtain ⟨g11, hF⟩ := gd_some hF
              refine m_iast X hW 1 (k := x5.toNatClampNeg) rfl g11 rfl dX4_addTimes_90 (ws' := (wd_Natural_addTimes E a_t a_t_limb a_p1 a_p1_limb t_limbs'_4 (upd t_limb'_3 x5.toNatClampNeg (x6 &&& (1073741823 : Int64)).toInt32) p1_limbs p1_limb)) rfl (fun H locs hW => ?_)
              refine lv_lload hx hb dX4_addTimes_91 (lv_at hl 0 rfl) ?_
              refine lv_bipush (v := (30 : Int32)) hx hb dX4_addTimes_93 (by decide) ?_
              refine m_lshr hx hb dX4_addTimes_95 ?_
              refine lv_lstore_n (lv' := [(3, .long (jshrL x6 (30 : Int32))), (6, .long x6), (5, .int x5), (0, .ref a_t), (1, .ref a_p1), (2, .int p2)]) hx hb dX4_addTimes_96 rfl hl (by decide) rfl (fun ls hl => ?_)
              refine lv_aload_n hx hb dX4_addTimes_97 rfl (lv_at hl 3 rfl) ?_
              refine lv_aload_n hx hb dX4_addTimes_98 rfl (lv_at hl 3 rfl) ?_
              refine m_get X hW fdX4_15 0 rfl rfl dX4_addTimes_99 ?_
              refine lv_iload hx hb dX4_addTimes_102 (lv_at hl 2 rfl) ?_
              refine lv_iconst (v := (1 : Int32)) hx hb dX4_addTimes_104 (by decide) ?_
              refine lv_iadd hx hb dX4_addTimes_105 ?_
              refine va_mmax hx hb (X.2.2.1.trans hl.1.symm) hown (hts _ wk_760) (hts _ wk_592) (hts _ wk_15) (hts _ wk_593) (Nat.le_of_ble_eq_true rfl) (Nat.le_of_ble_eq_true rfl) (Nat.zero_le _) (Nat.zero_le _) dX4_addTimes_106 ?_
              refine m_putf X hW fdX4_15 0 rfl (Nat.le_of_ble_eq_true rfl) rfl rfl dX4_addTimes_109 (ws' := (wd_Natural_addTimes E a_t a_t_limb a_p1 a_p1_limb (jmax t_limbs'_4 (x5 + (1 : Int32))) (upd t_limb'_3 x5.toNatClampNeg (x6 &&& (1073741823 : Int64)).toInt32) p1_limbs p1_limb)) rfl (fun H locs hW => ?_)
              refine lv_iinc (v := (x5 + (1 : Int32))) (lv' := [(5, .int (x5 + (1 : Int32))), (3, .long (jshrL x6 (30 : Int32))), (6, .long x6), (0, .ref a_t), (1, .ref a_p1), (2, .int p2)]) hx hb dX4_addTimes_112 hl (k := 2) rfl rfl (by decide) rfl (fun ls hl => ?_)
              refine lv_goto (tgt := 5) hx hb dX4_addTimes_115 (by decide) ?_
              exact ih4 (jshrL x6 (30 : Int32)) (x5 + (1 : Int32)) (upd t_limb'_3 x5.toNatClampNeg (x6 &&& (1073741823 : Int64)).toInt32) (jmax t_limbs'_4 (x5 + (1 : Int32))) t_limb'_4 t_limbs'_5 _ _ _ hF hW (lv_sub hl [0, 1, 3, 4, 5] rfl) hk3
            clear hF
            have hF := hX10
            clear hX10
            refine lv_icmp_ge (tgt := 77) hx hb dX4_addTimes_58 (by decide) (fun c12 => ?_) (fun c12 => ?_)
            · have hF := if_y c12 hF
              cases hF
              exact J9 _ _ _ hW (lv_sub hl [0, 1, 2, 3, 4] rfl)
            · have hF := if_n c12 hF
              refine lv_lload hx hb dX4_addTimes_61 (lv_at hl 0 rfl) ?_
              refine lv_aload_n hx hb dX4_addTimes_63 rfl (lv_at hl 3 rfl) ?_
              refine m_get X hW fdX4_11 2 rfl rfl dX4_addTimes_64 ?_
              refine lv_iload hx hb dX4_addTimes_67 (lv_at hl 1 rfl) ?_
              obtain ⟨g13, hF⟩ := gd_some hF
              refine m_iald X hW 3 (k := x5.toNatClampNeg) rfl g13 rfl dX4_addTimes_69 ?_
              refine lv_i2l (v := (p1_limb x5.toNatClampNeg).toInt64) hx hb dX4_addTimes_70 rfl ?_
              refine lv_iload_n hx hb dX4_addTimes_71 rfl (lv_at hl 4 rfl) ?_
              refine lv_i2l (v := p2.toInt64) hx hb dX4_addTimes_72 rfl ?_
              refine lv_lmul hx hb dX4_addTimes_73 ?_
              refine lv_ladd hx hb dX4_addTimes_74 ?_
              refine lv_lstore (lv' := [(6, .long ((x3 + y1.toInt64) + ((p1_limb x5.toNatClampNeg).toInt64 * p2.toInt64))), (5, .int x5), (0, .ref a_t), (1, .ref a_p1), (2, .int p2)]) hx hb dX4_addTimes_75 hl (by decide) rfl (fun ls hl => ?_)
              cases hF
              exact J9 _ _ _ hW (lv_sub hl [0, 1, 2, 3, 4] rfl)
          clear hF
          have hF := hX8
          clear hX8
          refine lv_icmp_ge (tgt := 47) hx hb dX4_addTimes_34 (by decide) (fun c14 => ?_) (fun c14 => ?_)
          · have hF := if_y c14 hF
            refine lv_iconst (v := (0 : Int32)) hx hb dX4_addTimes_47 (by decide) ?_
            cases hF
            exact J7 _ _ _ hW (lv_sub hl [0, 2, 3, 4] rfl)
          · have hF := if_n c14 hF
            refine lv_aload_n hx hb dX4_addTimes_37 rfl (lv_at hl 2 rfl) ?_
            refine m_get X hW fdX4_11 0 rfl rfl dX4_addTimes_38 ?_
            refine lv_iload hx hb dX4_addTimes_41 (lv_at hl 0 rfl) ?_
            obtain ⟨g15, hF⟩ := gd_some hF
            refine m_iald X hW 1 (k := x5.toNatClampNeg) rfl g15 rfl dX4_addTimes_43 ?_
            refine lv_goto (tgt := 48) hx hb dX4_addTimes_44 (by decide) ?_
            cases hF
            exact J7 _ _ _ hW (lv_sub hl [0, 2, 3, 4] rfl)
        · have hF := if_n c6 hF
          refine lv_lload_n hx hb dX4_addTimes_21 rfl (lv_at hl 1 rfl) ?_
          refine lv_lconst (v := (0 : Int64)) hx hb dX4_addTimes_22 (by decide) ?_
          refine W.lcmp hx hb dX4_addTimes_23 ?_
          refine lv_if_le (tgt := 118) hx hb dX4_addTimes_24 (by decide) (fun c16 => ?_) (fun c16 => ?_)
          · have hF := if_y c16 hF
            cases hF
            exact hk3 _ _ _ hW (lv_sub hl [2] rfl)
          · have hF := if_n c16 hF
            refine lv_lload_n hx hb dX4_addTimes_27 rfl (lv_at hl 1 rfl) ?_
            refine lv_iload hx hb dX4_addTimes_28 (lv_at hl 0 rfl) ?_
            refine lv_aload_n hx hb dX4_addTimes_30 rfl (lv_at hl 2 rfl) ?_
            refine m_get X hW fdX4_15 0 rfl rfl dX4_addTimes_31 ?_
            obtain ⟨y1_2, hX18, hF⟩ := bO_s1 hF
            have J17 : ∀ (H : Heap) (locs : List Loc) (ls : Array Slot), m_H E A (wd_Natural_addTimes E a_t a_t_limb a_p1 a_p1_limb t_limbs'_4 t_limb'_3 p1_limbs p1_limb) s.heap H locs → lv_has ls 8 [(5, .int x5), (0, .ref a_t), (1, .ref a_p1), (2, .int p2)] → W p l e rm_Natural_addTimes s m args below meth c H locs 0 0 Q (F0 m 48 ls [.int y1_2, .long x3]) := by
              intro H locs ls hW hl
              refine lv_i2l (v := y1_2.toInt64) hx hb dX4_addTimes_48 rfl ?_
              refine lv_ladd hx hb dX4_addTimes_49 ?_
              refine lv_lstore (lv' := [(6, .long (x3 + y1_2.toInt64)), (5, .int x5), (0, .ref a_t), (1, .ref a_p1), (2, .int p2)]) hx hb dX4_addTimes_50 hl (by decide) rfl (fun ls hl => ?_)
              refine lv_iload hx hb dX4_addTimes_52 (lv_at hl 1 rfl) ?_
              refine lv_aload_n hx hb dX4_addTimes_54 rfl (lv_at hl 3 rfl) ?_
              refine m_get X hW fdX4_15 2 rfl rfl dX4_addTimes_55 ?_
              obtain ⟨x6_2, hX20, hF⟩ := bO_s1 hF
              have J19 : ∀ (H : Heap) (locs : List Loc) (ls : Array Slot), m_H E A (wd_Natural_addTimes E a_t a_t_limb a_p1 a_p1_limb t_limbs'_4 t_limb'_3 p1_limbs p1_limb) s.heap H locs → lv_has ls 8 [(6, .long x6_2), (5, .int x5), (0, .ref a_t), (1, .ref a_p1), (2, .int p2)] → W p l e rm_Natural_addTimes s m args below meth c H locs 0 0 Q (F0 m 77 ls []) := by
                intro H locs ls hW hl
                refine lv_aload_n hx hb dX4_addTimes_77 rfl (lv_at hl 2 rfl) ?_
                refine m_get X hW fdX4_11 0 rfl rfl dX4_addTimes_78 ?_
                refine lv_iload hx hb dX4_addTimes_81 (lv_at hl 1 rfl) ?_
                refine lv_lload hx hb dX4_addTimes_83 (lv_at hl 0 rfl) ?_
                refine lv_ldc2 (v := (1073741823 : Int64)) hx hb hown (hts _ wk_747) dX4_addTimes_85 ?_
                refine lv_land hx hb dX4_addTimes_88 ?_
                refine lv_l2i (v := (x6_2 &&& (1073741823 : Int64)).toInt32) hx hb dX4_addTimes_89 rfl ?_
                obtain ⟨g21, hF⟩ := gd_some hF
                refine m_iast X hW 1 (k := x5.toNatClampNeg) rfl g21 rfl dX4_addTimes_90 (ws' := (wd_Natural_addTimes E a_t a_t_limb a_p1 a_p1_limb t_limbs'_4 (upd t_limb'_3 x5.toNatClampNeg (x6_2 &&& (1073741823 : Int64)).toInt32) p1_limbs p1_limb)) rfl (fun H locs hW => ?_)
                refine lv_lload hx hb dX4_addTimes_91 (lv_at hl 0 rfl) ?_
                refine lv_bipush (v := (30 : Int32)) hx hb dX4_addTimes_93 (by decide) ?_
                refine m_lshr hx hb dX4_addTimes_95 ?_
                refine lv_lstore_n (lv' := [(3, .long (jshrL x6_2 (30 : Int32))), (6, .long x6_2), (5, .int x5), (0, .ref a_t), (1, .ref a_p1), (2, .int p2)]) hx hb dX4_addTimes_96 rfl hl (by decide) rfl (fun ls hl => ?_)
                refine lv_aload_n hx hb dX4_addTimes_97 rfl (lv_at hl 3 rfl) ?_
                refine lv_aload_n hx hb dX4_addTimes_98 rfl (lv_at hl 3 rfl) ?_
                refine m_get X hW fdX4_15 0 rfl rfl dX4_addTimes_99 ?_
                refine lv_iload hx hb dX4_addTimes_102 (lv_at hl 2 rfl) ?_
                refine lv_iconst (v := (1 : Int32)) hx hb dX4_addTimes_104 (by decide) ?_
                refine lv_iadd hx hb dX4_addTimes_105 ?_
                refine va_mmax hx hb (X.2.2.1.trans hl.1.symm) hown (hts _ wk_760) (hts _ wk_592) (hts _ wk_15) (hts _ wk_593) (Nat.le_of_ble_eq_true rfl) (Nat.le_of_ble_eq_true rfl) (Nat.zero_le _) (Nat.zero_le _) dX4_addTimes_106 ?_
                refine m_putf X hW fdX4_15 0 rfl (Nat.le_of_ble_eq_true rfl) rfl rfl dX4_addTimes_109 (ws' := (wd_Natural_addTimes E a_t a_t_limb a_p1 a_p1_limb (jmax t_limbs'_4 (x5 + (1 : Int32))) (upd t_limb'_3 x5.toNatClampNeg (x6_2 &&& (1073741823 : Int64)).toInt32) p1_limbs p1_limb)) rfl (fun H locs hW => ?_)
                refine lv_iinc (v := (x5 + (1 : Int32))) (lv' := [(5, .int (x5 + (1 : Int32))), (3, .long (jshrL x6_2 (30 : Int32))), (6, .long x6_2), (0, .ref a_t), (1, .ref a_p1), (2, .int p2)]) hx hb dX4_addTimes_112 hl (k := 2) rfl rfl (by decide) rfl (fun ls hl => ?_)
                refine lv_goto (tgt := 5) hx hb dX4_addTimes_115 (by decide) ?_
                exact ih4 (jshrL x6_2 (30 : Int32)) (x5 + (1 : Int32)) (upd t_limb'_3 x5.toNatClampNeg (x6_2 &&& (1073741823 : Int64)).toInt32) (jmax t_limbs'_4 (x5 + (1 : Int32))) t_limb'_4 t_limbs'_5 _ _ _ hF hW (lv_sub hl [0, 1, 3, 4, 5] rfl) hk3
              clear hF
              have hF := hX20
              clear hX20
              refine lv_icmp_ge (tgt := 77) hx hb dX4_addTimes_58 (by decide) (fun c22 => ?_) (fun c22 => ?_)
              · have hF := if_y c22 hF
                cases hF
                exact J19 _ _ _ hW (lv_sub hl [0, 1, 2, 3, 4] rfl)
              · have hF := if_n c22 hF
                refine lv_lload hx hb dX4_addTimes_61 (lv_at hl 0 rfl) ?_
                refine lv_aload_n hx hb dX4_addTimes_63 rfl (lv_at hl 3 rfl) ?_
                refine m_get X hW fdX4_11 2 rfl rfl dX4_addTimes_64 ?_
                refine lv_iload hx hb dX4_addTimes_67 (lv_at hl 1 rfl) ?_
                obtain ⟨g23, hF⟩ := gd_some hF
                refine m_iald X hW 3 (k := x5.toNatClampNeg) rfl g23 rfl dX4_addTimes_69 ?_
                refine lv_i2l (v := (p1_limb x5.toNatClampNeg).toInt64) hx hb dX4_addTimes_70 rfl ?_
                refine lv_iload_n hx hb dX4_addTimes_71 rfl (lv_at hl 4 rfl) ?_
                refine lv_i2l (v := p2.toInt64) hx hb dX4_addTimes_72 rfl ?_
                refine lv_lmul hx hb dX4_addTimes_73 ?_
                refine lv_ladd hx hb dX4_addTimes_74 ?_
                refine lv_lstore (lv' := [(6, .long ((x3 + y1_2.toInt64) + ((p1_limb x5.toNatClampNeg).toInt64 * p2.toInt64))), (5, .int x5), (0, .ref a_t), (1, .ref a_p1), (2, .int p2)]) hx hb dX4_addTimes_75 hl (by decide) rfl (fun ls hl => ?_)
                cases hF
                exact J19 _ _ _ hW (lv_sub hl [0, 1, 2, 3, 4] rfl)
            clear hF
            have hF := hX18
            clear hX18
            refine lv_icmp_ge (tgt := 47) hx hb dX4_addTimes_34 (by decide) (fun c24 => ?_) (fun c24 => ?_)
            · have hF := if_y c24 hF
              refine lv_iconst (v := (0 : Int32)) hx hb dX4_addTimes_47 (by decide) ?_
              cases hF
              exact J17 _ _ _ hW (lv_sub hl [0, 2, 3, 4] rfl)
            · have hF := if_n c24 hF
              refine lv_aload_n hx hb dX4_addTimes_37 rfl (lv_at hl 2 rfl) ?_
              refine m_get X hW fdX4_11 0 rfl rfl dX4_addTimes_38 ?_
              refine lv_iload hx hb dX4_addTimes_41 (lv_at hl 0 rfl) ?_
              obtain ⟨g25, hF⟩ := gd_some hF
              refine m_iald X hW 1 (k := x5.toNatClampNeg) rfl g25 rfl dX4_addTimes_43 ?_
              refine lv_goto (tgt := 48) hx hb dX4_addTimes_44 (by decide) ?_
              cases hF
              exact J17 _ _ _ hW (lv_sub hl [0, 2, 3, 4] rfl)
  refine L1 N (0 : Int64) (0 : Int32) t_limb t_limbs t_limb'_4 t_limbs'_5 _ _ _ hX2 hW (lv_sub hl [0, 1, 2, 3, 4] rfl) ?_
  intro H locs ls hW hl
  clear L1
  refine lv_aload_n hx hb dX4_addTimes_118 rfl (lv_at hl 0 rfl) ?_
  obtain ⟨t_limbs'_6, hC26, hF⟩ := bO_s1 hF
  refine m_callV X hW hA hl.1 lkX4_37 (c_Natural_trim l E _ N a_t a_t_limb t_limbs'_5 t_limb'_4  t_limbs'_6 hC26) ([0, 1]) (by decide) rfl rfl (ws' := (wd_Natural_addTimes E a_t a_t_limb a_p1 a_p1_limb t_limbs'_6 t_limb'_4 p1_limbs p1_limb)) rfl 0 rfl rfl rfl (As := []) (rest := []) rfl rfl ⟨rfl, rfl, Nat.le_of_ble_eq_true rfl, Nat.le_of_ble_eq_true rfl⟩ (Nat.le_of_ble_eq_true rfl) (Nat.zero_le _) (Nat.zero_le _) dX4_addTimes_119 (fun H locs hW => ?_)
  clear hC26
  have hq := Option.some.inj hF
  subst hq
  exact hret _ _ _ _ hW dX4_addTimes_122
abbrev wd_Chances_hear (E : m_E) (a_t : Nat) (a_t_below : Nat) (a_t_scaled : Nat) (a_t_scaledBelow : Nat) (a_t_heardAs : Nat) (a_t_total : Nat) (a_t_part : Nat) (a_t_chance : Nat) (a_t_before : Nat) (r_t_heardAs : Nat → Nat) (r_t_chance : Nat → Nat) (r_t_chance_limb : Nat → Nat) (r_t_before : Nat → Nat) (r_t_before_limb : Nat → Nat) (t_words : Int32) (t_heardAs : Nat → Nat → Int32) (t_total : Nat → Int32) (t_part : Nat → Int32) (t_chance_limb : Nat → Nat → Int32) (t_chance_limbs : Nat → Int32) (t_before_limb : Nat → Nat → Int32) (t_before_limbs : Nat → Int32) : va_W := [(a_t, .inr (0, [.ref a_t_heardAs, .ref a_t_total, .ref a_t_part, .ref a_t_chance, .ref a_t_before, .ref a_t_below, .ref a_t_scaled, .ref a_t_scaledBelow, .int t_words])), (a_t_heardAs, .inl (E.2.1 3, 10, .inr (.inr (.inr (.inr (fun i => some (r_t_heardAs i))))))), (a_t_total, .inl (E.2.1 0, 10, .inl t_total)), (a_t_part, .inl (E.2.1 0, 10, .inl t_part)), (a_t_chance, .inl (E.2.1 2, 10, .inr (.inr (.inr (.inr (fun i => some (r_t_chance i))))))), (a_t_before, .inl (E.2.1 2, 10, .inr (.inr (.inr (.inr (fun i => some (r_t_before i)))))))] ++ (m_fam 10 (fun i => (r_t_heardAs i, .inl (E.2.1 0, 10, .inl (t_heardAs i)))) ++ (m_fam 10 (fun i => (r_t_chance i, .inr (4, [.ref (r_t_chance_limb i), .int (t_chance_limbs i)]))) ++ (m_fam 10 (fun i => (r_t_chance_limb i, .inl (E.2.1 0, 40, .inl (t_chance_limb i)))) ++ (m_fam 10 (fun i => (r_t_before i, .inr (4, [.ref (r_t_before_limb i), .int (t_before_limbs i)]))) ++ (m_fam 10 (fun i => (r_t_before_limb i, .inl (E.2.1 0, 40, .inl (t_before_limb i)))) ++ [])))))
def rm_Chances_hear : Room := { frames := 2, cells := 0, slots := 0, locals := 48 }
set_option maxHeartbeats 4000000 in
set_option maxRecDepth 100000 in
theorem c_Chances_hear (l : Launch) (E : m_E) (sz N : Nat) (a_t : Nat) (a_t_below : Nat) (a_t_scaled : Nat) (a_t_scaledBelow : Nat) (a_t_heardAs : Nat) (a_t_total : Nat) (a_t_part : Nat) (a_t_chance : Nat) (a_t_before : Nat) (r_t_heardAs : Nat → Nat) (r_t_chance : Nat → Nat) (r_t_chance_limb : Nat → Nat) (r_t_before : Nat → Nat) (r_t_before_limb : Nat → Nat) (t_words : Int32) (t_heardAs : Nat → Nat → Int32) (t_total : Nat → Int32) (t_part : Nat → Int32) (t_chance_limb : Nat → Nat → Int32) (t_chance_limbs : Nat → Int32) (t_before_limb : Nat → Nat → Int32) (t_before_limbs : Nat → Int32) (p1 : Int32) (ures : (Nat → Nat → Int32) × (Nat → Int32) × (Nat → Nat → Int32) × (Nat → Int32)) (hF : F_Chances_hear N p1 t_words t_heardAs t_total t_part t_chance_limb t_chance_limbs t_before_limb t_before_limbs = some ures) : m_Met l yX0_hear cX0_hear 3 none rm_Chances_hear E (wd_Chances_hear E a_t a_t_below a_t_scaled a_t_scaledBelow a_t_heardAs a_t_total a_t_part a_t_chance a_t_before r_t_heardAs r_t_chance r_t_chance_limb r_t_before r_t_before_limb t_words t_heardAs t_total t_part t_chance_limb t_chance_limbs t_before_limb t_before_limbs) (wd_Chances_hear E a_t a_t_below a_t_scaled a_t_scaledBelow a_t_heardAs a_t_total a_t_part a_t_chance a_t_before r_t_heardAs r_t_chance r_t_chance_limb r_t_before r_t_before_limb t_words t_heardAs t_total t_part ures.1 ures.2.1 ures.2.2.1 ures.2.2.2) sz [.ref a_t, .int p1] none := by
  refine m_ofV (by decide) (Nat.le_of_ble_eq_true rfl) ?_
  intro p e s m args below meth c A Q ls X hW hA hl hret
  obtain ⟨hx, hb, -, hown, hts, hK, -, hG⟩ := id X
  have hl : lv_has ls 3 [(0, .ref a_t), (1, .int p1)] := hl
  unfold F_Chances_hear at hF
  refine lv_aload_n hx hb dX0_hear_0 rfl (lv_at hl 0 rfl) ?_
  refine lv_aload_n hx hb dX0_hear_1 rfl (lv_at hl 0 rfl) ?_
  refine m_get X hW fdX0_29 0 rfl rfl dX0_hear_2 ?_
  refine lv_iload_n hx hb dX0_hear_5 rfl (lv_at hl 1 rfl) ?_
  obtain ⟨g1, hF⟩ := gd_some hF
  refine m_aald X hW 5 (k := p1.toNatClampNeg) rfl g1 rfl dX0_hear_6 ?_
  obtain ⟨t_before_limbs'_4, t_before_limb'_4, hC2, hF⟩ := bO_s2 hF
  refine m_callV X hW hA hl.1 lkX0_84 (c_Chances_multiplyByParts l E _ N a_t a_t_heardAs a_t_total a_t_chance a_t_before a_t_below a_t_scaled a_t_scaledBelow a_t_part (r_t_before (p1.toNatClampNeg)) (r_t_before_limb (p1.toNatClampNeg)) t_words t_part (t_before_limbs p1.toNatClampNeg) (t_before_limb p1.toNatClampNeg)  (t_before_limbs'_4, t_before_limb'_4) hC2) ([0, 3, (36 + (p1.toNatClampNeg)), (46 + (p1.toNatClampNeg))]) (m_nd (by have := (ixb_lt g1); simp only [va_nd, List.mem_cons, List.not_mem_nil, or_false, not_or, decide_eq_true_eq, Bool.and_eq_true, not_false_eq_true, and_true, true_and]; omega)) (m_Cc rfl (m_Cc rfl (m_Cc (m_fg (b := 36) m_sp3 (by rfl) (ixb_lt g1)) (m_Cc (m_fg (b := 46) m_sp4 (by rfl) (ixb_lt g1)) m_Cn)))) rfl (ws' := (wd_Chances_hear E a_t a_t_below a_t_scaled a_t_scaledBelow a_t_heardAs a_t_total a_t_part a_t_chance a_t_before r_t_heardAs r_t_chance r_t_chance_limb r_t_before r_t_before_limb t_words t_heardAs t_total t_part t_chance_limb t_chance_limbs (va_up t_before_limb p1.toNatClampNeg t_before_limb'_4) (va_up t_before_limbs p1.toNatClampNeg t_before_limbs'_4))) (m_putc (ws1 := (wd_Chances_hear E a_t a_t_below a_t_scaled a_t_scaledBelow a_t_heardAs a_t_total a_t_part a_t_chance a_t_before r_t_heardAs r_t_chance r_t_chance_limb r_t_before r_t_before_limb t_words t_heardAs t_total t_part t_chance_limb t_chance_limbs t_before_limb t_before_limbs)) rfl (m_putc (ws1 := (wd_Chances_hear E a_t a_t_below a_t_scaled a_t_scaledBelow a_t_heardAs a_t_total a_t_part a_t_chance a_t_before r_t_heardAs r_t_chance r_t_chance_limb r_t_before r_t_before_limb t_words t_heardAs t_total t_part t_chance_limb t_chance_limbs t_before_limb t_before_limbs)) rfl (m_putc (ws1 := (wd_Chances_hear E a_t a_t_below a_t_scaled a_t_scaledBelow a_t_heardAs a_t_total a_t_part a_t_chance a_t_before r_t_heardAs r_t_chance r_t_chance_limb r_t_before r_t_before_limb t_words t_heardAs t_total t_part t_chance_limb t_chance_limbs t_before_limb (va_up t_before_limbs p1.toNatClampNeg t_before_limbs'_4))) (m_fset (b := 36) m_sp3 (by rfl) (ixb_lt g1) m_sp3 (by intro i _; by_cases h : i = (p1.toNatClampNeg) <;> simp [va_up, h])) (m_putc (ws1 := (wd_Chances_hear E a_t a_t_below a_t_scaled a_t_scaledBelow a_t_heardAs a_t_total a_t_part a_t_chance a_t_before r_t_heardAs r_t_chance r_t_chance_limb r_t_before r_t_before_limb t_words t_heardAs t_total t_part t_chance_limb t_chance_limbs (va_up t_before_limb p1.toNatClampNeg t_before_limb'_4) (va_up t_before_limbs p1.toNatClampNeg t_before_limbs'_4))) (m_fset (b := 46) m_sp4 (by rfl) (ixb_lt g1) m_sp4 (by intro i _; by_cases h : i = (p1.toNatClampNeg) <;> simp [va_up, h])) m_putn)))) 0 rfl rfl rfl (As := [.ref (r_t_before (p1.toNatClampNeg))]) (rest := []) rfl rfl ⟨rfl, rfl, Nat.le_of_ble_eq_true rfl, Nat.le_of_ble_eq_true rfl⟩ (Nat.le_of_ble_eq_true rfl) (Nat.zero_le _) (Nat.zero_le _) dX0_hear_7 (fun H locs hW => ?_)
  clear hC2
  refine lv_aload_n hx hb dX0_hear_10 rfl (lv_at hl 0 rfl) ?_
  refine m_get X hW fdX0_29 0 rfl rfl dX0_hear_11 ?_
  refine lv_iload_n hx hb dX0_hear_14 rfl (lv_at hl 1 rfl) ?_
  refine m_aald X hW 5 (k := p1.toNatClampNeg) rfl g1 rfl dX0_hear_15 ?_
  refine lv_aload_n hx hb dX0_hear_16 rfl (lv_at hl 0 rfl) ?_
  refine m_get X hW fdX0_16 0 rfl rfl dX0_hear_17 ?_
  refine lv_iload_n hx hb dX0_hear_20 rfl (lv_at hl 1 rfl) ?_
  refine m_iald X hW 2 (k := p1.toNatClampNeg) rfl g1 rfl dX0_hear_21 ?_
  obtain ⟨t_before_limbs'_5, t_before_limb'_5, hC3, hF⟩ := bO_s2 hF
  refine m_callV X hW hA hl.1 lkX0_87 (c_Natural_divide l E _ N (r_t_before (p1.toNatClampNeg)) (r_t_before_limb (p1.toNatClampNeg)) ((va_up t_before_limbs p1.toNatClampNeg t_before_limbs'_4) p1.toNatClampNeg) ((va_up t_before_limb p1.toNatClampNeg t_before_limb'_4) p1.toNatClampNeg) (t_total p1.toNatClampNeg) (t_before_limbs'_5, t_before_limb'_5) hC3) ([(36 + (p1.toNatClampNeg)), (46 + (p1.toNatClampNeg))]) (m_nd (by have := (ixb_lt g1); simp only [va_nd, List.mem_cons, List.not_mem_nil, or_false, not_or, decide_eq_true_eq, Bool.and_eq_true, not_false_eq_true, and_true, true_and]; omega)) (m_Cc (m_fg (b := 36) m_sp3 (by rfl) (ixb_lt g1)) (m_Cc (m_fg (b := 46) m_sp4 (by rfl) (ixb_lt g1)) m_Cn)) rfl (ws' := (wd_Chances_hear E a_t a_t_below a_t_scaled a_t_scaledBelow a_t_heardAs a_t_total a_t_part a_t_chance a_t_before r_t_heardAs r_t_chance r_t_chance_limb r_t_before r_t_before_limb t_words t_heardAs t_total t_part t_chance_limb t_chance_limbs (va_up (va_up t_before_limb p1.toNatClampNeg t_before_limb'_4) p1.toNatClampNeg t_before_limb'_5) (va_up (va_up t_before_limbs p1.toNatClampNeg t_before_limbs'_4) p1.toNatClampNeg t_before_limbs'_5))) (m_putc (ws1 := (wd_Chances_hear E a_t a_t_below a_t_scaled a_t_scaledBelow a_t_heardAs a_t_total a_t_part a_t_chance a_t_before r_t_heardAs r_t_chance r_t_chance_limb r_t_before r_t_before_limb t_words t_heardAs t_total t_part t_chance_limb t_chance_limbs (va_up t_before_limb p1.toNatClampNeg t_before_limb'_4) (va_up (va_up t_before_limbs p1.toNatClampNeg t_before_limbs'_4) p1.toNatClampNeg t_before_limbs'_5))) (m_fset (b := 36) m_sp3 (by rfl) (ixb_lt g1) m_sp3 (by intro i _; by_cases h : i = (p1.toNatClampNeg) <;> simp [va_up, h])) (m_putc (ws1 := (wd_Chances_hear E a_t a_t_below a_t_scaled a_t_scaledBelow a_t_heardAs a_t_total a_t_part a_t_chance a_t_before r_t_heardAs r_t_chance r_t_chance_limb r_t_before r_t_before_limb t_words t_heardAs t_total t_part t_chance_limb t_chance_limbs (va_up (va_up t_before_limb p1.toNatClampNeg t_before_limb'_4) p1.toNatClampNeg t_before_limb'_5) (va_up (va_up t_before_limbs p1.toNatClampNeg t_before_limbs'_4) p1.toNatClampNeg t_before_limbs'_5))) (m_fset (b := 46) m_sp4 (by rfl) (ixb_lt g1) m_sp4 (by intro i _; by_cases h : i = (p1.toNatClampNeg) <;> simp [va_up, h])) m_putn)) (36 + (p1.toNatClampNeg)) (m_fg (b := 36) m_sp3 (by rfl) (ixb_lt g1)) rfl rfl (As := [.int (t_total p1.toNatClampNeg)]) (rest := []) rfl rfl ⟨rfl, rfl, Nat.le_of_ble_eq_true rfl, Nat.le_of_ble_eq_true rfl⟩ (Nat.le_of_ble_eq_true rfl) (Nat.zero_le _) (Nat.zero_le _) dX0_hear_22 (fun H locs hW => ?_)
  clear hC3
  refine lv_iconst (v := (0 : Int32)) hx hb dX0_hear_25 (by decide) ?_
  refine lv_istore_n (lv' := [(2, .int (0 : Int32)), (0, .ref a_t), (1, .int p1)]) hx hb dX0_hear_26 rfl hl (by decide) rfl (fun ls hl => ?_)
  obtain ⟨t_chance_limbs'_6, t_chance_limb'_6, hX5, hF⟩ := bO_s2 hF
  obtain ⟨t_before_limb'_6, et_before_limb'_6⟩ : ∃ z : Nat → Nat → Int32, z = (va_up (va_up t_before_limb p1.toNatClampNeg t_before_limb'_4) p1.toNatClampNeg t_before_limb'_5) := ⟨_, rfl⟩
  obtain ⟨t_before_limbs'_6, et_before_limbs'_6⟩ : ∃ z : Nat → Int32, z = (va_up (va_up t_before_limbs p1.toNatClampNeg t_before_limbs'_4) p1.toNatClampNeg t_before_limbs'_5) := ⟨_, rfl⟩
  have L4 : ∀ (k0 : Nat) (x2 : Int32) (t_chance_limbs'_4 : Nat → Int32) (t_chance_limb'_4 : Nat → Nat → Int32) (t_chance_limbs'_6 : Nat → Int32) (t_chance_limb'_6 : Nat → Nat → Int32) (H : Heap) (locs : List Loc) (ls : Array Slot), Chances_hear_L27 N t_words t_heardAs p1 t_before_limbs'_6 t_before_limb'_6 k0 x2 t_chance_limbs'_4 t_chance_limb'_4 = some (t_chance_limbs'_6, t_chance_limb'_6) → m_H E A (wd_Chances_hear E a_t a_t_below a_t_scaled a_t_scaledBelow a_t_heardAs a_t_total a_t_part a_t_chance a_t_before r_t_heardAs r_t_chance r_t_chance_limb r_t_before r_t_before_limb t_words t_heardAs t_total t_part t_chance_limb'_4 t_chance_limbs'_4 t_before_limb'_6 t_before_limbs'_6) s.heap H locs → lv_has ls 3 [(2, .int x2), (0, .ref a_t), (1, .int p1)] → (∀ (H : Heap) (locs : List Loc) (ls : Array Slot), m_H E A (wd_Chances_hear E a_t a_t_below a_t_scaled a_t_scaledBelow a_t_heardAs a_t_total a_t_part a_t_chance a_t_before r_t_heardAs r_t_chance r_t_chance_limb r_t_before r_t_before_limb t_words t_heardAs t_total t_part t_chance_limb'_6 t_chance_limbs'_6 t_before_limb'_6 t_before_limbs'_6) s.heap H locs → lv_has ls 3 [] → W p l e rm_Chances_hear s m args below meth c H locs 0 0 Q (F0 m 75 ls [])) → W p l e rm_Chances_hear s m args below meth c H locs 0 0 Q (F0 m 27 ls []) := by
    clear hF
    intro k0
    induction k0 with
    | zero =>
      intro x2 t_chance_limbs'_4 t_chance_limb'_4 t_chance_limbs'_6 t_chance_limb'_6 H locs ls hF
      cases hF
    | succ k0 ih7 =>
      intro x2 t_chance_limbs'_4 t_chance_limb'_4 t_chance_limbs'_6 t_chance_limb'_6 H locs ls hF hW hl hk6
      rw [Chances_hear_L27] at hF
      refine lv_iload_n hx hb dX0_hear_27 rfl (lv_at hl 0 rfl) ?_
      refine lv_aload_n hx hb dX0_hear_28 rfl (lv_at hl 1 rfl) ?_
      refine m_get X hW fdX0_47 0 rfl rfl dX0_hear_29 ?_
      refine lv_icmp_ge (tgt := 75) hx hb dX0_hear_32 (by decide) (fun c8 => ?_) (fun c8 => ?_)
      · have hF := if_y c8 hF
        cases hF
        exact hk6 _ _ _ hW (lv_sub hl [] rfl)
      · have hF := if_n c8 hF
        refine lv_aload_n hx hb dX0_hear_35 rfl (lv_at hl 1 rfl) ?_
        refine m_get X hW fdX0_11 0 rfl rfl dX0_hear_36 ?_
        refine lv_iload_n hx hb dX0_hear_39 rfl (lv_at hl 2 rfl) ?_
        refine m_aaldA X hW 1 (k := p1.toNatClampNeg) rfl g1 rfl dX0_hear_40 ?_
        refine lv_iload_n hx hb dX0_hear_41 rfl (lv_at hl 0 rfl) ?_
        obtain ⟨g9, hF⟩ := gd_some hF
        refine m_iald X hW (6 + (p1.toNatClampNeg)) (k := x2.toNatClampNeg) (m_fg (b := 6) rfl (by rfl) (ixb_lt g1)) g9 rfl dX0_hear_42 ?_
        refine lv_if_le (tgt := 69) hx hb dX0_hear_43 (by decide) (fun c10 => ?_) (fun c10 => ?_)
        · have hF := if_y c10 hF
          refine lv_iinc (v := (x2 + (1 : Int32))) (lv' := [(2, .int (x2 + (1 : Int32))), (0, .ref a_t), (1, .int p1)]) hx hb dX0_hear_69 hl (k := 0) rfl rfl (by decide) rfl (fun ls hl => ?_)
          refine lv_goto (tgt := 27) hx hb dX0_hear_72 (by decide) ?_
          exact ih7 (x2 + (1 : Int32)) t_chance_limbs'_4 t_chance_limb'_4 t_chance_limbs'_6 t_chance_limb'_6 _ _ _ hF hW (lv_sub hl [0, 1, 2] rfl) hk6
        · have hF := if_n c10 hF
          refine lv_aload_n hx hb dX0_hear_46 rfl (lv_at hl 1 rfl) ?_
          refine m_get X hW fdX0_25 0 rfl rfl dX0_hear_47 ?_
          refine lv_iload_n hx hb dX0_hear_50 rfl (lv_at hl 0 rfl) ?_
          refine m_aald X hW 4 (k := x2.toNatClampNeg) rfl g9 rfl dX0_hear_51 ?_
          refine lv_aload_n hx hb dX0_hear_52 rfl (lv_at hl 1 rfl) ?_
          refine m_get X hW fdX0_29 0 rfl rfl dX0_hear_53 ?_
          refine lv_iload_n hx hb dX0_hear_56 rfl (lv_at hl 2 rfl) ?_
          refine m_aald X hW 5 (k := p1.toNatClampNeg) rfl g1 rfl dX0_hear_57 ?_
          refine lv_aload_n hx hb dX0_hear_58 rfl (lv_at hl 1 rfl) ?_
          refine m_get X hW fdX0_11 0 rfl rfl dX0_hear_59 ?_
          refine lv_iload_n hx hb dX0_hear_62 rfl (lv_at hl 2 rfl) ?_
          refine m_aaldA X hW 1 (k := p1.toNatClampNeg) rfl g1 rfl dX0_hear_63 ?_
          refine lv_iload_n hx hb dX0_hear_64 rfl (lv_at hl 0 rfl) ?_
          refine m_iald X hW (6 + (p1.toNatClampNeg)) (k := x2.toNatClampNeg) (m_fg (b := 6) rfl (by rfl) (ixb_lt g1)) g9 rfl dX0_hear_65 ?_
          obtain ⟨t_chance_limbs'_5, t_chance_limb'_5, hC11, hF⟩ := bO_s2 hF
          refine m_callV X hW hA hl.1 lkX0_90 (c_Natural_addTimes l E _ N (r_t_chance (x2.toNatClampNeg)) (r_t_chance_limb (x2.toNatClampNeg)) (r_t_before (p1.toNatClampNeg)) (r_t_before_limb (p1.toNatClampNeg)) (t_chance_limbs'_4 x2.toNatClampNeg) (t_chance_limb'_4 x2.toNatClampNeg) (t_before_limbs'_6 p1.toNatClampNeg) (t_before_limb'_6 p1.toNatClampNeg) ((t_heardAs p1.toNatClampNeg) x2.toNatClampNeg) (t_chance_limbs'_5, t_chance_limb'_5) hC11) ([(16 + (x2.toNatClampNeg)), (26 + (x2.toNatClampNeg)), (36 + (p1.toNatClampNeg)), (46 + (p1.toNatClampNeg))]) (m_nd (by have := (ixb_lt g1); have := (ixb_lt g9); simp only [va_nd, List.mem_cons, List.not_mem_nil, or_false, not_or, decide_eq_true_eq, Bool.and_eq_true, not_false_eq_true, and_true, true_and]; omega)) (m_Cc (m_fg (b := 16) m_sp1 (by rfl) (ixb_lt g9)) (m_Cc (m_fg (b := 26) m_sp2 (by rfl) (ixb_lt g9)) (m_Cc (m_fg (b := 36) m_sp3 (by rfl) (ixb_lt g1)) (m_Cc (m_fg (b := 46) m_sp4 (by rfl) (ixb_lt g1)) m_Cn)))) rfl (ws' := (wd_Chances_hear E a_t a_t_below a_t_scaled a_t_scaledBelow a_t_heardAs a_t_total a_t_part a_t_chance a_t_before r_t_heardAs r_t_chance r_t_chance_limb r_t_before r_t_before_limb t_words t_heardAs t_total t_part (va_up t_chance_limb'_4 x2.toNatClampNeg t_chance_limb'_5) (va_up t_chance_limbs'_4 x2.toNatClampNeg t_chance_limbs'_5) t_before_limb'_6 t_before_limbs'_6)) (m_putc (ws1 := (wd_Chances_hear E a_t a_t_below a_t_scaled a_t_scaledBelow a_t_heardAs a_t_total a_t_part a_t_chance a_t_before r_t_heardAs r_t_chance r_t_chance_limb r_t_before r_t_before_limb t_words t_heardAs t_total t_part t_chance_limb'_4 (va_up t_chance_limbs'_4 x2.toNatClampNeg t_chance_limbs'_5) t_before_limb'_6 t_before_limbs'_6)) (m_fset (b := 16) m_sp1 (by rfl) (ixb_lt g9) m_sp1 (by intro i _; by_cases h : i = (x2.toNatClampNeg) <;> simp [va_up, h])) (m_putc (ws1 := (wd_Chances_hear E a_t a_t_below a_t_scaled a_t_scaledBelow a_t_heardAs a_t_total a_t_part a_t_chance a_t_before r_t_heardAs r_t_chance r_t_chance_limb r_t_before r_t_before_limb t_words t_heardAs t_total t_part (va_up t_chance_limb'_4 x2.toNatClampNeg t_chance_limb'_5) (va_up t_chance_limbs'_4 x2.toNatClampNeg t_chance_limbs'_5) t_before_limb'_6 t_before_limbs'_6)) (m_fset (b := 26) m_sp2 (by rfl) (ixb_lt g9) m_sp2 (by intro i _; by_cases h : i = (x2.toNatClampNeg) <;> simp [va_up, h])) (m_putc (ws1 := (wd_Chances_hear E a_t a_t_below a_t_scaled a_t_scaledBelow a_t_heardAs a_t_total a_t_part a_t_chance a_t_before r_t_heardAs r_t_chance r_t_chance_limb r_t_before r_t_before_limb t_words t_heardAs t_total t_part (va_up t_chance_limb'_4 x2.toNatClampNeg t_chance_limb'_5) (va_up t_chance_limbs'_4 x2.toNatClampNeg t_chance_limbs'_5) t_before_limb'_6 t_before_limbs'_6)) (m_fset (b := 36) m_sp3 (by rfl) (ixb_lt g1) m_sp3 (by intro i _; by_cases h : i = (p1.toNatClampNeg) <;> simp [va_up, h])) (m_putc (ws1 := (wd_Chances_hear E a_t a_t_below a_t_scaled a_t_scaledBelow a_t_heardAs a_t_total a_t_part a_t_chance a_t_before r_t_heardAs r_t_chance r_t_chance_limb r_t_before r_t_before_limb t_words t_heardAs t_total t_part (va_up t_chance_limb'_4 x2.toNatClampNeg t_chance_limb'_5) (va_up t_chance_limbs'_4 x2.toNatClampNeg t_chance_limbs'_5) t_before_limb'_6 t_before_limbs'_6)) (m_fset (b := 46) m_sp4 (by rfl) (ixb_lt g1) m_sp4 (by intro i _; by_cases h : i = (p1.toNatClampNeg) <;> simp [va_up, h])) m_putn)))) (16 + (x2.toNatClampNeg)) (m_fg (b := 16) m_sp1 (by rfl) (ixb_lt g9)) rfl rfl (As := [.ref (r_t_before (p1.toNatClampNeg)), .int ((t_heardAs p1.toNatClampNeg) x2.toNatClampNeg)]) (rest := []) rfl rfl ⟨rfl, rfl, Nat.le_of_ble_eq_true rfl, Nat.le_of_ble_eq_true rfl⟩ (Nat.le_of_ble_eq_true rfl) (Nat.zero_le _) (Nat.zero_le _) dX0_hear_66 (fun H locs hW => ?_)
          clear hC11
          refine lv_iinc (v := (x2 + (1 : Int32))) (lv' := [(2, .int (x2 + (1 : Int32))), (0, .ref a_t), (1, .int p1)]) hx hb dX0_hear_69 hl (k := 0) rfl rfl (by decide) rfl (fun ls hl => ?_)
          refine lv_goto (tgt := 27) hx hb dX0_hear_72 (by decide) ?_
          exact ih7 (x2 + (1 : Int32)) (va_up t_chance_limbs'_4 x2.toNatClampNeg t_chance_limbs'_5) (va_up t_chance_limb'_4 x2.toNatClampNeg t_chance_limb'_5) t_chance_limbs'_6 t_chance_limb'_6 _ _ _ hF hW (lv_sub hl [0, 1, 2] rfl) hk6
  subst et_before_limb'_6
  subst et_before_limbs'_6
  refine L4 N (0 : Int32) t_chance_limbs t_chance_limb t_chance_limbs'_6 t_chance_limb'_6 _ _ _ hX5 hW (lv_sub hl [0, 1, 2] rfl) ?_
  intro H locs ls hW hl
  clear L4
  have hq := Option.some.inj hF
  subst hq
  exact hret _ _ _ _ hW dX0_hear_75
abbrev wd_Chances_passOn (E : m_E) (a_t : Nat) (a_t_scaled : Nat) (a_t_scaledBelow : Nat) (a_t_heardAs : Nat) (a_t_total : Nat) (a_t_part : Nat) (a_t_chance : Nat) (a_t_before : Nat) (a_t_below : Nat) (a_t_below_limb : Nat) (r_t_heardAs : Nat → Nat) (r_t_chance : Nat → Nat) (r_t_chance_limb : Nat → Nat) (r_t_before : Nat → Nat) (r_t_before_limb : Nat → Nat) (t_words : Int32) (t_heardAs : Nat → Nat → Int32) (t_total : Nat → Int32) (t_part : Nat → Int32) (t_chance_limb : Nat → Nat → Int32) (t_chance_limbs : Nat → Int32) (t_before_limb : Nat → Nat → Int32) (t_before_limbs : Nat → Int32) (t_below_limbs : Int32) (t_below_limb : Nat → Int32) : va_W := [(a_t, .inr (0, [.ref a_t_heardAs, .ref a_t_total, .ref a_t_part, .ref a_t_chance, .ref a_t_before, .ref a_t_below, .ref a_t_scaled, .ref a_t_scaledBelow, .int t_words])), (a_t_heardAs, .inl (E.2.1 3, 10, .inr (.inr (.inr (.inr (fun i => some (r_t_heardAs i))))))), (a_t_total, .inl (E.2.1 0, 10, .inl t_total)), (a_t_part, .inl (E.2.1 0, 10, .inl t_part)), (a_t_chance, .inl (E.2.1 2, 10, .inr (.inr (.inr (.inr (fun i => some (r_t_chance i))))))), (a_t_before, .inl (E.2.1 2, 10, .inr (.inr (.inr (.inr (fun i => some (r_t_before i))))))), (a_t_below, .inr (4, [.ref a_t_below_limb, .int t_below_limbs])), (a_t_below_limb, .inl (E.2.1 0, 40, .inl t_below_limb))] ++ (m_fam 10 (fun i => (r_t_heardAs i, .inl (E.2.1 0, 10, .inl (t_heardAs i)))) ++ (m_fam 10 (fun i => (r_t_chance i, .inr (4, [.ref (r_t_chance_limb i), .int (t_chance_limbs i)]))) ++ (m_fam 10 (fun i => (r_t_chance_limb i, .inl (E.2.1 0, 40, .inl (t_chance_limb i)))) ++ (m_fam 10 (fun i => (r_t_before i, .inr (4, [.ref (r_t_before_limb i), .int (t_before_limbs i)]))) ++ (m_fam 10 (fun i => (r_t_before_limb i, .inl (E.2.1 0, 40, .inl (t_before_limb i)))) ++ [])))))
def rm_Chances_passOn : Room := { frames := 3, cells := 0, slots := 0, locals := 70 }
set_option maxHeartbeats 4000000 in
set_option maxRecDepth 100000 in
theorem c_Chances_passOn (l : Launch) (E : m_E) (sz N : Nat) (a_t : Nat) (a_t_scaled : Nat) (a_t_scaledBelow : Nat) (a_t_heardAs : Nat) (a_t_total : Nat) (a_t_part : Nat) (a_t_chance : Nat) (a_t_before : Nat) (a_t_below : Nat) (a_t_below_limb : Nat) (r_t_heardAs : Nat → Nat) (r_t_chance : Nat → Nat) (r_t_chance_limb : Nat → Nat) (r_t_before : Nat → Nat) (r_t_before_limb : Nat → Nat) (t_words : Int32) (t_heardAs : Nat → Nat → Int32) (t_total : Nat → Int32) (t_part : Nat → Int32) (t_chance_limb : Nat → Nat → Int32) (t_chance_limbs : Nat → Int32) (t_before_limb : Nat → Nat → Int32) (t_before_limbs : Nat → Int32) (t_below_limbs : Int32) (t_below_limb : Nat → Int32)  (ures : (Nat → Nat → Int32) × (Nat → Int32) × (Nat → Nat → Int32) × (Nat → Int32) × Int32 × (Nat → Int32)) (hF : F_Chances_passOn N t_words t_heardAs t_total t_part t_chance_limb t_chance_limbs t_before_limb t_before_limbs t_below_limbs t_below_limb = some ures) : m_Met l yX0_passOn cX0_passOn 2 none rm_Chances_passOn E (wd_Chances_passOn E a_t a_t_scaled a_t_scaledBelow a_t_heardAs a_t_total a_t_part a_t_chance a_t_before a_t_below a_t_below_limb r_t_heardAs r_t_chance r_t_chance_limb r_t_before r_t_before_limb t_words t_heardAs t_total t_part t_chance_limb t_chance_limbs t_before_limb t_before_limbs t_below_limbs t_below_limb) (wd_Chances_passOn E a_t a_t_scaled a_t_scaledBelow a_t_heardAs a_t_total a_t_part a_t_chance a_t_before a_t_below a_t_below_limb r_t_heardAs r_t_chance r_t_chance_limb r_t_before r_t_before_limb t_words t_heardAs t_total t_part ures.1 ures.2.1 ures.2.2.1 ures.2.2.2.1 ures.2.2.2.2.1 ures.2.2.2.2.2) sz [.ref a_t] none := by
  refine m_ofV (by decide) (Nat.le_of_ble_eq_true rfl) ?_
  intro p e s m args below meth c A Q ls X hW hA hl hret
  obtain ⟨hx, hb, -, hown, hts, hK, -, hG⟩ := id X
  have hl : lv_has ls 2 [(0, .ref a_t)] := hl
  unfold F_Chances_passOn at hF
  refine lv_iconst (v := (0 : Int32)) hx hb dX0_passOn_0 (by decide) ?_
  refine lv_istore_n (lv' := [(1, .int (0 : Int32)), (0, .ref a_t)]) hx hb dX0_passOn_1 rfl hl (by decide) rfl (fun ls hl => ?_)
  obtain ⟨t_chance_limbs'_9, t_chance_limb'_9, t_before_limbs'_9, t_before_limb'_9, hX2, hF⟩ := bO_s4 hF
  have L1 : ∀ (k0 : Nat) (x1 : Int32) (t_chance_limbs'_7 : Nat → Int32) (t_chance_limb'_7 : Nat → Nat → Int32) (t_before_limbs'_7 : Nat → Int32) (t_before_limb'_7 : Nat → Nat → Int32) (t_chance_limbs'_9 : Nat → Int32) (t_chance_limb'_9 : Nat → Nat → Int32) (t_before_limbs'_9 : Nat → Int32) (t_before_limb'_9 : Nat → Nat → Int32) (H : Heap) (locs : List Loc) (ls : Array Slot), Chances_passOn_L2 t_words k0 x1 t_chance_limbs'_7 t_chance_limb'_7 t_before_limbs'_7 t_before_limb'_7 = some (t_chance_limbs'_9, t_chance_limb'_9, t_before_limbs'_9, t_before_limb'_9) → m_H E A (wd_Chances_passOn E a_t a_t_scaled a_t_scaledBelow a_t_heardAs a_t_total a_t_part a_t_chance a_t_before a_t_below a_t_below_limb r_t_heardAs r_t_chance r_t_chance_limb r_t_before r_t_before_limb t_words t_heardAs t_total t_part t_chance_limb'_7 t_chance_limbs'_7 t_before_limb'_7 t_before_limbs'_7 t_below_limbs t_below_limb) s.heap H locs → lv_has ls 2 [(1, .int x1), (0, .ref a_t)] → (∀ (H : Heap) (locs : List Loc) (ls : Array Slot), m_H E A (wd_Chances_passOn E a_t a_t_scaled a_t_scaledBelow a_t_heardAs a_t_total a_t_part a_t_chance a_t_before a_t_below a_t_below_limb r_t_heardAs r_t_chance r_t_chance_limb r_t_before r_t_before_limb t_words t_heardAs t_total t_part t_chance_limb'_9 t_chance_limbs'_9 t_before_limb'_9 t_before_limbs'_9 t_below_limbs t_below_limb) s.heap H locs → lv_has ls 2 [(0, .ref a_t)] → W p l e rm_Chances_passOn s m args below meth c H locs 0 0 Q (F0 m 41 ls [])) → W p l e rm_Chances_passOn s m args below meth c H locs 0 0 Q (F0 m 2 ls []) := by
    clear hF
    intro k0
    induction k0 with
    | zero =>
      intro x1 t_chance_limbs'_7 t_chance_limb'_7 t_before_limbs'_7 t_before_limb'_7 t_chance_limbs'_9 t_chance_limb'_9 t_before_limbs'_9 t_before_limb'_9 H locs ls hF
      cases hF
    | succ k0 ih4 =>
      intro x1 t_chance_limbs'_7 t_chance_limb'_7 t_before_limbs'_7 t_before_limb'_7 t_chance_limbs'_9 t_chance_limb'_9 t_before_limbs'_9 t_before_limb'_9 H locs ls hF hW hl hk3
      rw [Chances_passOn_L2] at hF
      refine lv_iload_n hx hb dX0_passOn_2 rfl (lv_at hl 0 rfl) ?_
      refine lv_aload_n hx hb dX0_passOn_3 rfl (lv_at hl 1 rfl) ?_
      refine m_get X hW fdX0_47 0 rfl rfl dX0_passOn_4 ?_
      refine lv_icmp_ge (tgt := 41) hx hb dX0_passOn_7 (by decide) (fun c5 => ?_) (fun c5 => ?_)
      · have hF := if_y c5 hF
        cases hF
        exact hk3 _ _ _ hW (lv_sub hl [1] rfl)
      · have hF := if_n c5 hF
        refine lv_aload_n hx hb dX0_passOn_10 rfl (lv_at hl 1 rfl) ?_
        refine m_get X hW fdX0_29 0 rfl rfl dX0_passOn_11 ?_
        refine lv_iload_n hx hb dX0_passOn_14 rfl (lv_at hl 0 rfl) ?_
        obtain ⟨g6, hF⟩ := gd_some hF
        refine m_aald X hW 5 (k := x1.toNatClampNeg) rfl g6 rfl dX0_passOn_15 ?_
        refine lv_aload_n hx hb dX0_passOn_16 rfl (lv_at hl 1 rfl) ?_
        refine m_get X hW fdX0_25 0 rfl rfl dX0_passOn_17 ?_
        refine lv_iload_n hx hb dX0_passOn_20 rfl (lv_at hl 0 rfl) ?_
        refine m_aald X hW 4 (k := x1.toNatClampNeg) rfl g6 rfl dX0_passOn_21 ?_
        obtain ⟨t_before_limbs'_8, t_before_limb'_8, hC7, hF⟩ := bO_s2 hF
        refine m_callV X hW hA hl.1 lkX0_74 (c_Natural_copyFrom l E _ N (r_t_before (x1.toNatClampNeg)) (r_t_before_limb (x1.toNatClampNeg)) (r_t_chance (x1.toNatClampNeg)) (r_t_chance_limb (x1.toNatClampNeg)) (t_before_limbs'_7 x1.toNatClampNeg) (t_before_limb'_7 x1.toNatClampNeg) (t_chance_limbs'_7 x1.toNatClampNeg) (t_chance_limb'_7 x1.toNatClampNeg)  (t_before_limbs'_8, t_before_limb'_8) hC7) ([(38 + (x1.toNatClampNeg)), (48 + (x1.toNatClampNeg)), (18 + (x1.toNatClampNeg)), (28 + (x1.toNatClampNeg))]) (m_nd (by have := (ixb_lt g6); simp only [va_nd, List.mem_cons, List.not_mem_nil, or_false, not_or, decide_eq_true_eq, Bool.and_eq_true, not_false_eq_true, and_true, true_and]; omega)) (m_Cc (m_fg (b := 38) m_sp3 (by rfl) (ixb_lt g6)) (m_Cc (m_fg (b := 48) m_sp4 (by rfl) (ixb_lt g6)) (m_Cc (m_fg (b := 18) m_sp1 (by rfl) (ixb_lt g6)) (m_Cc (m_fg (b := 28) m_sp2 (by rfl) (ixb_lt g6)) m_Cn)))) rfl (ws' := (wd_Chances_passOn E a_t a_t_scaled a_t_scaledBelow a_t_heardAs a_t_total a_t_part a_t_chance a_t_before a_t_below a_t_below_limb r_t_heardAs r_t_chance r_t_chance_limb r_t_before r_t_before_limb t_words t_heardAs t_total t_part t_chance_limb'_7 t_chance_limbs'_7 (va_up t_before_limb'_7 x1.toNatClampNeg t_before_limb'_8) (va_up t_before_limbs'_7 x1.toNatClampNeg t_before_limbs'_8) t_below_limbs t_below_limb)) (m_putc (ws1 := (wd_Chances_passOn E a_t a_t_scaled a_t_scaledBelow a_t_heardAs a_t_total a_t_part a_t_chance a_t_before a_t_below a_t_below_limb r_t_heardAs r_t_chance r_t_chance_limb r_t_before r_t_before_limb t_words t_heardAs t_total t_part t_chance_limb'_7 t_chance_limbs'_7 t_before_limb'_7 (va_up t_before_limbs'_7 x1.toNatClampNeg t_before_limbs'_8) t_below_limbs t_below_limb)) (m_fset (b := 38) m_sp3 (by rfl) (ixb_lt g6) m_sp3 (by intro i _; by_cases h : i = (x1.toNatClampNeg) <;> simp [va_up, h])) (m_putc (ws1 := (wd_Chances_passOn E a_t a_t_scaled a_t_scaledBelow a_t_heardAs a_t_total a_t_part a_t_chance a_t_before a_t_below a_t_below_limb r_t_heardAs r_t_chance r_t_chance_limb r_t_before r_t_before_limb t_words t_heardAs t_total t_part t_chance_limb'_7 t_chance_limbs'_7 (va_up t_before_limb'_7 x1.toNatClampNeg t_before_limb'_8) (va_up t_before_limbs'_7 x1.toNatClampNeg t_before_limbs'_8) t_below_limbs t_below_limb)) (m_fset (b := 48) m_sp4 (by rfl) (ixb_lt g6) m_sp4 (by intro i _; by_cases h : i = (x1.toNatClampNeg) <;> simp [va_up, h])) (m_putc (ws1 := (wd_Chances_passOn E a_t a_t_scaled a_t_scaledBelow a_t_heardAs a_t_total a_t_part a_t_chance a_t_before a_t_below a_t_below_limb r_t_heardAs r_t_chance r_t_chance_limb r_t_before r_t_before_limb t_words t_heardAs t_total t_part t_chance_limb'_7 t_chance_limbs'_7 (va_up t_before_limb'_7 x1.toNatClampNeg t_before_limb'_8) (va_up t_before_limbs'_7 x1.toNatClampNeg t_before_limbs'_8) t_below_limbs t_below_limb)) (m_fset (b := 18) m_sp1 (by rfl) (ixb_lt g6) m_sp1 (by intro i _; by_cases h : i = (x1.toNatClampNeg) <;> simp [va_up, h])) (m_putc (ws1 := (wd_Chances_passOn E a_t a_t_scaled a_t_scaledBelow a_t_heardAs a_t_total a_t_part a_t_chance a_t_before a_t_below a_t_below_limb r_t_heardAs r_t_chance r_t_chance_limb r_t_before r_t_before_limb t_words t_heardAs t_total t_part t_chance_limb'_7 t_chance_limbs'_7 (va_up t_before_limb'_7 x1.toNatClampNeg t_before_limb'_8) (va_up t_before_limbs'_7 x1.toNatClampNeg t_before_limbs'_8) t_below_limbs t_below_limb)) (m_fset (b := 28) m_sp2 (by rfl) (ixb_lt g6) m_sp2 (by intro i _; by_cases h : i = (x1.toNatClampNeg) <;> simp [va_up, h])) m_putn)))) (38 + (x1.toNatClampNeg)) (m_fg (b := 38) m_sp3 (by rfl) (ixb_lt g6)) rfl rfl (As := [.ref (r_t_chance (x1.toNatClampNeg))]) (rest := []) rfl rfl ⟨rfl, rfl, Nat.le_of_ble_eq_true rfl, Nat.le_of_ble_eq_true rfl⟩ (Nat.le_of_ble_eq_true rfl) (Nat.zero_le _) (Nat.zero_le _) dX0_passOn_22 (fun H locs hW => ?_)
        clear hC7
        refine lv_aload_n hx hb dX0_passOn_25 rfl (lv_at hl 1 rfl) ?_
        refine m_get X hW fdX0_25 0 rfl rfl dX0_passOn_26 ?_
        refine lv_iload_n hx hb dX0_passOn_29 rfl (lv_at hl 0 rfl) ?_
        refine m_aald X hW 4 (k := x1.toNatClampNeg) rfl g6 rfl dX0_passOn_30 ?_
        refine lv_iconst (v := (0 : Int32)) hx hb dX0_passOn_31 (by decide) ?_
        obtain ⟨t_chance_limbs'_8, t_chance_limb'_8, hC8, hF⟩ := bO_s2 hF
        refine m_callV X hW hA hl.1 lkX0_64 (c_Natural_put l E _ N (r_t_chance (x1.toNatClampNeg)) (r_t_chance_limb (x1.toNatClampNeg)) (t_chance_limbs'_7 x1.toNatClampNeg) (t_chance_limb'_7 x1.toNatClampNeg) (0 : Int32) (t_chance_limbs'_8, t_chance_limb'_8) hC8) ([(18 + (x1.toNatClampNeg)), (28 + (x1.toNatClampNeg))]) (m_nd (by have := (ixb_lt g6); simp only [va_nd, List.mem_cons, List.not_mem_nil, or_false, not_or, decide_eq_true_eq, Bool.and_eq_true, not_false_eq_true, and_true, true_and]; omega)) (m_Cc (m_fg (b := 18) m_sp1 (by rfl) (ixb_lt g6)) (m_Cc (m_fg (b := 28) m_sp2 (by rfl) (ixb_lt g6)) m_Cn)) rfl (ws' := (wd_Chances_passOn E a_t a_t_scaled a_t_scaledBelow a_t_heardAs a_t_total a_t_part a_t_chance a_t_before a_t_below a_t_below_limb r_t_heardAs r_t_chance r_t_chance_limb r_t_before r_t_before_limb t_words t_heardAs t_total t_part (va_up t_chance_limb'_7 x1.toNatClampNeg t_chance_limb'_8) (va_up t_chance_limbs'_7 x1.toNatClampNeg t_chance_limbs'_8) (va_up t_before_limb'_7 x1.toNatClampNeg t_before_limb'_8) (va_up t_before_limbs'_7 x1.toNatClampNeg t_before_limbs'_8) t_below_limbs t_below_limb)) (m_putc (ws1 := (wd_Chances_passOn E a_t a_t_scaled a_t_scaledBelow a_t_heardAs a_t_total a_t_part a_t_chance a_t_before a_t_below a_t_below_limb r_t_heardAs r_t_chance r_t_chance_limb r_t_before r_t_before_limb t_words t_heardAs t_total t_part t_chance_limb'_7 (va_up t_chance_limbs'_7 x1.toNatClampNeg t_chance_limbs'_8) (va_up t_before_limb'_7 x1.toNatClampNeg t_before_limb'_8) (va_up t_before_limbs'_7 x1.toNatClampNeg t_before_limbs'_8) t_below_limbs t_below_limb)) (m_fset (b := 18) m_sp1 (by rfl) (ixb_lt g6) m_sp1 (by intro i _; by_cases h : i = (x1.toNatClampNeg) <;> simp [va_up, h])) (m_putc (ws1 := (wd_Chances_passOn E a_t a_t_scaled a_t_scaledBelow a_t_heardAs a_t_total a_t_part a_t_chance a_t_before a_t_below a_t_below_limb r_t_heardAs r_t_chance r_t_chance_limb r_t_before r_t_before_limb t_words t_heardAs t_total t_part (va_up t_chance_limb'_7 x1.toNatClampNeg t_chance_limb'_8) (va_up t_chance_limbs'_7 x1.toNatClampNeg t_chance_limbs'_8) (va_up t_before_limb'_7 x1.toNatClampNeg t_before_limb'_8) (va_up t_before_limbs'_7 x1.toNatClampNeg t_before_limbs'_8) t_below_limbs t_below_limb)) (m_fset (b := 28) m_sp2 (by rfl) (ixb_lt g6) m_sp2 (by intro i _; by_cases h : i = (x1.toNatClampNeg) <;> simp [va_up, h])) m_putn)) (18 + (x1.toNatClampNeg)) (m_fg (b := 18) m_sp1 (by rfl) (ixb_lt g6)) rfl rfl (As := [.int (0 : Int32)]) (rest := []) rfl rfl ⟨rfl, rfl, Nat.le_of_ble_eq_true rfl, Nat.le_of_ble_eq_true rfl⟩ (Nat.le_of_ble_eq_true rfl) (Nat.zero_le _) (Nat.zero_le _) dX0_passOn_32 (fun H locs hW => ?_)
        clear hC8
        refine lv_iinc (v := (x1 + (1 : Int32))) (lv' := [(1, .int (x1 + (1 : Int32))), (0, .ref a_t)]) hx hb dX0_passOn_35 hl (k := 0) rfl rfl (by decide) rfl (fun ls hl => ?_)
        refine lv_goto (tgt := 2) hx hb dX0_passOn_38 (by decide) ?_
        exact ih4 (x1 + (1 : Int32)) (va_up t_chance_limbs'_7 x1.toNatClampNeg t_chance_limbs'_8) (va_up t_chance_limb'_7 x1.toNatClampNeg t_chance_limb'_8) (va_up t_before_limbs'_7 x1.toNatClampNeg t_before_limbs'_8) (va_up t_before_limb'_7 x1.toNatClampNeg t_before_limb'_8) t_chance_limbs'_9 t_chance_limb'_9 t_before_limbs'_9 t_before_limb'_9 _ _ _ hF hW (lv_sub hl [0, 1] rfl) hk3
  refine L1 N (0 : Int32) t_chance_limbs t_chance_limb t_before_limbs t_before_limb t_chance_limbs'_9 t_chance_limb'_9 t_before_limbs'_9 t_before_limb'_9 _ _ _ hX2 hW (lv_sub hl [0, 1] rfl) ?_
  intro H locs ls hW hl
  clear L1
  refine lv_iconst (v := (0 : Int32)) hx hb dX0_passOn_41 (by decide) ?_
  refine lv_istore_n (lv' := [(1, .int (0 : Int32)), (0, .ref a_t)]) hx hb dX0_passOn_42 rfl hl (by decide) rfl (fun ls hl => ?_)
  obtain ⟨t_chance_limbs'_12, t_chance_limb'_12, t_before_limbs'_12, t_before_limb'_12, hX10, hF⟩ := bO_s4 hF
  have L9 : ∀ (k0 : Nat) (x1_2 : Int32) (t_chance_limbs'_10 : Nat → Int32) (t_chance_limb'_10 : Nat → Nat → Int32) (t_before_limbs'_10 : Nat → Int32) (t_before_limb'_10 : Nat → Nat → Int32) (t_chance_limbs'_12 : Nat → Int32) (t_chance_limb'_12 : Nat → Nat → Int32) (t_before_limbs'_12 : Nat → Int32) (t_before_limb'_12 : Nat → Nat → Int32) (H : Heap) (locs : List Loc) (ls : Array Slot), Chances_passOn_L43 N t_words t_heardAs t_total t_part k0 x1_2 t_chance_limbs'_10 t_chance_limb'_10 t_before_limbs'_10 t_before_limb'_10 = some (t_chance_limbs'_12, t_chance_limb'_12, t_before_limbs'_12, t_before_limb'_12) → m_H E A (wd_Chances_passOn E a_t a_t_scaled a_t_scaledBelow a_t_heardAs a_t_total a_t_part a_t_chance a_t_before a_t_below a_t_below_limb r_t_heardAs r_t_chance r_t_chance_limb r_t_before r_t_before_limb t_words t_heardAs t_total t_part t_chance_limb'_10 t_chance_limbs'_10 t_before_limb'_10 t_before_limbs'_10 t_below_limbs t_below_limb) s.heap H locs → lv_has ls 2 [(1, .int x1_2), (0, .ref a_t)] → (∀ (H : Heap) (locs : List Loc) (ls : Array Slot), m_H E A (wd_Chances_passOn E a_t a_t_scaled a_t_scaledBelow a_t_heardAs a_t_total a_t_part a_t_chance a_t_before a_t_below a_t_below_limb r_t_heardAs r_t_chance r_t_chance_limb r_t_before r_t_before_limb t_words t_heardAs t_total t_part t_chance_limb'_12 t_chance_limbs'_12 t_before_limb'_12 t_before_limbs'_12 t_below_limbs t_below_limb) s.heap H locs → lv_has ls 2 [(0, .ref a_t)] → W p l e rm_Chances_passOn s m args below meth c H locs 0 0 Q (F0 m 74 ls [])) → W p l e rm_Chances_passOn s m args below meth c H locs 0 0 Q (F0 m 43 ls []) := by
    clear hF
    intro k0
    induction k0 with
    | zero =>
      intro x1_2 t_chance_limbs'_10 t_chance_limb'_10 t_before_limbs'_10 t_before_limb'_10 t_chance_limbs'_12 t_chance_limb'_12 t_before_limbs'_12 t_before_limb'_12 H locs ls hF
      cases hF
    | succ k0 ih12 =>
      intro x1_2 t_chance_limbs'_10 t_chance_limb'_10 t_before_limbs'_10 t_before_limb'_10 t_chance_limbs'_12 t_chance_limb'_12 t_before_limbs'_12 t_before_limb'_12 H locs ls hF hW hl hk11
      rw [Chances_passOn_L43] at hF
      refine lv_iload_n hx hb dX0_passOn_43 rfl (lv_at hl 0 rfl) ?_
      refine lv_aload_n hx hb dX0_passOn_44 rfl (lv_at hl 1 rfl) ?_
      refine m_get X hW fdX0_47 0 rfl rfl dX0_passOn_45 ?_
      refine lv_icmp_ge (tgt := 74) hx hb dX0_passOn_48 (by decide) (fun c13 => ?_) (fun c13 => ?_)
      · have hF := if_y c13 hF
        cases hF
        exact hk11 _ _ _ hW (lv_sub hl [1] rfl)
      · have hF := if_n c13 hF
        refine lv_aload_n hx hb dX0_passOn_51 rfl (lv_at hl 1 rfl) ?_
        refine m_get X hW fdX0_29 0 rfl rfl dX0_passOn_52 ?_
        refine lv_iload_n hx hb dX0_passOn_55 rfl (lv_at hl 0 rfl) ?_
        obtain ⟨g14, hF⟩ := gd_some hF
        refine m_aald X hW 5 (k := x1_2.toNatClampNeg) rfl g14 rfl dX0_passOn_56 ?_
        refine m_get X hW fdX0_78 (38 + (x1_2.toNatClampNeg)) (m_fg (b := 38) m_sp3 (by rfl) (ixb_lt g14)) rfl dX0_passOn_57 ?_
        refine lv_if_le (tgt := 68) hx hb dX0_passOn_60 (by decide) (fun c15 => ?_) (fun c15 => ?_)
        · have hF := if_y c15 hF
          refine lv_iinc (v := (x1_2 + (1 : Int32))) (lv' := [(1, .int (x1_2 + (1 : Int32))), (0, .ref a_t)]) hx hb dX0_passOn_68 hl (k := 0) rfl rfl (by decide) rfl (fun ls hl => ?_)
          refine lv_goto (tgt := 43) hx hb dX0_passOn_71 (by decide) ?_
          exact ih12 (x1_2 + (1 : Int32)) t_chance_limbs'_10 t_chance_limb'_10 t_before_limbs'_10 t_before_limb'_10 t_chance_limbs'_12 t_chance_limb'_12 t_before_limbs'_12 t_before_limb'_12 _ _ _ hF hW (lv_sub hl [0, 1] rfl) hk11
        · have hF := if_n c15 hF
          refine lv_aload_n hx hb dX0_passOn_63 rfl (lv_at hl 1 rfl) ?_
          refine lv_iload_n hx hb dX0_passOn_64 rfl (lv_at hl 0 rfl) ?_
          obtain ⟨t_chance_limb'_11, t_chance_limbs'_11, t_before_limb'_11, t_before_limbs'_11, hC16, hF⟩ := bO_s4 hF
          refine m_callV X hW hA hl.1 lkX0_81 (c_Chances_hear l E _ N a_t a_t_below a_t_scaled a_t_scaledBelow a_t_heardAs a_t_total a_t_part a_t_chance a_t_before r_t_heardAs r_t_chance r_t_chance_limb r_t_before r_t_before_limb t_words t_heardAs t_total t_part t_chance_limb'_10 t_chance_limbs'_10 t_before_limb'_10 t_before_limbs'_10 x1_2 (t_chance_limb'_11, t_chance_limbs'_11, t_before_limb'_11, t_before_limbs'_11) hC16) ([0, 1, 2, 3, 4, 5] ++ ((List.range 10).map (fun i => 8 + i) ++ ((List.range 10).map (fun i => 18 + i) ++ ((List.range 10).map (fun i => 28 + i) ++ ((List.range 10).map (fun i => 38 + i) ++ ((List.range 10).map (fun i => 48 + i) ++ [])))))) (by decide +kernel) (m_CA (by rfl) (m_CA (m_CF (b := 8) rfl (by rfl)) (m_CA (m_CF (b := 18) m_sp1 (by rfl)) (m_CA (m_CF (b := 28) m_sp2 (by rfl)) (m_CA (m_CF (b := 38) m_sp3 (by rfl)) (m_CA (m_CF (b := 48) m_sp4 (by rfl)) m_Cn)))))) (by simp [m_fam]) (ws' := (wd_Chances_passOn E a_t a_t_scaled a_t_scaledBelow a_t_heardAs a_t_total a_t_part a_t_chance a_t_before a_t_below a_t_below_limb r_t_heardAs r_t_chance r_t_chance_limb r_t_before r_t_before_limb t_words t_heardAs t_total t_part t_chance_limb'_11 t_chance_limbs'_11 t_before_limb'_11 t_before_limbs'_11 t_below_limbs t_below_limb)) (m_putA (ws1 := (wd_Chances_passOn E a_t a_t_scaled a_t_scaledBelow a_t_heardAs a_t_total a_t_part a_t_chance a_t_before a_t_below a_t_below_limb r_t_heardAs r_t_chance r_t_chance_limb r_t_before r_t_before_limb t_words t_heardAs t_total t_part t_chance_limb'_10 t_chance_limbs'_10 t_before_limb'_10 t_before_limbs'_10 t_below_limbs t_below_limb)) (by rfl) (by rfl) (m_putA (ws1 := (wd_Chances_passOn E a_t a_t_scaled a_t_scaledBelow a_t_heardAs a_t_total a_t_part a_t_chance a_t_before a_t_below a_t_below_limb r_t_heardAs r_t_chance r_t_chance_limb r_t_before r_t_before_limb t_words t_heardAs t_total t_part t_chance_limb'_10 t_chance_limbs'_10 t_before_limb'_10 t_before_limbs'_10 t_below_limbs t_below_limb)) (by simp [m_fam]) (m_putF (b := 8) rfl (by rfl) rfl) (m_putA (ws1 := (wd_Chances_passOn E a_t a_t_scaled a_t_scaledBelow a_t_heardAs a_t_total a_t_part a_t_chance a_t_before a_t_below a_t_below_limb r_t_heardAs r_t_chance r_t_chance_limb r_t_before r_t_before_limb t_words t_heardAs t_total t_part t_chance_limb'_10 t_chance_limbs'_11 t_before_limb'_10 t_before_limbs'_10 t_below_limbs t_below_limb)) (by simp [m_fam]) (m_putF (b := 18) m_sp1 (by rfl) m_sp1) (m_putA (ws1 := (wd_Chances_passOn E a_t a_t_scaled a_t_scaledBelow a_t_heardAs a_t_total a_t_part a_t_chance a_t_before a_t_below a_t_below_limb r_t_heardAs r_t_chance r_t_chance_limb r_t_before r_t_before_limb t_words t_heardAs t_total t_part t_chance_limb'_11 t_chance_limbs'_11 t_before_limb'_10 t_before_limbs'_10 t_below_limbs t_below_limb)) (by simp [m_fam]) (m_putF (b := 28) m_sp2 (by rfl) m_sp2) (m_putA (ws1 := (wd_Chances_passOn E a_t a_t_scaled a_t_scaledBelow a_t_heardAs a_t_total a_t_part a_t_chance a_t_before a_t_below a_t_below_limb r_t_heardAs r_t_chance r_t_chance_limb r_t_before r_t_before_limb t_words t_heardAs t_total t_part t_chance_limb'_11 t_chance_limbs'_11 t_before_limb'_10 t_before_limbs'_11 t_below_limbs t_below_limb)) (by simp [m_fam]) (m_putF (b := 38) m_sp3 (by rfl) m_sp3) (m_putA (ws1 := (wd_Chances_passOn E a_t a_t_scaled a_t_scaledBelow a_t_heardAs a_t_total a_t_part a_t_chance a_t_before a_t_below a_t_below_limb r_t_heardAs r_t_chance r_t_chance_limb r_t_before r_t_before_limb t_words t_heardAs t_total t_part t_chance_limb'_11 t_chance_limbs'_11 t_before_limb'_11 t_before_limbs'_11 t_below_limbs t_below_limb)) (by simp [m_fam]) (m_putF (b := 48) m_sp4 (by rfl) m_sp4) m_putn)))))) 0 rfl rfl rfl (As := [.int x1_2]) (rest := []) rfl rfl ⟨rfl, rfl, Nat.le_of_ble_eq_true rfl, Nat.le_of_ble_eq_true rfl⟩ (Nat.le_of_ble_eq_true rfl) (Nat.zero_le _) (Nat.zero_le _) dX0_passOn_65 (fun H locs hW => ?_)
          clear hC16
          refine lv_iinc (v := (x1_2 + (1 : Int32))) (lv' := [(1, .int (x1_2 + (1 : Int32))), (0, .ref a_t)]) hx hb dX0_passOn_68 hl (k := 0) rfl rfl (by decide) rfl (fun ls hl => ?_)
          refine lv_goto (tgt := 43) hx hb dX0_passOn_71 (by decide) ?_
          exact ih12 (x1_2 + (1 : Int32)) t_chance_limbs'_11 t_chance_limb'_11 t_before_limbs'_11 t_before_limb'_11 t_chance_limbs'_12 t_chance_limb'_12 t_before_limbs'_12 t_before_limb'_12 _ _ _ hF hW (lv_sub hl [0, 1] rfl) hk11
  refine L9 N (0 : Int32) t_chance_limbs'_9 t_chance_limb'_9 t_before_limbs'_9 t_before_limb'_9 t_chance_limbs'_12 t_chance_limb'_12 t_before_limbs'_12 t_before_limb'_12 _ _ _ hX10 hW (lv_sub hl [0, 1] rfl) ?_
  intro H locs ls hW hl
  clear L9
  refine lv_aload_n hx hb dX0_passOn_74 rfl (lv_at hl 0 rfl) ?_
  refine lv_aload_n hx hb dX0_passOn_75 rfl (lv_at hl 0 rfl) ?_
  refine m_get X hW fdX0_33 0 rfl rfl dX0_passOn_76 ?_
  obtain ⟨t_below_limbs'_2, t_below_limb'_2, hC17, hF⟩ := bO_s2 hF
  refine m_callV X hW hA hl.1 lkX0_84 (c_Chances_multiplyByParts l E _ N a_t a_t_heardAs a_t_total a_t_chance a_t_before a_t_below a_t_scaled a_t_scaledBelow a_t_part a_t_below a_t_below_limb t_words t_part t_below_limbs t_below_limb  (t_below_limbs'_2, t_below_limb'_2) hC17) ([0, 3, 6, 7]) (by decide) rfl rfl (ws' := (wd_Chances_passOn E a_t a_t_scaled a_t_scaledBelow a_t_heardAs a_t_total a_t_part a_t_chance a_t_before a_t_below a_t_below_limb r_t_heardAs r_t_chance r_t_chance_limb r_t_before r_t_before_limb t_words t_heardAs t_total t_part t_chance_limb'_12 t_chance_limbs'_12 t_before_limb'_12 t_before_limbs'_12 t_below_limbs'_2 t_below_limb'_2)) rfl 0 rfl rfl rfl (As := [.ref a_t_below]) (rest := []) rfl rfl ⟨rfl, rfl, Nat.le_of_ble_eq_true rfl, Nat.le_of_ble_eq_true rfl⟩ (Nat.le_of_ble_eq_true rfl) (Nat.zero_le _) (Nat.zero_le _) dX0_passOn_79 (fun H locs hW => ?_)
  clear hC17
  have hq := Option.some.inj hF
  subst hq
  exact hret _ _ _ _ hW dX0_passOn_82
abbrev wd_Natural_remainder (E : m_E) (a_t : Nat) (a_t_limb : Nat) (t_limbs : Int32) (t_limb : Nat → Int32) : va_W := [(a_t, .inr (4, [.ref a_t_limb, .int t_limbs])), (a_t_limb, .inl (E.2.1 0, 40, .inl t_limb))]
def rm_Natural_remainder : Room := { frames := 0, cells := 0, slots := 0, locals := 0 }
set_option maxHeartbeats 4000000 in
set_option maxRecDepth 100000 in
theorem c_Natural_remainder (l : Launch) (E : m_E) (sz N : Nat) (a_t : Nat) (a_t_limb : Nat) (t_limbs : Int32) (t_limb : Nat → Int32) (p1 : Int32) (ures : Int32) (hF : F_Natural_remainder N p1 t_limbs t_limb = some ures) : m_Met l yX4_remainder cX4_remainder 5 (some .int) rm_Natural_remainder E (wd_Natural_remainder E a_t a_t_limb t_limbs t_limb) (wd_Natural_remainder E a_t a_t_limb t_limbs t_limb) sz [.ref a_t, .int p1] (some (.int ures)) := by
  refine m_ofI (by decide) (Nat.le_of_ble_eq_true rfl) ?_
  intro p e s m args below meth c A Q ls X hW hA hl hret
  obtain ⟨hx, hb, -, hown, hts, hK, -, hG⟩ := id X
  have hl : lv_has ls 5 [(0, .ref a_t), (1, .int p1)] := hl
  unfold F_Natural_remainder at hF
  refine lv_iload_n hx hb dX4_remainder_0 rfl (lv_at hl 1 rfl) ?_
  refine lv_if_gt (tgt := 6) hx hb dX4_remainder_1 (by decide) (fun c1 => ?_) (fun c1 => ?_)
  · have hF := if_y c1 hF
    refine lv_lconst (v := (0 : Int64)) hx hb dX4_remainder_6 (by decide) ?_
    refine lv_lstore_n (lv' := [(2, .long (0 : Int64)), (0, .ref a_t), (1, .int p1)]) hx hb dX4_remainder_7 rfl hl (by decide) rfl (fun ls hl => ?_)
    refine lv_aload_n hx hb dX4_remainder_8 rfl (lv_at hl 1 rfl) ?_
    refine m_get X hW fdX4_15 0 rfl rfl dX4_remainder_9 ?_
    refine lv_iconst (v := (1 : Int32)) hx hb dX4_remainder_12 (by decide) ?_
    refine lv_isub hx hb dX4_remainder_13 ?_
    refine lv_istore (lv' := [(4, .int (t_limbs - (1 : Int32))), (2, .long (0 : Int64)), (0, .ref a_t), (1, .int p1)]) hx hb dX4_remainder_14 hl (by decide) rfl (fun ls hl => ?_)
    obtain ⟨x2_2, hX3, hF⟩ := bO_s1 hF
    have L2 : ∀ (k0 : Nat) (x2 : Int64) (x4 : Int32) (x2_2 : Int64) (H : Heap) (locs : List Loc) (ls : Array Slot), Natural_remainder_L16 p1 t_limb k0 x2 x4 = some x2_2 → m_H E A (wd_Natural_remainder E a_t a_t_limb t_limbs t_limb) s.heap H locs → lv_has ls 5 [(4, .int x4), (2, .long x2), (0, .ref a_t), (1, .int p1)] → (∀ (H : Heap) (locs : List Loc) (ls : Array Slot), m_H E A (wd_Natural_remainder E a_t a_t_limb t_limbs t_limb) s.heap H locs → lv_has ls 5 [(2, .long x2_2)] → W p l e rm_Natural_remainder s m args below meth c H locs 0 0 Q (F0 m 44 ls [])) → W p l e rm_Natural_remainder s m args below meth c H locs 0 0 Q (F0 m 16 ls []) := by
      clear hF
      intro k0
      induction k0 with
      | zero =>
        intro x2 x4 x2_2 H locs ls hF
        cases hF
      | succ k0 ih5 =>
        intro x2 x4 x2_2 H locs ls hF hW hl hk4
        rw [Natural_remainder_L16] at hF
        refine lv_iload hx hb dX4_remainder_16 (lv_at hl 0 rfl) ?_
        refine lv_if_lt (tgt := 44) hx hb dX4_remainder_18 (by decide) (fun c6 => ?_) (fun c6 => ?_)
        · have hF := if_y c6 hF
          cases hF
          exact hk4 _ _ _ hW (lv_sub hl [1] rfl)
        · have hF := if_n c6 hF
          refine lv_lload_n hx hb dX4_remainder_21 rfl (lv_at hl 1 rfl) ?_
          refine lv_bipush (v := (30 : Int32)) hx hb dX4_remainder_22 (by decide) ?_
          refine m_lshl hx hb dX4_remainder_24 ?_
          refine lv_aload_n hx hb dX4_remainder_25 rfl (lv_at hl 2 rfl) ?_
          refine m_get X hW fdX4_11 0 rfl rfl dX4_remainder_26 ?_
          refine lv_iload hx hb dX4_remainder_29 (lv_at hl 0 rfl) ?_
          obtain ⟨g7, hF⟩ := gd_some hF
          refine m_iald X hW 1 (k := x4.toNatClampNeg) rfl g7 rfl dX4_remainder_31 ?_
          refine lv_i2l (v := (t_limb x4.toNatClampNeg).toInt64) hx hb dX4_remainder_32 rfl ?_
          refine lv_ladd hx hb dX4_remainder_33 ?_
          refine lv_iload_n hx hb dX4_remainder_34 rfl (lv_at hl 3 rfl) ?_
          refine lv_i2l (v := p1.toInt64) hx hb dX4_remainder_35 rfl ?_
          obtain ⟨g8, hF⟩ := gd_some hF
          refine m_lrem hx hb dX4_remainder_36 (nzL_ne g8) ?_
          refine lv_lstore_n (lv' := [(2, .long (jremL ((jshlL x2 (30 : Int32)) + (t_limb x4.toNatClampNeg).toInt64) p1.toInt64)), (4, .int x4), (0, .ref a_t), (1, .int p1)]) hx hb dX4_remainder_37 rfl hl (by decide) rfl (fun ls hl => ?_)
          refine lv_iinc (v := (x4 + (-1 : Int32))) (lv' := [(4, .int (x4 + (-1 : Int32))), (2, .long (jremL ((jshlL x2 (30 : Int32)) + (t_limb x4.toNatClampNeg).toInt64) p1.toInt64)), (0, .ref a_t), (1, .int p1)]) hx hb dX4_remainder_38 hl (k := 1) rfl rfl (by decide) rfl (fun ls hl => ?_)
          refine lv_goto (tgt := 16) hx hb dX4_remainder_41 (by decide) ?_
          exact ih5 (jremL ((jshlL x2 (30 : Int32)) + (t_limb x4.toNatClampNeg).toInt64) p1.toInt64) (x4 + (-1 : Int32)) x2_2 _ _ _ hF hW (lv_sub hl [0, 1, 2, 3] rfl) hk4
    refine L2 N (0 : Int64) (t_limbs - (1 : Int32)) x2_2 _ _ _ hX3 hW (lv_sub hl [0, 1, 2, 3] rfl) ?_
    intro H locs ls hW hl
    clear L2
    refine lv_lload_n hx hb dX4_remainder_44 rfl (lv_at hl 0 rfl) ?_
    refine lv_l2i (v := x2_2.toInt32) hx hb dX4_remainder_45 rfl ?_
    have hq := Option.some.inj hF
    subst hq
    exact hret _ _ _ _ hW dX4_remainder_46
  · have hF := if_n c1 hF
    refine lv_iconst (v := (0 : Int32)) hx hb dX4_remainder_4 (by decide) ?_
    have hq := Option.some.inj hF
    subst hq
    exact hret _ _ _ _ hW dX4_remainder_5
abbrev wd_Fraction_isDividedBy (E : m_E) (a_t : Nat) (a_t_above : Nat) (a_t_above_limb : Nat) (a_t_below : Nat) (a_t_below_limb : Nat) (t_above_limbs : Int32) (t_above_limb : Nat → Int32) (t_below_limbs : Int32) (t_below_limb : Nat → Int32) : va_W := [(a_t, .inr (2, [.ref a_t_above, .ref a_t_below])), (a_t_above, .inr (4, [.ref a_t_above_limb, .int t_above_limbs])), (a_t_above_limb, .inl (E.2.1 0, 40, .inl t_above_limb)), (a_t_below, .inr (4, [.ref a_t_below_limb, .int t_below_limbs])), (a_t_below_limb, .inl (E.2.1 0, 40, .inl t_below_limb))]
def rm_Fraction_isDividedBy : Room := { frames := 1, cells := 0, slots := 0, locals := 24 }
set_option maxHeartbeats 4000000 in
set_option maxRecDepth 100000 in
theorem c_Fraction_isDividedBy (l : Launch) (E : m_E) (sz N : Nat) (a_t : Nat) (a_t_above : Nat) (a_t_above_limb : Nat) (a_t_below : Nat) (a_t_below_limb : Nat) (t_above_limbs : Int32) (t_above_limb : Nat → Int32) (t_below_limbs : Int32) (t_below_limb : Nat → Int32) (p1 : Int32) (ures : Int32) (hF : F_Fraction_isDividedBy N p1 t_above_limbs t_above_limb t_below_limbs t_below_limb = some ures) : m_Met l yX2_isDividedBy cX2_isDividedBy 2 (some .boolean) rm_Fraction_isDividedBy E (wd_Fraction_isDividedBy E a_t a_t_above a_t_above_limb a_t_below a_t_below_limb t_above_limbs t_above_limb t_below_limbs t_below_limb) (wd_Fraction_isDividedBy E a_t a_t_above a_t_above_limb a_t_below a_t_below_limb t_above_limbs t_above_limb t_below_limbs t_below_limb) sz [.ref a_t, .int p1] (some (.int ures)) := by
  refine m_ofZ (by decide) (Nat.le_of_ble_eq_true rfl) ?_
  intro p e s m args below meth c A Q ls X hW hA hl hret
  obtain ⟨hx, hb, -, hown, hts, hK, -, hG⟩ := id X
  have hl : lv_has ls 2 [(0, .ref a_t), (1, .int p1)] := hl
  unfold F_Fraction_isDividedBy at hF
  refine lv_aload_n hx hb dX2_isDividedBy_0 rfl (lv_at hl 0 rfl) ?_
  refine m_get X hW fdX2_16 0 rfl rfl dX2_isDividedBy_1 ?_
  refine lv_iload_n hx hb dX2_isDividedBy_4 rfl (lv_at hl 1 rfl) ?_
  obtain ⟨r5, hC1, hF⟩ := bO_s1 hF
  refine m_callV X hW hA hl.1 lkX2_41 (c_Natural_remainder l E _ N a_t_below a_t_below_limb t_below_limbs t_below_limb p1 r5 hC1) ([3, 4]) (by decide) rfl rfl (ws' := (wd_Fraction_isDividedBy E a_t a_t_above a_t_above_limb a_t_below a_t_below_limb t_above_limbs t_above_limb t_below_limbs t_below_limb)) rfl 3 rfl rfl rfl (As := [.int p1]) (rest := []) rfl rfl ⟨rfl, rfl, Nat.le_of_ble_eq_true rfl, Nat.le_of_ble_eq_true rfl⟩ (Nat.le_of_ble_eq_true rfl) (Nat.zero_le _) (Nat.zero_le _) dX2_isDividedBy_5 (fun H locs hW => ?_)
  clear hC1
  refine lv_if_ne (tgt := 26) hx hb dX2_isDividedBy_8 (by decide) (fun c2 => ?_) (fun c2 => ?_)
  · have hF := if_n c2 hF
    refine lv_iconst (v := (0 : Int32)) hx hb dX2_isDividedBy_26 (by decide) ?_
    have hq := Option.some.inj hF
    subst hq
    exact hret _ _ _ _ _ rfl hW dX2_isDividedBy_27
  · have hF := if_y c2 hF
    refine lv_aload_n hx hb dX2_isDividedBy_11 rfl (lv_at hl 0 rfl) ?_
    refine m_get X hW fdX2_10 0 rfl rfl dX2_isDividedBy_12 ?_
    refine lv_iload_n hx hb dX2_isDividedBy_15 rfl (lv_at hl 1 rfl) ?_
    obtain ⟨r16, hC3, hF⟩ := bO_s1 hF
    refine m_callV X hW hA hl.1 lkX2_41 (c_Natural_remainder l E _ N a_t_above a_t_above_limb t_above_limbs t_above_limb p1 r16 hC3) ([1, 2]) (by decide) rfl rfl (ws' := (wd_Fraction_isDividedBy E a_t a_t_above a_t_above_limb a_t_below a_t_below_limb t_above_limbs t_above_limb t_below_limbs t_below_limb)) rfl 1 rfl rfl rfl (As := [.int p1]) (rest := []) rfl rfl ⟨rfl, rfl, Nat.le_of_ble_eq_true rfl, Nat.le_of_ble_eq_true rfl⟩ (Nat.le_of_ble_eq_true rfl) (Nat.zero_le _) (Nat.zero_le _) dX2_isDividedBy_16 (fun H locs hW => ?_)
    clear hC3
    refine lv_if_ne (tgt := 26) hx hb dX2_isDividedBy_19 (by decide) (fun c4 => ?_) (fun c4 => ?_)
    · have hF := if_n c4 hF
      refine lv_iconst (v := (0 : Int32)) hx hb dX2_isDividedBy_26 (by decide) ?_
      have hq := Option.some.inj hF
      subst hq
      exact hret _ _ _ _ _ rfl hW dX2_isDividedBy_27
    · have hF := if_y c4 hF
      refine lv_iconst (v := (1 : Int32)) hx hb dX2_isDividedBy_22 (by decide) ?_
      refine lv_goto (tgt := 27) hx hb dX2_isDividedBy_23 (by decide) ?_
      have hq := Option.some.inj hF
      subst hq
      exact hret _ _ _ _ _ rfl hW dX2_isDividedBy_27
abbrev wd_Fraction_toLowestTerms (E : m_E) (a_t : Nat) (a_t_above : Nat) (a_t_above_limb : Nat) (a_t_below : Nat) (a_t_below_limb : Nat) (t_above_limbs : Int32) (t_above_limb : Nat → Int32) (t_below_limbs : Int32) (t_below_limb : Nat → Int32) : va_W := [(a_t, .inr (2, [.ref a_t_above, .ref a_t_below])), (a_t_above, .inr (4, [.ref a_t_above_limb, .int t_above_limbs])), (a_t_above_limb, .inl (E.2.1 0, 40, .inl t_above_limb)), (a_t_below, .inr (4, [.ref a_t_below_limb, .int t_below_limbs])), (a_t_below_limb, .inl (E.2.1 0, 40, .inl t_below_limb))]
def rm_Fraction_toLowestTerms : Room := { frames := 2, cells := 0, slots := 0, locals := 45 }
set_option maxHeartbeats 4000000 in
set_option maxRecDepth 100000 in
theorem c_Fraction_toLowestTerms (l : Launch) (E : m_E) (sz N : Nat) (a_t : Nat) (a_t_above : Nat) (a_t_above_limb : Nat) (a_t_below : Nat) (a_t_below_limb : Nat) (t_above_limbs : Int32) (t_above_limb : Nat → Int32) (t_below_limbs : Int32) (t_below_limb : Nat → Int32)  (ures : Int32 × (Nat → Int32) × Int32 × (Nat → Int32)) (hF : F_Fraction_toLowestTerms N t_above_limbs t_above_limb t_below_limbs t_below_limb = some ures) : m_Met l yX2_toLowestTerms cX2_toLowestTerms 3 none rm_Fraction_toLowestTerms E (wd_Fraction_toLowestTerms E a_t a_t_above a_t_above_limb a_t_below a_t_below_limb t_above_limbs t_above_limb t_below_limbs t_below_limb) (wd_Fraction_toLowestTerms E a_t a_t_above a_t_above_limb a_t_below a_t_below_limb ures.1 ures.2.1 ures.2.2.1 ures.2.2.2) sz [.ref a_t] none := by
  refine m_ofV (by decide) (Nat.le_of_ble_eq_true rfl) ?_
  intro p e s m args below meth c A Q ls X hW hA hl hret
  obtain ⟨hx, hb, -, hown, hts, hK, -, hG⟩ := id X
  have hl : lv_has ls 3 [(0, .ref a_t)] := hl
  unfold F_Fraction_toLowestTerms at hF
  refine lv_aload_n hx hb dX2_toLowestTerms_0 rfl (lv_at hl 0 rfl) ?_
  refine m_get X hW fdX2_10 0 rfl rfl dX2_toLowestTerms_1 ?_
  refine m_get X hW fdX2_23 1 rfl rfl dX2_toLowestTerms_4 ?_
  refine lv_if_ne (tgt := 19) hx hb dX2_toLowestTerms_7 (by decide) (fun c1 => ?_) (fun c1 => ?_)
  · have hF := if_n c1 hF
    refine lv_iconst (v := (2 : Int32)) hx hb dX2_toLowestTerms_19 (by decide) ?_
    refine lv_istore_n (lv' := [(1, .int (2 : Int32)), (0, .ref a_t)]) hx hb dX2_toLowestTerms_20 rfl hl (by decide) rfl (fun ls hl => ?_)
    obtain ⟨t_above_limb'_10, t_above_limbs'_10, t_below_limb'_12, t_below_limbs'_12, hX3, hF⟩ := bO_s4 hF
    have L2 : ∀ (k0 : Nat) (x1 : Int32) (t_above_limb'_6 : Nat → Int32) (t_above_limbs'_6 : Int32) (t_below_limb'_8 : Nat → Int32) (t_below_limbs'_8 : Int32) (t_above_limb'_10 : Nat → Int32) (t_above_limbs'_10 : Int32) (t_below_limb'_12 : Nat → Int32) (t_below_limbs'_12 : Int32) (H : Heap) (locs : List Loc) (ls : Array Slot), Fraction_toLowestTerms_L21 N k0 x1 t_above_limb'_6 t_above_limbs'_6 t_below_limb'_8 t_below_limbs'_8 = some (t_above_limb'_10, t_above_limbs'_10, t_below_limb'_12, t_below_limbs'_12) → m_H E A (wd_Fraction_toLowestTerms E a_t a_t_above a_t_above_limb a_t_below a_t_below_limb t_above_limbs'_6 t_above_limb'_6 t_below_limbs'_8 t_below_limb'_8) s.heap H locs → lv_has ls 3 [(1, .int x1), (0, .ref a_t)] → (∀ (H : Heap) (locs : List Loc) (ls : Array Slot), m_H E A (wd_Fraction_toLowestTerms E a_t a_t_above a_t_above_limb a_t_below a_t_below_limb t_above_limbs'_10 t_above_limb'_10 t_below_limbs'_12 t_below_limb'_12) s.heap H locs → lv_has ls 3 [] → W p l e rm_Fraction_toLowestTerms s m args below meth c H locs 0 0 Q (F0 m 73 ls [])) → W p l e rm_Fraction_toLowestTerms s m args below meth c H locs 0 0 Q (F0 m 21 ls []) := by
      clear hF
      intro k0
      induction k0 with
      | zero =>
        intro x1 t_above_limb'_6 t_above_limbs'_6 t_below_limb'_8 t_below_limbs'_8 t_above_limb'_10 t_above_limbs'_10 t_below_limb'_12 t_below_limbs'_12 H locs ls hF
        cases hF
      | succ k0 ih5 =>
        intro x1 t_above_limb'_6 t_above_limbs'_6 t_below_limb'_8 t_below_limbs'_8 t_above_limb'_10 t_above_limbs'_10 t_below_limb'_12 t_below_limbs'_12 H locs ls hF hW hl hk4
        rw [Fraction_toLowestTerms_L21] at hF
        refine lv_iload_n hx hb dX2_toLowestTerms_21 rfl (lv_at hl 0 rfl) ?_
        refine lv_sipush (v := (180 : Int32)) hx hb dX2_toLowestTerms_22 (by decide) ?_
        refine lv_icmp_gt (tgt := 73) hx hb dX2_toLowestTerms_25 (by decide) (fun c6 => ?_) (fun c6 => ?_)
        · have hF := if_y c6 hF
          cases hF
          exact hk4 _ _ _ hW (lv_sub hl [] rfl)
        · have hF := if_n c6 hF
          refine lv_iconst (v := (0 : Int32)) hx hb dX2_toLowestTerms_28 (by decide) ?_
          refine lv_istore_n (lv' := [(2, .int (0 : Int32)), (1, .int x1), (0, .ref a_t)]) hx hb dX2_toLowestTerms_29 rfl hl (by decide) rfl (fun ls hl => ?_)
          obtain ⟨t_above_limb'_9, t_above_limbs'_9, t_below_limb'_11, t_below_limbs'_11, hX8, hF⟩ := bO_s4 hF
          have L7 : ∀ (k0 : Nat) (x2 : Int32) (t_above_limb'_7 : Nat → Int32) (t_above_limbs'_7 : Int32) (t_below_limb'_9 : Nat → Int32) (t_below_limbs'_9 : Int32) (t_above_limb'_9 : Nat → Int32) (t_above_limbs'_9 : Int32) (t_below_limb'_11 : Nat → Int32) (t_below_limbs'_11 : Int32) (H : Heap) (locs : List Loc) (ls : Array Slot), Fraction_toLowestTerms_L30 N x1 k0 x2 t_above_limb'_7 t_above_limbs'_7 t_below_limb'_9 t_below_limbs'_9 = some (t_above_limb'_9, t_above_limbs'_9, t_below_limb'_11, t_below_limbs'_11) → m_H E A (wd_Fraction_toLowestTerms E a_t a_t_above a_t_above_limb a_t_below a_t_below_limb t_above_limbs'_7 t_above_limb'_7 t_below_limbs'_9 t_below_limb'_9) s.heap H locs → lv_has ls 3 [(2, .int x2), (1, .int x1), (0, .ref a_t)] → (∀ (H : Heap) (locs : List Loc) (ls : Array Slot), m_H E A (wd_Fraction_toLowestTerms E a_t a_t_above a_t_above_limb a_t_below a_t_below_limb t_above_limbs'_9 t_above_limb'_9 t_below_limbs'_11 t_below_limb'_11) s.heap H locs → lv_has ls 3 [(1, .int x1), (0, .ref a_t)] → W p l e rm_Fraction_toLowestTerms s m args below meth c H locs 0 0 Q (F0 m 67 ls [])) → W p l e rm_Fraction_toLowestTerms s m args below meth c H locs 0 0 Q (F0 m 30 ls []) := by
            clear hF
            intro k0
            induction k0 with
            | zero =>
              intro x2 t_above_limb'_7 t_above_limbs'_7 t_below_limb'_9 t_below_limbs'_9 t_above_limb'_9 t_above_limbs'_9 t_below_limb'_11 t_below_limbs'_11 H locs ls hF
              cases hF
            | succ k0 ih10 =>
              intro x2 t_above_limb'_7 t_above_limbs'_7 t_below_limb'_9 t_below_limbs'_9 t_above_limb'_9 t_above_limbs'_9 t_below_limb'_11 t_below_limbs'_11 H locs ls hF hW hl hk9
              rw [Fraction_toLowestTerms_L30] at hF
              refine lv_iload_n hx hb dX2_toLowestTerms_30 rfl (lv_at hl 0 rfl) ?_
              refine lv_sipush (v := (1200 : Int32)) hx hb dX2_toLowestTerms_31 (by decide) ?_
              refine lv_icmp_ge (tgt := 67) hx hb dX2_toLowestTerms_34 (by decide) (fun c11 => ?_) (fun c11 => ?_)
              · have hF := if_y c11 hF
                cases hF
                exact hk9 _ _ _ hW (lv_sub hl [1, 2] rfl)
              · have hF := if_n c11 hF
                refine lv_aload_n hx hb dX2_toLowestTerms_37 rfl (lv_at hl 2 rfl) ?_
                refine lv_iload_n hx hb dX2_toLowestTerms_38 rfl (lv_at hl 1 rfl) ?_
                obtain ⟨r39, hC12, hF⟩ := bO_s1 hF
                refine m_callV X hW hA hl.1 lkX2_34 (c_Fraction_isDividedBy l E _ N a_t a_t_above a_t_above_limb a_t_below a_t_below_limb t_above_limbs'_7 t_above_limb'_7 t_below_limbs'_9 t_below_limb'_9 x1 r39 hC12) ([0, 1, 2, 3, 4]) (by decide) rfl rfl (ws' := (wd_Fraction_toLowestTerms E a_t a_t_above a_t_above_limb a_t_below a_t_below_limb t_above_limbs'_7 t_above_limb'_7 t_below_limbs'_9 t_below_limb'_9)) rfl 0 rfl rfl rfl (As := [.int x1]) (rest := []) rfl rfl ⟨rfl, rfl, Nat.le_of_ble_eq_true rfl, Nat.le_of_ble_eq_true rfl⟩ (Nat.le_of_ble_eq_true rfl) (Nat.zero_le _) (Nat.zero_le _) dX2_toLowestTerms_39 (fun H locs hW => ?_)
                clear hC12
                refine lv_if_eq (tgt := 67) hx hb dX2_toLowestTerms_42 (by decide) (fun c13 => ?_) (fun c13 => ?_)
                · have hF := if_y c13 hF
                  cases hF
                  exact hk9 _ _ _ hW (lv_sub hl [1, 2] rfl)
                · have hF := if_n c13 hF
                  refine lv_aload_n hx hb dX2_toLowestTerms_45 rfl (lv_at hl 2 rfl) ?_
                  refine m_get X hW fdX2_10 0 rfl rfl dX2_toLowestTerms_46 ?_
                  refine lv_iload_n hx hb dX2_toLowestTerms_49 rfl (lv_at hl 1 rfl) ?_
                  obtain ⟨t_above_limbs'_8, t_above_limb'_8, hC14, hF⟩ := bO_s2 hF
                  refine m_callV X hW hA hl.1 lkX2_38 (c_Natural_divide l E _ N a_t_above a_t_above_limb t_above_limbs'_7 t_above_limb'_7 x1 (t_above_limbs'_8, t_above_limb'_8) hC14) ([1, 2]) (by decide) rfl rfl (ws' := (wd_Fraction_toLowestTerms E a_t a_t_above a_t_above_limb a_t_below a_t_below_limb t_above_limbs'_8 t_above_limb'_8 t_below_limbs'_9 t_below_limb'_9)) rfl 1 rfl rfl rfl (As := [.int x1]) (rest := []) rfl rfl ⟨rfl, rfl, Nat.le_of_ble_eq_true rfl, Nat.le_of_ble_eq_true rfl⟩ (Nat.le_of_ble_eq_true rfl) (Nat.zero_le _) (Nat.zero_le _) dX2_toLowestTerms_50 (fun H locs hW => ?_)
                  clear hC14
                  refine lv_aload_n hx hb dX2_toLowestTerms_53 rfl (lv_at hl 2 rfl) ?_
                  refine m_get X hW fdX2_16 0 rfl rfl dX2_toLowestTerms_54 ?_
                  refine lv_iload_n hx hb dX2_toLowestTerms_57 rfl (lv_at hl 1 rfl) ?_
                  obtain ⟨t_below_limbs'_10, t_below_limb'_10, hC15, hF⟩ := bO_s2 hF
                  refine m_callV X hW hA hl.1 lkX2_38 (c_Natural_divide l E _ N a_t_below a_t_below_limb t_below_limbs'_9 t_below_limb'_9 x1 (t_below_limbs'_10, t_below_limb'_10) hC15) ([3, 4]) (by decide) rfl rfl (ws' := (wd_Fraction_toLowestTerms E a_t a_t_above a_t_above_limb a_t_below a_t_below_limb t_above_limbs'_8 t_above_limb'_8 t_below_limbs'_10 t_below_limb'_10)) rfl 3 rfl rfl rfl (As := [.int x1]) (rest := []) rfl rfl ⟨rfl, rfl, Nat.le_of_ble_eq_true rfl, Nat.le_of_ble_eq_true rfl⟩ (Nat.le_of_ble_eq_true rfl) (Nat.zero_le _) (Nat.zero_le _) dX2_toLowestTerms_58 (fun H locs hW => ?_)
                  clear hC15
                  refine lv_iinc (v := (x2 + (1 : Int32))) (lv' := [(2, .int (x2 + (1 : Int32))), (1, .int x1), (0, .ref a_t)]) hx hb dX2_toLowestTerms_61 hl (k := 0) rfl rfl (by decide) rfl (fun ls hl => ?_)
                  refine lv_goto (tgt := 30) hx hb dX2_toLowestTerms_64 (by decide) ?_
                  exact ih10 (x2 + (1 : Int32)) t_above_limb'_8 t_above_limbs'_8 t_below_limb'_10 t_below_limbs'_10 t_above_limb'_9 t_above_limbs'_9 t_below_limb'_11 t_below_limbs'_11 _ _ _ hF hW (lv_sub hl [0, 1, 2] rfl) hk9
          refine L7 N (0 : Int32) t_above_limb'_6 t_above_limbs'_6 t_below_limb'_8 t_below_limbs'_8 t_above_limb'_9 t_above_limbs'_9 t_below_limb'_11 t_below_limbs'_11 _ _ _ hX8 hW (lv_sub hl [0, 1, 2] rfl) ?_
          intro H locs ls hW hl
          clear L7
          refine lv_iinc (v := (x1 + (1 : Int32))) (lv' := [(1, .int (x1 + (1 : Int32))), (0, .ref a_t)]) hx hb dX2_toLowestTerms_67 hl (k := 0) rfl rfl (by decide) rfl (fun ls hl => ?_)
          refine lv_goto (tgt := 21) hx hb dX2_toLowestTerms_70 (by decide) ?_
          exact ih5 (x1 + (1 : Int32)) t_above_limb'_9 t_above_limbs'_9 t_below_limb'_11 t_below_limbs'_11 t_above_limb'_10 t_above_limbs'_10 t_below_limb'_12 t_below_limbs'_12 _ _ _ hF hW (lv_sub hl [0, 1] rfl) hk4
    refine L2 N (2 : Int32) t_above_limb t_above_limbs t_below_limb t_below_limbs t_above_limb'_10 t_above_limbs'_10 t_below_limb'_12 t_below_limbs'_12 _ _ _ hX3 hW (lv_sub hl [0, 1] rfl) ?_
    intro H locs ls hW hl
    clear L2
    have hq := Option.some.inj hF
    subst hq
    exact hret _ _ _ _ hW dX2_toLowestTerms_73
  · have hF := if_y c1 hF
    refine lv_aload_n hx hb dX2_toLowestTerms_10 rfl (lv_at hl 0 rfl) ?_
    refine m_get X hW fdX2_16 0 rfl rfl dX2_toLowestTerms_11 ?_
    refine lv_iconst (v := (1 : Int32)) hx hb dX2_toLowestTerms_14 (by decide) ?_
    obtain ⟨t_below_limbs'_7, t_below_limb'_7, hC16, hF⟩ := bO_s2 hF
    refine m_callV X hW hA hl.1 lkX2_19 (c_Natural_put l E _ N a_t_below a_t_below_limb t_below_limbs t_below_limb (1 : Int32) (t_below_limbs'_7, t_below_limb'_7) hC16) ([3, 4]) (by decide) rfl rfl (ws' := (wd_Fraction_toLowestTerms E a_t a_t_above a_t_above_limb a_t_below a_t_below_limb t_above_limbs t_above_limb t_below_limbs'_7 t_below_limb'_7)) rfl 3 rfl rfl rfl (As := [.int (1 : Int32)]) (rest := []) rfl rfl ⟨rfl, rfl, Nat.le_of_ble_eq_true rfl, Nat.le_of_ble_eq_true rfl⟩ (Nat.le_of_ble_eq_true rfl) (Nat.zero_le _) (Nat.zero_le _) dX2_toLowestTerms_15 (fun H locs hW => ?_)
    clear hC16
    have hq := Option.some.inj hF
    subst hq
    exact hret _ _ _ _ hW dX2_toLowestTerms_18
abbrev wd_Fraction_put1 (E : m_E) (a_t : Nat) (a_t_above : Nat) (a_t_above_limb : Nat) (a_t_below : Nat) (a_t_below_limb : Nat) (a_p1 : Nat) (a_p1_limb : Nat) (a_p2 : Nat) (a_p2_limb : Nat) (t_above_limbs : Int32) (t_above_limb : Nat → Int32) (t_below_limbs : Int32) (t_below_limb : Nat → Int32) (p1_limbs : Int32) (p1_limb : Nat → Int32) (p2_limbs : Int32) (p2_limb : Nat → Int32) : va_W := [(a_t, .inr (2, [.ref a_t_above, .ref a_t_below])), (a_t_above, .inr (4, [.ref a_t_above_limb, .int t_above_limbs])), (a_t_above_limb, .inl (E.2.1 0, 40, .inl t_above_limb)), (a_t_below, .inr (4, [.ref a_t_below_limb, .int t_below_limbs])), (a_t_below_limb, .inl (E.2.1 0, 40, .inl t_below_limb)), (a_p1, .inr (4, [.ref a_p1_limb, .int p1_limbs])), (a_p1_limb, .inl (E.2.1 0, 40, .inl p1_limb)), (a_p2, .inr (4, [.ref a_p2_limb, .int p2_limbs])), (a_p2_limb, .inl (E.2.1 0, 40, .inl p2_limb))]
def rm_Fraction_put1 : Room := { frames := 3, cells := 0, slots := 0, locals := 67 }
set_option maxHeartbeats 4000000 in
set_option maxRecDepth 100000 in
theorem c_Fraction_put1 (l : Launch) (E : m_E) (sz N : Nat) (a_t : Nat) (a_t_above : Nat) (a_t_above_limb : Nat) (a_t_below : Nat) (a_t_below_limb : Nat) (a_p1 : Nat) (a_p1_limb : Nat) (a_p2 : Nat) (a_p2_limb : Nat) (t_above_limbs : Int32) (t_above_limb : Nat → Int32) (t_below_limbs : Int32) (t_below_limb : Nat → Int32) (p1_limbs : Int32) (p1_limb : Nat → Int32) (p2_limbs : Int32) (p2_limb : Nat → Int32)  (ures : Int32 × (Nat → Int32) × Int32 × (Nat → Int32)) (hF : F_Fraction_put1 N t_above_limb t_below_limb p1_limbs p1_limb p2_limbs p2_limb = some ures) : m_Met l yX2_put_ cX2_put_ 3 none rm_Fraction_put1 E (wd_Fraction_put1 E a_t a_t_above a_t_above_limb a_t_below a_t_below_limb a_p1 a_p1_limb a_p2 a_p2_limb t_above_limbs t_above_limb t_below_limbs t_below_limb p1_limbs p1_limb p2_limbs p2_limb) (wd_Fraction_put1 E a_t a_t_above a_t_above_limb a_t_below a_t_below_limb a_p1 a_p1_limb a_p2 a_p2_limb ures.1 ures.2.1 ures.2.2.1 ures.2.2.2 p1_limbs p1_limb p2_limbs p2_limb) sz [.ref a_t, .ref a_p1, .ref a_p2] none := by
  refine m_ofV (by decide) (Nat.le_of_ble_eq_true rfl) ?_
  intro p e s m args below meth c A Q ls X hW hA hl hret
  obtain ⟨hx, hb, -, hown, hts, hK, -, hG⟩ := id X
  have hl : lv_has ls 3 [(0, .ref a_t), (1, .ref a_p1), (2, .ref a_p2)] := hl
  unfold F_Fraction_put1 at hF
  refine lv_aload_n hx hb dX2_put__0 rfl (lv_at hl 0 rfl) ?_
  refine m_get X hW fdX2_10 0 rfl rfl dX2_put__1 ?_
  refine lv_aload_n hx hb dX2_put__4 rfl (lv_at hl 1 rfl) ?_
  obtain ⟨t_above_limbs'_3, t_above_limb'_3, hC1, hF⟩ := bO_s2 hF
  refine m_callV X hW hA hl.1 lkX2_30 (c_Natural_copyFrom l E _ N a_t_above a_t_above_limb a_p1 a_p1_limb t_above_limbs t_above_limb p1_limbs p1_limb  (t_above_limbs'_3, t_above_limb'_3) hC1) ([1, 2, 5, 6]) (by decide) rfl rfl (ws' := (wd_Fraction_put1 E a_t a_t_above a_t_above_limb a_t_below a_t_below_limb a_p1 a_p1_limb a_p2 a_p2_limb t_above_limbs'_3 t_above_limb'_3 t_below_limbs t_below_limb p1_limbs p1_limb p2_limbs p2_limb)) rfl 1 rfl rfl rfl (As := [.ref a_p1]) (rest := []) rfl rfl ⟨rfl, rfl, Nat.le_of_ble_eq_true rfl, Nat.le_of_ble_eq_true rfl⟩ (Nat.le_of_ble_eq_true rfl) (Nat.zero_le _) (Nat.zero_le _) dX2_put__5 (fun H locs hW => ?_)
  clear hC1
  refine lv_aload_n hx hb dX2_put__8 rfl (lv_at hl 0 rfl) ?_
  refine m_get X hW fdX2_16 0 rfl rfl dX2_put__9 ?_
  refine lv_aload_n hx hb dX2_put__12 rfl (lv_at hl 2 rfl) ?_
  obtain ⟨t_below_limbs'_3, t_below_limb'_3, hC2, hF⟩ := bO_s2 hF
  refine m_callV X hW hA hl.1 lkX2_30 (c_Natural_copyFrom l E _ N a_t_below a_t_below_limb a_p2 a_p2_limb t_below_limbs t_below_limb p2_limbs p2_limb  (t_below_limbs'_3, t_below_limb'_3) hC2) ([3, 4, 7, 8]) (by decide) rfl rfl (ws' := (wd_Fraction_put1 E a_t a_t_above a_t_above_limb a_t_below a_t_below_limb a_p1 a_p1_limb a_p2 a_p2_limb t_above_limbs'_3 t_above_limb'_3 t_below_limbs'_3 t_below_limb'_3 p1_limbs p1_limb p2_limbs p2_limb)) rfl 3 rfl rfl rfl (As := [.ref a_p2]) (rest := []) rfl rfl ⟨rfl, rfl, Nat.le_of_ble_eq_true rfl, Nat.le_of_ble_eq_true rfl⟩ (Nat.le_of_ble_eq_true rfl) (Nat.zero_le _) (Nat.zero_le _) dX2_put__13 (fun H locs hW => ?_)
  clear hC2
  refine lv_aload_n hx hb dX2_put__16 rfl (lv_at hl 0 rfl) ?_
  obtain ⟨t_above_limbs'_4, t_above_limb'_4, t_below_limbs'_4, t_below_limb'_4, hC3, hF⟩ := bO_s4 hF
  refine m_callV X hW hA hl.1 lkX2_27 (c_Fraction_toLowestTerms l E _ N a_t a_t_above a_t_above_limb a_t_below a_t_below_limb t_above_limbs'_3 t_above_limb'_3 t_below_limbs'_3 t_below_limb'_3  (t_above_limbs'_4, t_above_limb'_4, t_below_limbs'_4, t_below_limb'_4) hC3) ([0, 1, 2, 3, 4]) (by decide) rfl rfl (ws' := (wd_Fraction_put1 E a_t a_t_above a_t_above_limb a_t_below a_t_below_limb a_p1 a_p1_limb a_p2 a_p2_limb t_above_limbs'_4 t_above_limb'_4 t_below_limbs'_4 t_below_limb'_4 p1_limbs p1_limb p2_limbs p2_limb)) rfl 0 rfl rfl rfl (As := []) (rest := []) rfl rfl ⟨rfl, rfl, Nat.le_of_ble_eq_true rfl, Nat.le_of_ble_eq_true rfl⟩ (Nat.le_of_ble_eq_true rfl) (Nat.zero_le _) (Nat.zero_le _) dX2_put__17 (fun H locs hW => ?_)
  clear hC3
  have hq := Option.some.inj hF
  subst hq
  exact hret _ _ _ _ hW dX2_put__20
abbrev wd_Chances_tellAs (E : m_E) (a_t : Nat) (a_t_heardAs : Nat) (a_t_total : Nat) (a_t_part : Nat) (a_t_before : Nat) (a_t_scaled : Nat) (a_t_scaledBelow : Nat) (a_t_chance : Nat) (a_t_below : Nat) (a_t_below_limb : Nat) (a_p2 : Nat) (a_p2_above : Nat) (a_p2_above_limb : Nat) (a_p2_below : Nat) (a_p2_below_limb : Nat) (r_t_chance : Nat → Nat) (r_t_chance_limb : Nat → Nat) (t_words : Int32) (t_chance_limb : Nat → Nat → Int32) (t_chance_limbs : Nat → Int32) (t_below_limbs : Int32) (t_below_limb : Nat → Int32) (p2_above_limbs : Int32) (p2_above_limb : Nat → Int32) (p2_below_limbs : Int32) (p2_below_limb : Nat → Int32) : va_W := [(a_t, .inr (0, [.ref a_t_heardAs, .ref a_t_total, .ref a_t_part, .ref a_t_chance, .ref a_t_before, .ref a_t_below, .ref a_t_scaled, .ref a_t_scaledBelow, .int t_words])), (a_t_chance, .inl (E.2.1 2, 10, .inr (.inr (.inr (.inr (fun i => some (r_t_chance i))))))), (a_t_below, .inr (4, [.ref a_t_below_limb, .int t_below_limbs])), (a_t_below_limb, .inl (E.2.1 0, 40, .inl t_below_limb)), (a_p2, .inr (2, [.ref a_p2_above, .ref a_p2_below])), (a_p2_above, .inr (4, [.ref a_p2_above_limb, .int p2_above_limbs])), (a_p2_above_limb, .inl (E.2.1 0, 40, .inl p2_above_limb)), (a_p2_below, .inr (4, [.ref a_p2_below_limb, .int p2_below_limbs])), (a_p2_below_limb, .inl (E.2.1 0, 40, .inl p2_below_limb))] ++ (m_fam 10 (fun i => (r_t_chance i, .inr (4, [.ref (r_t_chance_limb i), .int (t_chance_limbs i)]))) ++ (m_fam 10 (fun i => (r_t_chance_limb i, .inl (E.2.1 0, 40, .inl (t_chance_limb i)))) ++ []))
def rm_Chances_tellAs : Room := { frames := 4, cells := 0, slots := 0, locals := 89 }
set_option maxHeartbeats 4000000 in
set_option maxRecDepth 100000 in
theorem c_Chances_tellAs (l : Launch) (E : m_E) (sz N : Nat) (a_t : Nat) (a_t_heardAs : Nat) (a_t_total : Nat) (a_t_part : Nat) (a_t_before : Nat) (a_t_scaled : Nat) (a_t_scaledBelow : Nat) (a_t_chance : Nat) (a_t_below : Nat) (a_t_below_limb : Nat) (a_p2 : Nat) (a_p2_above : Nat) (a_p2_above_limb : Nat) (a_p2_below : Nat) (a_p2_below_limb : Nat) (r_t_chance : Nat → Nat) (r_t_chance_limb : Nat → Nat) (t_words : Int32) (t_chance_limb : Nat → Nat → Int32) (t_chance_limbs : Nat → Int32) (t_below_limbs : Int32) (t_below_limb : Nat → Int32) (p2_above_limbs : Int32) (p2_above_limb : Nat → Int32) (p2_below_limbs : Int32) (p2_below_limb : Nat → Int32) (p1 : Int32) (ures : Int32 × (Nat → Int32) × Int32 × (Nat → Int32)) (hF : F_Chances_tellAs N p1 t_chance_limb t_chance_limbs t_below_limbs t_below_limb p2_above_limb p2_below_limb = some ures) : m_Met l yX0_tellAs cX0_tellAs 3 none rm_Chances_tellAs E (wd_Chances_tellAs E a_t a_t_heardAs a_t_total a_t_part a_t_before a_t_scaled a_t_scaledBelow a_t_chance a_t_below a_t_below_limb a_p2 a_p2_above a_p2_above_limb a_p2_below a_p2_below_limb r_t_chance r_t_chance_limb t_words t_chance_limb t_chance_limbs t_below_limbs t_below_limb p2_above_limbs p2_above_limb p2_below_limbs p2_below_limb) (wd_Chances_tellAs E a_t a_t_heardAs a_t_total a_t_part a_t_before a_t_scaled a_t_scaledBelow a_t_chance a_t_below a_t_below_limb a_p2 a_p2_above a_p2_above_limb a_p2_below a_p2_below_limb r_t_chance r_t_chance_limb t_words t_chance_limb t_chance_limbs t_below_limbs t_below_limb ures.1 ures.2.1 ures.2.2.1 ures.2.2.2) sz [.ref a_t, .int p1, .ref a_p2] none := by
  refine m_ofV (by decide) (Nat.le_of_ble_eq_true rfl) ?_
  intro p e s m args below meth c A Q ls X hW hA hl hret
  obtain ⟨hx, hb, -, hown, hts, hK, -, hG⟩ := id X
  have hl : lv_has ls 3 [(0, .ref a_t), (1, .int p1), (2, .ref a_p2)] := hl
  unfold F_Chances_tellAs at hF
  refine lv_aload_n hx hb dX0_tellAs_0 rfl (lv_at hl 2 rfl) ?_
  refine lv_aload_n hx hb dX0_tellAs_1 rfl (lv_at hl 0 rfl) ?_
  refine m_get X hW fdX0_25 0 rfl rfl dX0_tellAs_2 ?_
  refine lv_iload_n hx hb dX0_tellAs_5 rfl (lv_at hl 1 rfl) ?_
  obtain ⟨g1, hF⟩ := gd_some hF
  refine m_aald X hW 1 (k := p1.toNatClampNeg) rfl g1 rfl dX0_tellAs_6 ?_
  refine lv_aload_n hx hb dX0_tellAs_7 rfl (lv_at hl 0 rfl) ?_
  refine m_get X hW fdX0_33 0 rfl rfl dX0_tellAs_8 ?_
  obtain ⟨p2_above_limbs'_2, p2_above_limb'_2, p2_below_limbs'_2, p2_below_limb'_2, hC2, hF⟩ := bO_s4 hF
  refine m_callV X hW hA hl.1 lkX0_101 (c_Fraction_put1 l E _ N a_p2 a_p2_above a_p2_above_limb a_p2_below a_p2_below_limb (r_t_chance (p1.toNatClampNeg)) (r_t_chance_limb (p1.toNatClampNeg)) a_t_below a_t_below_limb p2_above_limbs p2_above_limb p2_below_limbs p2_below_limb (t_chance_limbs p1.toNatClampNeg) (t_chance_limb p1.toNatClampNeg) t_below_limbs t_below_limb  (p2_above_limbs'_2, p2_above_limb'_2, p2_below_limbs'_2, p2_below_limb'_2) hC2) ([4, 5, 6, 7, 8, (9 + (p1.toNatClampNeg)), (19 + (p1.toNatClampNeg)), 2, 3]) (m_nd (by have := (ixb_lt g1); simp only [va_nd, List.mem_cons, List.not_mem_nil, or_false, not_or, decide_eq_true_eq, Bool.and_eq_true, not_false_eq_true, and_true, true_and]; omega)) (m_Cc rfl (m_Cc rfl (m_Cc rfl (m_Cc rfl (m_Cc rfl (m_Cc (m_fg (b := 9) rfl (by rfl) (ixb_lt g1)) (m_Cc (m_fg (b := 19) m_sp1 (by rfl) (ixb_lt g1)) (m_Cc rfl (m_Cc rfl m_Cn))))))))) rfl (ws' := (wd_Chances_tellAs E a_t a_t_heardAs a_t_total a_t_part a_t_before a_t_scaled a_t_scaledBelow a_t_chance a_t_below a_t_below_limb a_p2 a_p2_above a_p2_above_limb a_p2_below a_p2_below_limb r_t_chance r_t_chance_limb t_words t_chance_limb t_chance_limbs t_below_limbs t_below_limb p2_above_limbs'_2 p2_above_limb'_2 p2_below_limbs'_2 p2_below_limb'_2)) (m_putc (ws1 := (wd_Chances_tellAs E a_t a_t_heardAs a_t_total a_t_part a_t_before a_t_scaled a_t_scaledBelow a_t_chance a_t_below a_t_below_limb a_p2 a_p2_above a_p2_above_limb a_p2_below a_p2_below_limb r_t_chance r_t_chance_limb t_words t_chance_limb t_chance_limbs t_below_limbs t_below_limb p2_above_limbs p2_above_limb p2_below_limbs p2_below_limb)) rfl (m_putc (ws1 := (wd_Chances_tellAs E a_t a_t_heardAs a_t_total a_t_part a_t_before a_t_scaled a_t_scaledBelow a_t_chance a_t_below a_t_below_limb a_p2 a_p2_above a_p2_above_limb a_p2_below a_p2_below_limb r_t_chance r_t_chance_limb t_words t_chance_limb t_chance_limbs t_below_limbs t_below_limb p2_above_limbs'_2 p2_above_limb p2_below_limbs p2_below_limb)) rfl (m_putc (ws1 := (wd_Chances_tellAs E a_t a_t_heardAs a_t_total a_t_part a_t_before a_t_scaled a_t_scaledBelow a_t_chance a_t_below a_t_below_limb a_p2 a_p2_above a_p2_above_limb a_p2_below a_p2_below_limb r_t_chance r_t_chance_limb t_words t_chance_limb t_chance_limbs t_below_limbs t_below_limb p2_above_limbs'_2 p2_above_limb'_2 p2_below_limbs p2_below_limb)) rfl (m_putc (ws1 := (wd_Chances_tellAs E a_t a_t_heardAs a_t_total a_t_part a_t_before a_t_scaled a_t_scaledBelow a_t_chance a_t_below a_t_below_limb a_p2 a_p2_above a_p2_above_limb a_p2_below a_p2_below_limb r_t_chance r_t_chance_limb t_words t_chance_limb t_chance_limbs t_below_limbs t_below_limb p2_above_limbs'_2 p2_above_limb'_2 p2_below_limbs'_2 p2_below_limb)) rfl (m_putc (ws1 := (wd_Chances_tellAs E a_t a_t_heardAs a_t_total a_t_part a_t_before a_t_scaled a_t_scaledBelow a_t_chance a_t_below a_t_below_limb a_p2 a_p2_above a_p2_above_limb a_p2_below a_p2_below_limb r_t_chance r_t_chance_limb t_words t_chance_limb t_chance_limbs t_below_limbs t_below_limb p2_above_limbs'_2 p2_above_limb'_2 p2_below_limbs'_2 p2_below_limb'_2)) rfl (m_putc (ws1 := (wd_Chances_tellAs E a_t a_t_heardAs a_t_total a_t_part a_t_before a_t_scaled a_t_scaledBelow a_t_chance a_t_below a_t_below_limb a_p2 a_p2_above a_p2_above_limb a_p2_below a_p2_below_limb r_t_chance r_t_chance_limb t_words t_chance_limb t_chance_limbs t_below_limbs t_below_limb p2_above_limbs'_2 p2_above_limb'_2 p2_below_limbs'_2 p2_below_limb'_2)) (m_fset (b := 9) rfl (by rfl) (ixb_lt g1) rfl (by intro i _; by_cases h : i = (p1.toNatClampNeg) <;> simp [va_up, h])) (m_putc (ws1 := (wd_Chances_tellAs E a_t a_t_heardAs a_t_total a_t_part a_t_before a_t_scaled a_t_scaledBelow a_t_chance a_t_below a_t_below_limb a_p2 a_p2_above a_p2_above_limb a_p2_below a_p2_below_limb r_t_chance r_t_chance_limb t_words t_chance_limb t_chance_limbs t_below_limbs t_below_limb p2_above_limbs'_2 p2_above_limb'_2 p2_below_limbs'_2 p2_below_limb'_2)) (m_fset (b := 19) m_sp1 (by rfl) (ixb_lt g1) m_sp1 (by intro i _; by_cases h : i = (p1.toNatClampNeg) <;> simp [va_up, h])) (m_putc (ws1 := (wd_Chances_tellAs E a_t a_t_heardAs a_t_total a_t_part a_t_before a_t_scaled a_t_scaledBelow a_t_chance a_t_below a_t_below_limb a_p2 a_p2_above a_p2_above_limb a_p2_below a_p2_below_limb r_t_chance r_t_chance_limb t_words t_chance_limb t_chance_limbs t_below_limbs t_below_limb p2_above_limbs'_2 p2_above_limb'_2 p2_below_limbs'_2 p2_below_limb'_2)) rfl (m_putc (ws1 := (wd_Chances_tellAs E a_t a_t_heardAs a_t_total a_t_part a_t_before a_t_scaled a_t_scaledBelow a_t_chance a_t_below a_t_below_limb a_p2 a_p2_above a_p2_above_limb a_p2_below a_p2_below_limb r_t_chance r_t_chance_limb t_words t_chance_limb t_chance_limbs t_below_limbs t_below_limb p2_above_limbs'_2 p2_above_limb'_2 p2_below_limbs'_2 p2_below_limb'_2)) rfl m_putn))))))))) 4 rfl rfl rfl (As := [.ref (r_t_chance (p1.toNatClampNeg)), .ref a_t_below]) (rest := []) rfl rfl ⟨rfl, rfl, Nat.le_of_ble_eq_true rfl, Nat.le_of_ble_eq_true rfl⟩ (Nat.le_of_ble_eq_true rfl) (Nat.zero_le _) (Nat.zero_le _) dX0_tellAs_11 (fun H locs hW => ?_)
  clear hC2
  have hq := Option.some.inj hF
  subst hq
  exact hret _ _ _ _ hW dX0_tellAs_14
abbrev wd_S_arrives (E : m_E) (a_t : Nat) (a_t_draft : Nat) (a_t_firstImage : Nat) (a_t_secondImage : Nat) (a_t_news : Nat) (a_t_otherNews : Nat) (a_t_readings : Nat) (a_t_turning : Nat) (a_t_text : Nat) (a_t_now : Nat) (a_t_now_floor : Nat) (a_t_now_sightings : Nat) (a_t_now_level : Nat) (a_t_now_loss : Nat) (a_t_now_lexicon : Nat) (a_t_now_lexicon_number : Nat) (a_t_now_lexicon_row : Nat) (a_t_now_lexicon_others : Nat) (a_t_now_lexicon_length : Nat) (a_t_now_lexicon_weight : Nat) (a_t_now_lexicon_leastLike : Nat) (a_t_now_lexicon_lipsOf : Nat) (a_t_chances : Nat) (a_t_chances_scaled : Nat) (a_t_chances_scaledBelow : Nat) (a_t_chances_heardAs : Nat) (a_t_chances_total : Nat) (a_t_chances_part : Nat) (a_t_chances_chance : Nat) (a_t_chances_before : Nat) (a_t_chances_below : Nat) (a_t_chances_below_limb : Nat) (a_t_fraction : Nat) (a_t_fraction_above : Nat) (a_t_fraction_above_limb : Nat) (a_t_fraction_below : Nat) (a_t_fraction_below_limb : Nat) (r_t_chances_heardAs : Nat → Nat) (r_t_chances_chance : Nat → Nat) (r_t_chances_chance_limb : Nat → Nat) (r_t_chances_before : Nat → Nat) (r_t_chances_before_limb : Nat → Nat) (t_now_clearness : Int32) (t_now_isKept : Int32) (t_now_lexicon_words : Int32) (t_now_lexicon_rowLips : Int32) (t_now_lexicon_girlKnows : Int32) (t_now_lexicon_length : Nat → Int32) (t_now_lexicon_weight : Nat → Int32) (t_now_lexicon_leastLike : Nat → Int32) (t_now_lexicon_lipsOf : Nat → Int32) (t_chances_words : Int32) (t_chances_heardAs : Nat → Nat → Int32) (t_chances_total : Nat → Int32) (t_chances_part : Nat → Int32) (t_chances_chance_limb : Nat → Nat → Int32) (t_chances_chance_limbs : Nat → Int32) (t_chances_before_limb : Nat → Nat → Int32) (t_chances_before_limbs : Nat → Int32) (t_chances_below_limbs : Int32) (t_chances_below_limb : Nat → Int32) (t_fraction_above_limbs : Int32) (t_fraction_above_limb : Nat → Int32) (t_fraction_below_limbs : Int32) (t_fraction_below_limb : Nat → Int32) : va_W := [(a_t, .inr (11, [.ref a_t_now, .ref a_t_draft, .ref a_t_firstImage, .ref a_t_secondImage, .ref a_t_news, .ref a_t_otherNews, .ref a_t_readings, .ref a_t_chances, .ref a_t_turning, .ref a_t_text, .ref a_t_fraction])), (a_t_now, .inr (7, [.ref a_t_now_floor, .ref a_t_now_sightings, .ref a_t_now_lexicon, .ref a_t_now_level, .ref a_t_now_loss, .int t_now_clearness, .int t_now_isKept])), (a_t_now_lexicon, .inr (3, [.int t_now_lexicon_words, .ref a_t_now_lexicon_length, .ref a_t_now_lexicon_number, .ref a_t_now_lexicon_weight, .ref a_t_now_lexicon_leastLike, .ref a_t_now_lexicon_row, .int t_now_lexicon_rowLips, .int t_now_lexicon_girlKnows, .ref a_t_now_lexicon_lipsOf, .ref a_t_now_lexicon_others])), (a_t_now_lexicon_length, .inl (E.2.1 0, 10, .inl t_now_lexicon_length)), (a_t_now_lexicon_weight, .inl (E.2.1 0, 10, .inl t_now_lexicon_weight)), (a_t_now_lexicon_leastLike, .inl (E.2.1 0, 6, .inl t_now_lexicon_leastLike)), (a_t_now_lexicon_lipsOf, .inl (E.2.1 0, 60, .inl t_now_lexicon_lipsOf)), (a_t_chances, .inr (0, [.ref a_t_chances_heardAs, .ref a_t_chances_total, .ref a_t_chances_part, .ref a_t_chances_chance, .ref a_t_chances_before, .ref a_t_chances_below, .ref a_t_chances_scaled, .ref a_t_chances_scaledBelow, .int t_chances_words])), (a_t_chances_heardAs, .inl (E.2.1 3, 10, .inr (.inr (.inr (.inr (fun i => some (r_t_chances_heardAs i))))))), (a_t_chances_total, .inl (E.2.1 0, 10, .inl t_chances_total)), (a_t_chances_part, .inl (E.2.1 0, 10, .inl t_chances_part)), (a_t_chances_chance, .inl (E.2.1 2, 10, .inr (.inr (.inr (.inr (fun i => some (r_t_chances_chance i))))))), (a_t_chances_before, .inl (E.2.1 2, 10, .inr (.inr (.inr (.inr (fun i => some (r_t_chances_before i))))))), (a_t_chances_below, .inr (4, [.ref a_t_chances_below_limb, .int t_chances_below_limbs])), (a_t_chances_below_limb, .inl (E.2.1 0, 40, .inl t_chances_below_limb)), (a_t_fraction, .inr (2, [.ref a_t_fraction_above, .ref a_t_fraction_below])), (a_t_fraction_above, .inr (4, [.ref a_t_fraction_above_limb, .int t_fraction_above_limbs])), (a_t_fraction_above_limb, .inl (E.2.1 0, 40, .inl t_fraction_above_limb)), (a_t_fraction_below, .inr (4, [.ref a_t_fraction_below_limb, .int t_fraction_below_limbs])), (a_t_fraction_below_limb, .inl (E.2.1 0, 40, .inl t_fraction_below_limb))] ++ (m_fam 10 (fun i => (r_t_chances_heardAs i, .inl (E.2.1 0, 10, .inl (t_chances_heardAs i)))) ++ (m_fam 10 (fun i => (r_t_chances_chance i, .inr (4, [.ref (r_t_chances_chance_limb i), .int (t_chances_chance_limbs i)]))) ++ (m_fam 10 (fun i => (r_t_chances_chance_limb i, .inl (E.2.1 0, 40, .inl (t_chances_chance_limb i)))) ++ (m_fam 10 (fun i => (r_t_chances_before i, .inr (4, [.ref (r_t_chances_before_limb i), .int (t_chances_before_limbs i)]))) ++ (m_fam 10 (fun i => (r_t_chances_before_limb i, .inl (E.2.1 0, 40, .inl (t_chances_before_limb i)))) ++ [])))))
def rm_S_arrives : Room := { frames := 5, cells := 0, slots := 0, locals := 111 }
set_option maxHeartbeats 4000000 in
set_option maxRecDepth 100000 in
theorem c_S_arrives (l : Launch) (E : m_E) (sz N : Nat) (a_t : Nat) (a_t_draft : Nat) (a_t_firstImage : Nat) (a_t_secondImage : Nat) (a_t_news : Nat) (a_t_otherNews : Nat) (a_t_readings : Nat) (a_t_turning : Nat) (a_t_text : Nat) (a_t_now : Nat) (a_t_now_floor : Nat) (a_t_now_sightings : Nat) (a_t_now_level : Nat) (a_t_now_loss : Nat) (a_t_now_lexicon : Nat) (a_t_now_lexicon_number : Nat) (a_t_now_lexicon_row : Nat) (a_t_now_lexicon_others : Nat) (a_t_now_lexicon_length : Nat) (a_t_now_lexicon_weight : Nat) (a_t_now_lexicon_leastLike : Nat) (a_t_now_lexicon_lipsOf : Nat) (a_t_chances : Nat) (a_t_chances_scaled : Nat) (a_t_chances_scaledBelow : Nat) (a_t_chances_heardAs : Nat) (a_t_chances_total : Nat) (a_t_chances_part : Nat) (a_t_chances_chance : Nat) (a_t_chances_before : Nat) (a_t_chances_below : Nat) (a_t_chances_below_limb : Nat) (a_t_fraction : Nat) (a_t_fraction_above : Nat) (a_t_fraction_above_limb : Nat) (a_t_fraction_below : Nat) (a_t_fraction_below_limb : Nat) (r_t_chances_heardAs : Nat → Nat) (r_t_chances_chance : Nat → Nat) (r_t_chances_chance_limb : Nat → Nat) (r_t_chances_before : Nat → Nat) (r_t_chances_before_limb : Nat → Nat) (t_now_clearness : Int32) (t_now_isKept : Int32) (t_now_lexicon_words : Int32) (t_now_lexicon_rowLips : Int32) (t_now_lexicon_girlKnows : Int32) (t_now_lexicon_length : Nat → Int32) (t_now_lexicon_weight : Nat → Int32) (t_now_lexicon_leastLike : Nat → Int32) (t_now_lexicon_lipsOf : Nat → Int32) (t_chances_words : Int32) (t_chances_heardAs : Nat → Nat → Int32) (t_chances_total : Nat → Int32) (t_chances_part : Nat → Int32) (t_chances_chance_limb : Nat → Nat → Int32) (t_chances_chance_limbs : Nat → Int32) (t_chances_before_limb : Nat → Nat → Int32) (t_chances_before_limbs : Nat → Int32) (t_chances_below_limbs : Int32) (t_chances_below_limb : Nat → Int32) (t_fraction_above_limbs : Int32) (t_fraction_above_limb : Nat → Int32) (t_fraction_below_limbs : Int32) (t_fraction_below_limb : Nat → Int32) (p1 : Int32) (p2 : Int32) (p3 : Int32) (ures : Int32 × Int32 × (Nat → Nat → Int32) × (Nat → Int32) × (Nat → Int32) × (Nat → Nat → Int32) × (Nat → Int32) × (Nat → Nat → Int32) × (Nat → Int32) × Int32 × (Nat → Int32) × Int32 × (Nat → Int32) × Int32 × (Nat → Int32)) (hF : F_S_arrives N p1 p2 p3 t_now_clearness t_now_lexicon_words t_now_lexicon_length t_now_lexicon_weight t_now_lexicon_leastLike t_now_lexicon_lipsOf t_chances_words t_chances_heardAs t_chances_total t_chances_part t_chances_chance_limb t_chances_chance_limbs t_chances_before_limb t_chances_before_limbs t_chances_below_limbs t_chances_below_limb t_fraction_above_limbs t_fraction_above_limb t_fraction_below_limbs t_fraction_below_limb = some ures) : m_Met l yX11_arrives cX11_arrives 6 (some .int) rm_S_arrives E (wd_S_arrives E a_t a_t_draft a_t_firstImage a_t_secondImage a_t_news a_t_otherNews a_t_readings a_t_turning a_t_text a_t_now a_t_now_floor a_t_now_sightings a_t_now_level a_t_now_loss a_t_now_lexicon a_t_now_lexicon_number a_t_now_lexicon_row a_t_now_lexicon_others a_t_now_lexicon_length a_t_now_lexicon_weight a_t_now_lexicon_leastLike a_t_now_lexicon_lipsOf a_t_chances a_t_chances_scaled a_t_chances_scaledBelow a_t_chances_heardAs a_t_chances_total a_t_chances_part a_t_chances_chance a_t_chances_before a_t_chances_below a_t_chances_below_limb a_t_fraction a_t_fraction_above a_t_fraction_above_limb a_t_fraction_below a_t_fraction_below_limb r_t_chances_heardAs r_t_chances_chance r_t_chances_chance_limb r_t_chances_before r_t_chances_before_limb t_now_clearness t_now_isKept t_now_lexicon_words t_now_lexicon_rowLips t_now_lexicon_girlKnows t_now_lexicon_length t_now_lexicon_weight t_now_lexicon_leastLike t_now_lexicon_lipsOf t_chances_words t_chances_heardAs t_chances_total t_chances_part t_chances_chance_limb t_chances_chance_limbs t_chances_before_limb t_chances_before_limbs t_chances_below_limbs t_chances_below_limb t_fraction_above_limbs t_fraction_above_limb t_fraction_below_limbs t_fraction_below_limb) (wd_S_arrives E a_t a_t_draft a_t_firstImage a_t_secondImage a_t_news a_t_otherNews a_t_readings a_t_turning a_t_text a_t_now a_t_now_floor a_t_now_sightings a_t_now_level a_t_now_loss a_t_now_lexicon a_t_now_lexicon_number a_t_now_lexicon_row a_t_now_lexicon_others a_t_now_lexicon_length a_t_now_lexicon_weight a_t_now_lexicon_leastLike a_t_now_lexicon_lipsOf a_t_chances a_t_chances_scaled a_t_chances_scaledBelow a_t_chances_heardAs a_t_chances_total a_t_chances_part a_t_chances_chance a_t_chances_before a_t_chances_below a_t_chances_below_limb a_t_fraction a_t_fraction_above a_t_fraction_above_limb a_t_fraction_below a_t_fraction_below_limb r_t_chances_heardAs r_t_chances_chance r_t_chances_chance_limb r_t_chances_before r_t_chances_before_limb t_now_clearness t_now_isKept t_now_lexicon_words t_now_lexicon_rowLips t_now_lexicon_girlKnows t_now_lexicon_length t_now_lexicon_weight t_now_lexicon_leastLike t_now_lexicon_lipsOf ures.2.1 ures.2.2.1 ures.2.2.2.1 ures.2.2.2.2.1 ures.2.2.2.2.2.1 ures.2.2.2.2.2.2.1 ures.2.2.2.2.2.2.2.1 ures.2.2.2.2.2.2.2.2.1 ures.2.2.2.2.2.2.2.2.2.1 ures.2.2.2.2.2.2.2.2.2.2.1 ures.2.2.2.2.2.2.2.2.2.2.2.1 ures.2.2.2.2.2.2.2.2.2.2.2.2.1 ures.2.2.2.2.2.2.2.2.2.2.2.2.2.1 ures.2.2.2.2.2.2.2.2.2.2.2.2.2.2) sz [.ref a_t, .int p1, .int p2, .int p3] (some (.int ures.1)) := by
  refine m_ofI (by decide) (Nat.le_of_ble_eq_true rfl) ?_
  intro p e s m args below meth c A Q ls X hW hA hl hret
  obtain ⟨hx, hb, -, hown, hts, hK, -, hG⟩ := id X
  have hl : lv_has ls 6 [(0, .ref a_t), (1, .int p1), (2, .int p2), (3, .int p3)] := hl
  unfold F_S_arrives at hF
  refine lv_aload_n hx hb dX11_arrives_0 rfl (lv_at hl 0 rfl) ?_
  refine m_get X hW fdX11_10 0 rfl rfl dX11_arrives_1 ?_
  refine m_get X hW fdX11_156 1 rfl rfl dX11_arrives_4 ?_
  refine lv_astore (lv' := [(4, .ref a_t_now_lexicon), (0, .ref a_t), (1, .int p1), (2, .int p2), (3, .int p3)]) hx hb dX11_arrives_7 hl (by decide) rfl (fun ls hl => ?_)
  refine lv_aload hx hb dX11_arrives_9 (lv_at hl 0 rfl) ?_
  refine lv_iload_n hx hb dX11_arrives_11 rfl (lv_at hl 2 rfl) ?_
  refine m_callV X hW hA hl.1 lkX11_169 (c_Lexicon_isWord l E _ N a_t_now_lexicon a_t_now_lexicon_length a_t_now_lexicon_number a_t_now_lexicon_weight a_t_now_lexicon_leastLike a_t_now_lexicon_row a_t_now_lexicon_lipsOf a_t_now_lexicon_others t_now_lexicon_words t_now_lexicon_rowLips t_now_lexicon_girlKnows p1 (F_Lexicon_isWord p1 t_now_lexicon_words) rfl) ([2]) (by decide) rfl rfl (ws' := (wd_S_arrives E a_t a_t_draft a_t_firstImage a_t_secondImage a_t_news a_t_otherNews a_t_readings a_t_turning a_t_text a_t_now a_t_now_floor a_t_now_sightings a_t_now_level a_t_now_loss a_t_now_lexicon a_t_now_lexicon_number a_t_now_lexicon_row a_t_now_lexicon_others a_t_now_lexicon_length a_t_now_lexicon_weight a_t_now_lexicon_leastLike a_t_now_lexicon_lipsOf a_t_chances a_t_chances_scaled a_t_chances_scaledBelow a_t_chances_heardAs a_t_chances_total a_t_chances_part a_t_chances_chance a_t_chances_before a_t_chances_below a_t_chances_below_limb a_t_fraction a_t_fraction_above a_t_fraction_above_limb a_t_fraction_below a_t_fraction_below_limb r_t_chances_heardAs r_t_chances_chance r_t_chances_chance_limb r_t_chances_before r_t_chances_before_limb t_now_clearness t_now_isKept t_now_lexicon_words t_now_lexicon_rowLips t_now_lexicon_girlKnows t_now_lexicon_length t_now_lexicon_weight t_now_lexicon_leastLike t_now_lexicon_lipsOf t_chances_words t_chances_heardAs t_chances_total t_chances_part t_chances_chance_limb t_chances_chance_limbs t_chances_before_limb t_chances_before_limbs t_chances_below_limbs t_chances_below_limb t_fraction_above_limbs t_fraction_above_limb t_fraction_below_limbs t_fraction_below_limb)) rfl 2 rfl rfl rfl (As := [.int p1]) (rest := []) rfl rfl ⟨rfl, rfl, Nat.le_of_ble_eq_true rfl, Nat.le_of_ble_eq_true rfl⟩ (Nat.le_of_ble_eq_true rfl) (Nat.zero_le _) (Nat.zero_le _) dX11_arrives_12 (fun H locs hW => ?_)
  refine lv_if_eq (tgt := 37) hx hb dX11_arrives_15 (by decide) (fun c1 => ?_) (fun c1 => ?_)
  · have hF := if_y c1 hF
    refine lv_bipush (v := (-2 : Int32)) hx hb dX11_arrives_37 (by decide) ?_
    have hq := Option.some.inj hF
    subst hq
    exact hret _ _ _ _ hW dX11_arrives_39
  · have hF := if_n c1 hF
    refine lv_aload hx hb dX11_arrives_18 (lv_at hl 0 rfl) ?_
    refine lv_iload_n hx hb dX11_arrives_20 rfl (lv_at hl 3 rfl) ?_
    refine m_callV X hW hA hl.1 lkX11_169 (c_Lexicon_isWord l E _ N a_t_now_lexicon a_t_now_lexicon_length a_t_now_lexicon_number a_t_now_lexicon_weight a_t_now_lexicon_leastLike a_t_now_lexicon_row a_t_now_lexicon_lipsOf a_t_now_lexicon_others t_now_lexicon_words t_now_lexicon_rowLips t_now_lexicon_girlKnows p2 (F_Lexicon_isWord p2 t_now_lexicon_words) rfl) ([2]) (by decide) rfl rfl (ws' := (wd_S_arrives E a_t a_t_draft a_t_firstImage a_t_secondImage a_t_news a_t_otherNews a_t_readings a_t_turning a_t_text a_t_now a_t_now_floor a_t_now_sightings a_t_now_level a_t_now_loss a_t_now_lexicon a_t_now_lexicon_number a_t_now_lexicon_row a_t_now_lexicon_others a_t_now_lexicon_length a_t_now_lexicon_weight a_t_now_lexicon_leastLike a_t_now_lexicon_lipsOf a_t_chances a_t_chances_scaled a_t_chances_scaledBelow a_t_chances_heardAs a_t_chances_total a_t_chances_part a_t_chances_chance a_t_chances_before a_t_chances_below a_t_chances_below_limb a_t_fraction a_t_fraction_above a_t_fraction_above_limb a_t_fraction_below a_t_fraction_below_limb r_t_chances_heardAs r_t_chances_chance r_t_chances_chance_limb r_t_chances_before r_t_chances_before_limb t_now_clearness t_now_isKept t_now_lexicon_words t_now_lexicon_rowLips t_now_lexicon_girlKnows t_now_lexicon_length t_now_lexicon_weight t_now_lexicon_leastLike t_now_lexicon_lipsOf t_chances_words t_chances_heardAs t_chances_total t_chances_part t_chances_chance_limb t_chances_chance_limbs t_chances_before_limb t_chances_before_limbs t_chances_below_limbs t_chances_below_limb t_fraction_above_limbs t_fraction_above_limb t_fraction_below_limbs t_fraction_below_limb)) rfl 2 rfl rfl rfl (As := [.int p2]) (rest := []) rfl rfl ⟨rfl, rfl, Nat.le_of_ble_eq_true rfl, Nat.le_of_ble_eq_true rfl⟩ (Nat.le_of_ble_eq_true rfl) (Nat.zero_le _) (Nat.zero_le _) dX11_arrives_21 (fun H locs hW => ?_)
    refine lv_if_eq (tgt := 37) hx hb dX11_arrives_24 (by decide) (fun c2 => ?_) (fun c2 => ?_)
    · have hF := if_y c2 hF
      refine lv_bipush (v := (-2 : Int32)) hx hb dX11_arrives_37 (by decide) ?_
      have hq := Option.some.inj hF
      subst hq
      exact hret _ _ _ _ hW dX11_arrives_39
    · have hF := if_n c2 hF
      refine lv_iload_n hx hb dX11_arrives_27 rfl (lv_at hl 4 rfl) ?_
      refine lv_iconst (v := (1 : Int32)) hx hb dX11_arrives_28 (by decide) ?_
      refine lv_bipush (v := (12 : Int32)) hx hb dX11_arrives_29 (by decide) ?_
      refine m_callS X hW hA hl.1 lkX11_98 (c_S_within l E _ N   p3 (1 : Int32) (12 : Int32) (F_S_within p3 (1 : Int32) (12 : Int32)) rfl) ([]) (by decide) rfl rfl (ws' := (wd_S_arrives E a_t a_t_draft a_t_firstImage a_t_secondImage a_t_news a_t_otherNews a_t_readings a_t_turning a_t_text a_t_now a_t_now_floor a_t_now_sightings a_t_now_level a_t_now_loss a_t_now_lexicon a_t_now_lexicon_number a_t_now_lexicon_row a_t_now_lexicon_others a_t_now_lexicon_length a_t_now_lexicon_weight a_t_now_lexicon_leastLike a_t_now_lexicon_lipsOf a_t_chances a_t_chances_scaled a_t_chances_scaledBelow a_t_chances_heardAs a_t_chances_total a_t_chances_part a_t_chances_chance a_t_chances_before a_t_chances_below a_t_chances_below_limb a_t_fraction a_t_fraction_above a_t_fraction_above_limb a_t_fraction_below a_t_fraction_below_limb r_t_chances_heardAs r_t_chances_chance r_t_chances_chance_limb r_t_chances_before r_t_chances_before_limb t_now_clearness t_now_isKept t_now_lexicon_words t_now_lexicon_rowLips t_now_lexicon_girlKnows t_now_lexicon_length t_now_lexicon_weight t_now_lexicon_leastLike t_now_lexicon_lipsOf t_chances_words t_chances_heardAs t_chances_total t_chances_part t_chances_chance_limb t_chances_chance_limbs t_chances_before_limb t_chances_before_limbs t_chances_below_limbs t_chances_below_limb t_fraction_above_limbs t_fraction_above_limb t_fraction_below_limbs t_fraction_below_limb)) rfl (As := [.int p3, .int (1 : Int32), .int (12 : Int32)]) (rest := []) rfl rfl ⟨rfl, rfl, Nat.le_of_ble_eq_true rfl, Nat.le_of_ble_eq_true rfl⟩ (Nat.le_of_ble_eq_true rfl) (Nat.zero_le _) (Nat.zero_le _) dX11_arrives_31 (fun H locs hW => ?_)
      refine lv_if_ne (tgt := 40) hx hb dX11_arrives_34 (by decide) (fun c3 => ?_) (fun c3 => ?_)
      · have hF := if_n c3 hF
        refine lv_aload_n hx hb dX11_arrives_40 rfl (lv_at hl 1 rfl) ?_
        refine m_get X hW fdX11_45 0 rfl rfl dX11_arrives_41 ?_
        refine lv_aload hx hb dX11_arrives_44 (lv_at hl 0 rfl) ?_
        refine lv_aload_n hx hb dX11_arrives_46 rfl (lv_at hl 1 rfl) ?_
        refine m_get X hW fdX11_10 0 rfl rfl dX11_arrives_47 ?_
        refine m_get X hW fdX11_208 1 rfl rfl dX11_arrives_50 ?_
        refine lv_iload_n hx hb dX11_arrives_53 rfl (lv_at hl 2 rfl) ?_
        obtain ⟨t_chances_words'_2, t_chances_heardAs'_2, t_chances_total'_2, t_chances_part'_2, t_chances_chance_limb'_5, t_chances_chance_limbs'_5, t_chances_below_limbs'_5, t_chances_below_limb'_5, hC4, hF⟩ := bO_s8 hF
        refine m_callV X hW hA hl.1 lkX11_211 (c_Chances_say l E _ N a_t_chances a_t_chances_before a_t_chances_scaled a_t_chances_scaledBelow a_t_chances_heardAs a_t_chances_total a_t_chances_part a_t_chances_chance a_t_chances_below a_t_chances_below_limb a_t_now_lexicon a_t_now_lexicon_number a_t_now_lexicon_row a_t_now_lexicon_others a_t_now_lexicon_length a_t_now_lexicon_weight a_t_now_lexicon_leastLike a_t_now_lexicon_lipsOf r_t_chances_heardAs r_t_chances_chance r_t_chances_chance_limb t_chances_words t_chances_heardAs t_chances_total t_chances_part t_chances_chance_limb t_chances_chance_limbs t_chances_below_limbs t_chances_below_limb t_now_lexicon_words t_now_lexicon_rowLips t_now_lexicon_girlKnows t_now_lexicon_length t_now_lexicon_weight t_now_lexicon_leastLike t_now_lexicon_lipsOf t_now_clearness p1 (t_chances_words'_2, t_chances_heardAs'_2, t_chances_total'_2, t_chances_part'_2, t_chances_chance_limb'_5, t_chances_chance_limbs'_5, t_chances_below_limbs'_5, t_chances_below_limb'_5) hC4) ([7, 8, 9, 10, 11, 13, 14, 2, 3, 4, 5, 6] ++ ((List.range 10).map (fun i => 20 + i) ++ ((List.range 10).map (fun i => 30 + i) ++ ((List.range 10).map (fun i => 40 + i) ++ [])))) (by decide +kernel) (m_CA (by rfl) (m_CA (m_CF (b := 20) rfl (by rfl)) (m_CA (m_CF (b := 30) m_sp1 (by rfl)) (m_CA (m_CF (b := 40) m_sp2 (by rfl)) m_Cn)))) (by simp [m_fam]) (ws' := (wd_S_arrives E a_t a_t_draft a_t_firstImage a_t_secondImage a_t_news a_t_otherNews a_t_readings a_t_turning a_t_text a_t_now a_t_now_floor a_t_now_sightings a_t_now_level a_t_now_loss a_t_now_lexicon a_t_now_lexicon_number a_t_now_lexicon_row a_t_now_lexicon_others a_t_now_lexicon_length a_t_now_lexicon_weight a_t_now_lexicon_leastLike a_t_now_lexicon_lipsOf a_t_chances a_t_chances_scaled a_t_chances_scaledBelow a_t_chances_heardAs a_t_chances_total a_t_chances_part a_t_chances_chance a_t_chances_before a_t_chances_below a_t_chances_below_limb a_t_fraction a_t_fraction_above a_t_fraction_above_limb a_t_fraction_below a_t_fraction_below_limb r_t_chances_heardAs r_t_chances_chance r_t_chances_chance_limb r_t_chances_before r_t_chances_before_limb t_now_clearness t_now_isKept t_now_lexicon_words t_now_lexicon_rowLips t_now_lexicon_girlKnows t_now_lexicon_length t_now_lexicon_weight t_now_lexicon_leastLike t_now_lexicon_lipsOf t_chances_words'_2 t_chances_heardAs'_2 t_chances_total'_2 t_chances_part'_2 t_chances_chance_limb'_5 t_chances_chance_limbs'_5 t_chances_before_limb t_chances_before_limbs t_chances_below_limbs'_5 t_chances_below_limb'_5 t_fraction_above_limbs t_fraction_above_limb t_fraction_below_limbs t_fraction_below_limb)) (m_putA (ws1 := (wd_S_arrives E a_t a_t_draft a_t_firstImage a_t_secondImage a_t_news a_t_otherNews a_t_readings a_t_turning a_t_text a_t_now a_t_now_floor a_t_now_sightings a_t_now_level a_t_now_loss a_t_now_lexicon a_t_now_lexicon_number a_t_now_lexicon_row a_t_now_lexicon_others a_t_now_lexicon_length a_t_now_lexicon_weight a_t_now_lexicon_leastLike a_t_now_lexicon_lipsOf a_t_chances a_t_chances_scaled a_t_chances_scaledBelow a_t_chances_heardAs a_t_chances_total a_t_chances_part a_t_chances_chance a_t_chances_before a_t_chances_below a_t_chances_below_limb a_t_fraction a_t_fraction_above a_t_fraction_above_limb a_t_fraction_below a_t_fraction_below_limb r_t_chances_heardAs r_t_chances_chance r_t_chances_chance_limb r_t_chances_before r_t_chances_before_limb t_now_clearness t_now_isKept t_now_lexicon_words t_now_lexicon_rowLips t_now_lexicon_girlKnows t_now_lexicon_length t_now_lexicon_weight t_now_lexicon_leastLike t_now_lexicon_lipsOf t_chances_words'_2 t_chances_heardAs t_chances_total'_2 t_chances_part'_2 t_chances_chance_limb t_chances_chance_limbs t_chances_before_limb t_chances_before_limbs t_chances_below_limbs'_5 t_chances_below_limb'_5 t_fraction_above_limbs t_fraction_above_limb t_fraction_below_limbs t_fraction_below_limb)) (by rfl) (m_putXS 20 (by rfl) (by decide) [none, none, some 7, some 8, some 9, some 10, some 11, some 0, some 1, some 2, some 3, some 4, none, some 5, some 6, none, none, none, none, none] (by decide +kernel) (by rfl) (by decide +kernel) (by rfl) (by rfl)) (m_putA (ws1 := (wd_S_arrives E a_t a_t_draft a_t_firstImage a_t_secondImage a_t_news a_t_otherNews a_t_readings a_t_turning a_t_text a_t_now a_t_now_floor a_t_now_sightings a_t_now_level a_t_now_loss a_t_now_lexicon a_t_now_lexicon_number a_t_now_lexicon_row a_t_now_lexicon_others a_t_now_lexicon_length a_t_now_lexicon_weight a_t_now_lexicon_leastLike a_t_now_lexicon_lipsOf a_t_chances a_t_chances_scaled a_t_chances_scaledBelow a_t_chances_heardAs a_t_chances_total a_t_chances_part a_t_chances_chance a_t_chances_before a_t_chances_below a_t_chances_below_limb a_t_fraction a_t_fraction_above a_t_fraction_above_limb a_t_fraction_below a_t_fraction_below_limb r_t_chances_heardAs r_t_chances_chance r_t_chances_chance_limb r_t_chances_before r_t_chances_before_limb t_now_clearness t_now_isKept t_now_lexicon_words t_now_lexicon_rowLips t_now_lexicon_girlKnows t_now_lexicon_length t_now_lexicon_weight t_now_lexicon_leastLike t_now_lexicon_lipsOf t_chances_words'_2 t_chances_heardAs'_2 t_chances_total'_2 t_chances_part'_2 t_chances_chance_limb t_chances_chance_limbs t_chances_before_limb t_chances_before_limbs t_chances_below_limbs'_5 t_chances_below_limb'_5 t_fraction_above_limbs t_fraction_above_limb t_fraction_below_limbs t_fraction_below_limb)) (by simp [m_fam]) (m_putF (b := 20) rfl (by rfl) rfl) (m_putA (ws1 := (wd_S_arrives E a_t a_t_draft a_t_firstImage a_t_secondImage a_t_news a_t_otherNews a_t_readings a_t_turning a_t_text a_t_now a_t_now_floor a_t_now_sightings a_t_now_level a_t_now_loss a_t_now_lexicon a_t_now_lexicon_number a_t_now_lexicon_row a_t_now_lexicon_others a_t_now_lexicon_length a_t_now_lexicon_weight a_t_now_lexicon_leastLike a_t_now_lexicon_lipsOf a_t_chances a_t_chances_scaled a_t_chances_scaledBelow a_t_chances_heardAs a_t_chances_total a_t_chances_part a_t_chances_chance a_t_chances_before a_t_chances_below a_t_chances_below_limb a_t_fraction a_t_fraction_above a_t_fraction_above_limb a_t_fraction_below a_t_fraction_below_limb r_t_chances_heardAs r_t_chances_chance r_t_chances_chance_limb r_t_chances_before r_t_chances_before_limb t_now_clearness t_now_isKept t_now_lexicon_words t_now_lexicon_rowLips t_now_lexicon_girlKnows t_now_lexicon_length t_now_lexicon_weight t_now_lexicon_leastLike t_now_lexicon_lipsOf t_chances_words'_2 t_chances_heardAs'_2 t_chances_total'_2 t_chances_part'_2 t_chances_chance_limb t_chances_chance_limbs'_5 t_chances_before_limb t_chances_before_limbs t_chances_below_limbs'_5 t_chances_below_limb'_5 t_fraction_above_limbs t_fraction_above_limb t_fraction_below_limbs t_fraction_below_limb)) (by simp [m_fam]) (m_putF (b := 30) m_sp1 (by rfl) m_sp1) (m_putA (ws1 := (wd_S_arrives E a_t a_t_draft a_t_firstImage a_t_secondImage a_t_news a_t_otherNews a_t_readings a_t_turning a_t_text a_t_now a_t_now_floor a_t_now_sightings a_t_now_level a_t_now_loss a_t_now_lexicon a_t_now_lexicon_number a_t_now_lexicon_row a_t_now_lexicon_others a_t_now_lexicon_length a_t_now_lexicon_weight a_t_now_lexicon_leastLike a_t_now_lexicon_lipsOf a_t_chances a_t_chances_scaled a_t_chances_scaledBelow a_t_chances_heardAs a_t_chances_total a_t_chances_part a_t_chances_chance a_t_chances_before a_t_chances_below a_t_chances_below_limb a_t_fraction a_t_fraction_above a_t_fraction_above_limb a_t_fraction_below a_t_fraction_below_limb r_t_chances_heardAs r_t_chances_chance r_t_chances_chance_limb r_t_chances_before r_t_chances_before_limb t_now_clearness t_now_isKept t_now_lexicon_words t_now_lexicon_rowLips t_now_lexicon_girlKnows t_now_lexicon_length t_now_lexicon_weight t_now_lexicon_leastLike t_now_lexicon_lipsOf t_chances_words'_2 t_chances_heardAs'_2 t_chances_total'_2 t_chances_part'_2 t_chances_chance_limb'_5 t_chances_chance_limbs'_5 t_chances_before_limb t_chances_before_limbs t_chances_below_limbs'_5 t_chances_below_limb'_5 t_fraction_above_limbs t_fraction_above_limb t_fraction_below_limbs t_fraction_below_limb)) (by simp [m_fam]) (m_putF (b := 40) m_sp2 (by rfl) m_sp2) m_putn)))) 7 rfl rfl rfl (As := [.ref a_t_now_lexicon, .int t_now_clearness, .int p1]) (rest := []) rfl rfl ⟨rfl, rfl, Nat.le_of_ble_eq_true rfl, Nat.le_of_ble_eq_true rfl⟩ (Nat.le_of_ble_eq_true rfl) (Nat.zero_le _) (Nat.zero_le _) dX11_arrives_54 (fun H locs hW => ?_)
        clear hC4
        refine lv_iconst (v := (0 : Int32)) hx hb dX11_arrives_57 (by decide) ?_
        refine lv_istore (lv' := [(5, .int (0 : Int32)), (4, .ref a_t_now_lexicon), (0, .ref a_t), (1, .int p1), (2, .int p2), (3, .int p3)]) hx hb dX11_arrives_58 hl (by decide) rfl (fun ls hl => ?_)
        obtain ⟨t_chances_chance_limbs'_8, t_chances_chance_limb'_8, t_chances_before_limbs'_6, t_chances_before_limb'_6, t_chances_below_limb'_8, t_chances_below_limbs'_8, hX6, hF⟩ := bO_s6 hF
        have L5 : ∀ (k0 : Nat) (x5 : Int32) (t_chances_chance_limbs'_6 : Nat → Int32) (t_chances_chance_limb'_6 : Nat → Nat → Int32) (t_chances_before_limbs'_4 : Nat → Int32) (t_chances_before_limb'_4 : Nat → Nat → Int32) (t_chances_below_limb'_6 : Nat → Int32) (t_chances_below_limbs'_6 : Int32) (t_chances_chance_limbs'_8 : Nat → Int32) (t_chances_chance_limb'_8 : Nat → Nat → Int32) (t_chances_before_limbs'_6 : Nat → Int32) (t_chances_before_limb'_6 : Nat → Nat → Int32) (t_chances_below_limb'_8 : Nat → Int32) (t_chances_below_limbs'_8 : Int32) (H : Heap) (locs : List Loc) (ls : Array Slot), S_arrives_L60 N p3 t_chances_words'_2 t_chances_heardAs'_2 t_chances_total'_2 t_chances_part'_2 k0 x5 t_chances_chance_limbs'_6 t_chances_chance_limb'_6 t_chances_before_limbs'_4 t_chances_before_limb'_4 t_chances_below_limb'_6 t_chances_below_limbs'_6 = some (t_chances_chance_limbs'_8, t_chances_chance_limb'_8, t_chances_before_limbs'_6, t_chances_before_limb'_6, t_chances_below_limb'_8, t_chances_below_limbs'_8) → m_H E A (wd_S_arrives E a_t a_t_draft a_t_firstImage a_t_secondImage a_t_news a_t_otherNews a_t_readings a_t_turning a_t_text a_t_now a_t_now_floor a_t_now_sightings a_t_now_level a_t_now_loss a_t_now_lexicon a_t_now_lexicon_number a_t_now_lexicon_row a_t_now_lexicon_others a_t_now_lexicon_length a_t_now_lexicon_weight a_t_now_lexicon_leastLike a_t_now_lexicon_lipsOf a_t_chances a_t_chances_scaled a_t_chances_scaledBelow a_t_chances_heardAs a_t_chances_total a_t_chances_part a_t_chances_chance a_t_chances_before a_t_chances_below a_t_chances_below_limb a_t_fraction a_t_fraction_above a_t_fraction_above_limb a_t_fraction_below a_t_fraction_below_limb r_t_chances_heardAs r_t_chances_chance r_t_chances_chance_limb r_t_chances_before r_t_chances_before_limb t_now_clearness t_now_isKept t_now_lexicon_words t_now_lexicon_rowLips t_now_lexicon_girlKnows t_now_lexicon_length t_now_lexicon_weight t_now_lexicon_leastLike t_now_lexicon_lipsOf t_chances_words'_2 t_chances_heardAs'_2 t_chances_total'_2 t_chances_part'_2 t_chances_chance_limb'_6 t_chances_chance_limbs'_6 t_chances_before_limb'_4 t_chances_before_limbs'_4 t_chances_below_limbs'_6 t_chances_below_limb'_6 t_fraction_above_limbs t_fraction_above_limb t_fraction_below_limbs t_fraction_below_limb) s.heap H locs → lv_has ls 6 [(5, .int x5), (0, .ref a_t), (2, .int p2), (3, .int p3)] → (∀ (H : Heap) (locs : List Loc) (ls : Array Slot), m_H E A (wd_S_arrives E a_t a_t_draft a_t_firstImage a_t_secondImage a_t_news a_t_otherNews a_t_readings a_t_turning a_t_text a_t_now a_t_now_floor a_t_now_sightings a_t_now_level a_t_now_loss a_t_now_lexicon a_t_now_lexicon_number a_t_now_lexicon_row a_t_now_lexicon_others a_t_now_lexicon_length a_t_now_lexicon_weight a_t_now_lexicon_leastLike a_t_now_lexicon_lipsOf a_t_chances a_t_chances_scaled a_t_chances_scaledBelow a_t_chances_heardAs a_t_chances_total a_t_chances_part a_t_chances_chance a_t_chances_before a_t_chances_below a_t_chances_below_limb a_t_fraction a_t_fraction_above a_t_fraction_above_limb a_t_fraction_below a_t_fraction_below_limb r_t_chances_heardAs r_t_chances_chance r_t_chances_chance_limb r_t_chances_before r_t_chances_before_limb t_now_clearness t_now_isKept t_now_lexicon_words t_now_lexicon_rowLips t_now_lexicon_girlKnows t_now_lexicon_length t_now_lexicon_weight t_now_lexicon_leastLike t_now_lexicon_lipsOf t_chances_words'_2 t_chances_heardAs'_2 t_chances_total'_2 t_chances_part'_2 t_chances_chance_limb'_8 t_chances_chance_limbs'_8 t_chances_before_limb'_6 t_chances_before_limbs'_6 t_chances_below_limbs'_8 t_chances_below_limb'_8 t_fraction_above_limbs t_fraction_above_limb t_fraction_below_limbs t_fraction_below_limb) s.heap H locs → lv_has ls 6 [(0, .ref a_t), (2, .int p2)] → W p l e rm_S_arrives s m args below meth c H locs 0 0 Q (F0 m 79 ls [])) → W p l e rm_S_arrives s m args below meth c H locs 0 0 Q (F0 m 60 ls []) := by
          clear hF
          intro k0
          induction k0 with
          | zero =>
            intro x5 t_chances_chance_limbs'_6 t_chances_chance_limb'_6 t_chances_before_limbs'_4 t_chances_before_limb'_4 t_chances_below_limb'_6 t_chances_below_limbs'_6 t_chances_chance_limbs'_8 t_chances_chance_limb'_8 t_chances_before_limbs'_6 t_chances_before_limb'_6 t_chances_below_limb'_8 t_chances_below_limbs'_8 H locs ls hF
            cases hF
          | succ k0 ih8 =>
            intro x5 t_chances_chance_limbs'_6 t_chances_chance_limb'_6 t_chances_before_limbs'_4 t_chances_before_limb'_4 t_chances_below_limb'_6 t_chances_below_limbs'_6 t_chances_chance_limbs'_8 t_chances_chance_limb'_8 t_chances_before_limbs'_6 t_chances_before_limb'_6 t_chances_below_limb'_8 t_chances_below_limbs'_8 H locs ls hF hW hl hk7
            rw [S_arrives_L60] at hF
            refine lv_iload hx hb dX11_arrives_60 (lv_at hl 0 rfl) ?_
            refine lv_iload_n hx hb dX11_arrives_62 rfl (lv_at hl 3 rfl) ?_
            refine lv_icmp_ge (tgt := 79) hx hb dX11_arrives_63 (by decide) (fun c9 => ?_) (fun c9 => ?_)
            · have hF := if_y c9 hF
              cases hF
              exact hk7 _ _ _ hW (lv_sub hl [1, 2] rfl)
            · have hF := if_n c9 hF
              refine lv_aload_n hx hb dX11_arrives_66 rfl (lv_at hl 1 rfl) ?_
              refine m_get X hW fdX11_45 0 rfl rfl dX11_arrives_67 ?_
              obtain ⟨t_chances_chance_limb'_7, t_chances_chance_limbs'_7, t_chances_before_limb'_5, t_chances_before_limbs'_5, t_chances_below_limbs'_7, t_chances_below_limb'_7, hC10, hF⟩ := bO_s6 hF
              refine m_callV X hW hA hl.1 lkX11_215 (c_Chances_passOn l E _ N a_t_chances a_t_chances_scaled a_t_chances_scaledBelow a_t_chances_heardAs a_t_chances_total a_t_chances_part a_t_chances_chance a_t_chances_before a_t_chances_below a_t_chances_below_limb r_t_chances_heardAs r_t_chances_chance r_t_chances_chance_limb r_t_chances_before r_t_chances_before_limb t_chances_words'_2 t_chances_heardAs'_2 t_chances_total'_2 t_chances_part'_2 t_chances_chance_limb'_6 t_chances_chance_limbs'_6 t_chances_before_limb'_4 t_chances_before_limbs'_4 t_chances_below_limbs'_6 t_chances_below_limb'_6  (t_chances_chance_limb'_7, t_chances_chance_limbs'_7, t_chances_before_limb'_5, t_chances_before_limbs'_5, t_chances_below_limbs'_7, t_chances_below_limb'_7) hC10) ([7, 8, 9, 10, 11, 12, 13, 14] ++ ((List.range 10).map (fun i => 20 + i) ++ ((List.range 10).map (fun i => 30 + i) ++ ((List.range 10).map (fun i => 40 + i) ++ ((List.range 10).map (fun i => 50 + i) ++ ((List.range 10).map (fun i => 60 + i) ++ [])))))) (by decide +kernel) (m_CA (by rfl) (m_CA (m_CF (b := 20) rfl (by rfl)) (m_CA (m_CF (b := 30) m_sp1 (by rfl)) (m_CA (m_CF (b := 40) m_sp2 (by rfl)) (m_CA (m_CF (b := 50) m_sp3 (by rfl)) (m_CA (m_CF (b := 60) m_sp4 (by rfl)) m_Cn)))))) (by simp [m_fam]) (ws' := (wd_S_arrives E a_t a_t_draft a_t_firstImage a_t_secondImage a_t_news a_t_otherNews a_t_readings a_t_turning a_t_text a_t_now a_t_now_floor a_t_now_sightings a_t_now_level a_t_now_loss a_t_now_lexicon a_t_now_lexicon_number a_t_now_lexicon_row a_t_now_lexicon_others a_t_now_lexicon_length a_t_now_lexicon_weight a_t_now_lexicon_leastLike a_t_now_lexicon_lipsOf a_t_chances a_t_chances_scaled a_t_chances_scaledBelow a_t_chances_heardAs a_t_chances_total a_t_chances_part a_t_chances_chance a_t_chances_before a_t_chances_below a_t_chances_below_limb a_t_fraction a_t_fraction_above a_t_fraction_above_limb a_t_fraction_below a_t_fraction_below_limb r_t_chances_heardAs r_t_chances_chance r_t_chances_chance_limb r_t_chances_before r_t_chances_before_limb t_now_clearness t_now_isKept t_now_lexicon_words t_now_lexicon_rowLips t_now_lexicon_girlKnows t_now_lexicon_length t_now_lexicon_weight t_now_lexicon_leastLike t_now_lexicon_lipsOf t_chances_words'_2 t_chances_heardAs'_2 t_chances_total'_2 t_chances_part'_2 t_chances_chance_limb'_7 t_chances_chance_limbs'_7 t_chances_before_limb'_5 t_chances_before_limbs'_5 t_chances_below_limbs'_7 t_chances_below_limb'_7 t_fraction_above_limbs t_fraction_above_limb t_fraction_below_limbs t_fraction_below_limb)) (m_putA (ws1 := (wd_S_arrives E a_t a_t_draft a_t_firstImage a_t_secondImage a_t_news a_t_otherNews a_t_readings a_t_turning a_t_text a_t_now a_t_now_floor a_t_now_sightings a_t_now_level a_t_now_loss a_t_now_lexicon a_t_now_lexicon_number a_t_now_lexicon_row a_t_now_lexicon_others a_t_now_lexicon_length a_t_now_lexicon_weight a_t_now_lexicon_leastLike a_t_now_lexicon_lipsOf a_t_chances a_t_chances_scaled a_t_chances_scaledBelow a_t_chances_heardAs a_t_chances_total a_t_chances_part a_t_chances_chance a_t_chances_before a_t_chances_below a_t_chances_below_limb a_t_fraction a_t_fraction_above a_t_fraction_above_limb a_t_fraction_below a_t_fraction_below_limb r_t_chances_heardAs r_t_chances_chance r_t_chances_chance_limb r_t_chances_before r_t_chances_before_limb t_now_clearness t_now_isKept t_now_lexicon_words t_now_lexicon_rowLips t_now_lexicon_girlKnows t_now_lexicon_length t_now_lexicon_weight t_now_lexicon_leastLike t_now_lexicon_lipsOf t_chances_words'_2 t_chances_heardAs'_2 t_chances_total'_2 t_chances_part'_2 t_chances_chance_limb'_6 t_chances_chance_limbs'_6 t_chances_before_limb'_4 t_chances_before_limbs'_4 t_chances_below_limbs'_7 t_chances_below_limb'_7 t_fraction_above_limbs t_fraction_above_limb t_fraction_below_limbs t_fraction_below_limb)) (by rfl) (by rfl) (m_putA (ws1 := (wd_S_arrives E a_t a_t_draft a_t_firstImage a_t_secondImage a_t_news a_t_otherNews a_t_readings a_t_turning a_t_text a_t_now a_t_now_floor a_t_now_sightings a_t_now_level a_t_now_loss a_t_now_lexicon a_t_now_lexicon_number a_t_now_lexicon_row a_t_now_lexicon_others a_t_now_lexicon_length a_t_now_lexicon_weight a_t_now_lexicon_leastLike a_t_now_lexicon_lipsOf a_t_chances a_t_chances_scaled a_t_chances_scaledBelow a_t_chances_heardAs a_t_chances_total a_t_chances_part a_t_chances_chance a_t_chances_before a_t_chances_below a_t_chances_below_limb a_t_fraction a_t_fraction_above a_t_fraction_above_limb a_t_fraction_below a_t_fraction_below_limb r_t_chances_heardAs r_t_chances_chance r_t_chances_chance_limb r_t_chances_before r_t_chances_before_limb t_now_clearness t_now_isKept t_now_lexicon_words t_now_lexicon_rowLips t_now_lexicon_girlKnows t_now_lexicon_length t_now_lexicon_weight t_now_lexicon_leastLike t_now_lexicon_lipsOf t_chances_words'_2 t_chances_heardAs'_2 t_chances_total'_2 t_chances_part'_2 t_chances_chance_limb'_6 t_chances_chance_limbs'_6 t_chances_before_limb'_4 t_chances_before_limbs'_4 t_chances_below_limbs'_7 t_chances_below_limb'_7 t_fraction_above_limbs t_fraction_above_limb t_fraction_below_limbs t_fraction_below_limb)) (by simp [m_fam]) (m_putF (b := 20) rfl (by rfl) rfl) (m_putA (ws1 := (wd_S_arrives E a_t a_t_draft a_t_firstImage a_t_secondImage a_t_news a_t_otherNews a_t_readings a_t_turning a_t_text a_t_now a_t_now_floor a_t_now_sightings a_t_now_level a_t_now_loss a_t_now_lexicon a_t_now_lexicon_number a_t_now_lexicon_row a_t_now_lexicon_others a_t_now_lexicon_length a_t_now_lexicon_weight a_t_now_lexicon_leastLike a_t_now_lexicon_lipsOf a_t_chances a_t_chances_scaled a_t_chances_scaledBelow a_t_chances_heardAs a_t_chances_total a_t_chances_part a_t_chances_chance a_t_chances_before a_t_chances_below a_t_chances_below_limb a_t_fraction a_t_fraction_above a_t_fraction_above_limb a_t_fraction_below a_t_fraction_below_limb r_t_chances_heardAs r_t_chances_chance r_t_chances_chance_limb r_t_chances_before r_t_chances_before_limb t_now_clearness t_now_isKept t_now_lexicon_words t_now_lexicon_rowLips t_now_lexicon_girlKnows t_now_lexicon_length t_now_lexicon_weight t_now_lexicon_leastLike t_now_lexicon_lipsOf t_chances_words'_2 t_chances_heardAs'_2 t_chances_total'_2 t_chances_part'_2 t_chances_chance_limb'_6 t_chances_chance_limbs'_7 t_chances_before_limb'_4 t_chances_before_limbs'_4 t_chances_below_limbs'_7 t_chances_below_limb'_7 t_fraction_above_limbs t_fraction_above_limb t_fraction_below_limbs t_fraction_below_limb)) (by simp [m_fam]) (m_putF (b := 30) m_sp1 (by rfl) m_sp1) (m_putA (ws1 := (wd_S_arrives E a_t a_t_draft a_t_firstImage a_t_secondImage a_t_news a_t_otherNews a_t_readings a_t_turning a_t_text a_t_now a_t_now_floor a_t_now_sightings a_t_now_level a_t_now_loss a_t_now_lexicon a_t_now_lexicon_number a_t_now_lexicon_row a_t_now_lexicon_others a_t_now_lexicon_length a_t_now_lexicon_weight a_t_now_lexicon_leastLike a_t_now_lexicon_lipsOf a_t_chances a_t_chances_scaled a_t_chances_scaledBelow a_t_chances_heardAs a_t_chances_total a_t_chances_part a_t_chances_chance a_t_chances_before a_t_chances_below a_t_chances_below_limb a_t_fraction a_t_fraction_above a_t_fraction_above_limb a_t_fraction_below a_t_fraction_below_limb r_t_chances_heardAs r_t_chances_chance r_t_chances_chance_limb r_t_chances_before r_t_chances_before_limb t_now_clearness t_now_isKept t_now_lexicon_words t_now_lexicon_rowLips t_now_lexicon_girlKnows t_now_lexicon_length t_now_lexicon_weight t_now_lexicon_leastLike t_now_lexicon_lipsOf t_chances_words'_2 t_chances_heardAs'_2 t_chances_total'_2 t_chances_part'_2 t_chances_chance_limb'_7 t_chances_chance_limbs'_7 t_chances_before_limb'_4 t_chances_before_limbs'_4 t_chances_below_limbs'_7 t_chances_below_limb'_7 t_fraction_above_limbs t_fraction_above_limb t_fraction_below_limbs t_fraction_below_limb)) (by simp [m_fam]) (m_putF (b := 40) m_sp2 (by rfl) m_sp2) (m_putA (ws1 := (wd_S_arrives E a_t a_t_draft a_t_firstImage a_t_secondImage a_t_news a_t_otherNews a_t_readings a_t_turning a_t_text a_t_now a_t_now_floor a_t_now_sightings a_t_now_level a_t_now_loss a_t_now_lexicon a_t_now_lexicon_number a_t_now_lexicon_row a_t_now_lexicon_others a_t_now_lexicon_length a_t_now_lexicon_weight a_t_now_lexicon_leastLike a_t_now_lexicon_lipsOf a_t_chances a_t_chances_scaled a_t_chances_scaledBelow a_t_chances_heardAs a_t_chances_total a_t_chances_part a_t_chances_chance a_t_chances_before a_t_chances_below a_t_chances_below_limb a_t_fraction a_t_fraction_above a_t_fraction_above_limb a_t_fraction_below a_t_fraction_below_limb r_t_chances_heardAs r_t_chances_chance r_t_chances_chance_limb r_t_chances_before r_t_chances_before_limb t_now_clearness t_now_isKept t_now_lexicon_words t_now_lexicon_rowLips t_now_lexicon_girlKnows t_now_lexicon_length t_now_lexicon_weight t_now_lexicon_leastLike t_now_lexicon_lipsOf t_chances_words'_2 t_chances_heardAs'_2 t_chances_total'_2 t_chances_part'_2 t_chances_chance_limb'_7 t_chances_chance_limbs'_7 t_chances_before_limb'_4 t_chances_before_limbs'_5 t_chances_below_limbs'_7 t_chances_below_limb'_7 t_fraction_above_limbs t_fraction_above_limb t_fraction_below_limbs t_fraction_below_limb)) (by simp [m_fam]) (m_putF (b := 50) m_sp3 (by rfl) m_sp3) (m_putA (ws1 := (wd_S_arrives E a_t a_t_draft a_t_firstImage a_t_secondImage a_t_news a_t_otherNews a_t_readings a_t_turning a_t_text a_t_now a_t_now_floor a_t_now_sightings a_t_now_level a_t_now_loss a_t_now_lexicon a_t_now_lexicon_number a_t_now_lexicon_row a_t_now_lexicon_others a_t_now_lexicon_length a_t_now_lexicon_weight a_t_now_lexicon_leastLike a_t_now_lexicon_lipsOf a_t_chances a_t_chances_scaled a_t_chances_scaledBelow a_t_chances_heardAs a_t_chances_total a_t_chances_part a_t_chances_chance a_t_chances_before a_t_chances_below a_t_chances_below_limb a_t_fraction a_t_fraction_above a_t_fraction_above_limb a_t_fraction_below a_t_fraction_below_limb r_t_chances_heardAs r_t_chances_chance r_t_chances_chance_limb r_t_chances_before r_t_chances_before_limb t_now_clearness t_now_isKept t_now_lexicon_words t_now_lexicon_rowLips t_now_lexicon_girlKnows t_now_lexicon_length t_now_lexicon_weight t_now_lexicon_leastLike t_now_lexicon_lipsOf t_chances_words'_2 t_chances_heardAs'_2 t_chances_total'_2 t_chances_part'_2 t_chances_chance_limb'_7 t_chances_chance_limbs'_7 t_chances_before_limb'_5 t_chances_before_limbs'_5 t_chances_below_limbs'_7 t_chances_below_limb'_7 t_fraction_above_limbs t_fraction_above_limb t_fraction_below_limbs t_fraction_below_limb)) (by simp [m_fam]) (m_putF (b := 60) m_sp4 (by rfl) m_sp4) m_putn)))))) 7 rfl rfl rfl (As := []) (rest := []) rfl rfl ⟨rfl, rfl, Nat.le_of_ble_eq_true rfl, Nat.le_of_ble_eq_true rfl⟩ (Nat.le_of_ble_eq_true rfl) (Nat.zero_le _) (Nat.zero_le _) dX11_arrives_70 (fun H locs hW => ?_)
              clear hC10
              refine lv_iinc (v := (x5 + (1 : Int32))) (lv' := [(5, .int (x5 + (1 : Int32))), (0, .ref a_t), (2, .int p2), (3, .int p3)]) hx hb dX11_arrives_73 hl (k := 0) rfl rfl (by decide) rfl (fun ls hl => ?_)
              refine lv_goto (tgt := 60) hx hb dX11_arrives_76 (by decide) ?_
              exact ih8 (x5 + (1 : Int32)) t_chances_chance_limbs'_7 t_chances_chance_limb'_7 t_chances_before_limbs'_5 t_chances_before_limb'_5 t_chances_below_limb'_7 t_chances_below_limbs'_7 t_chances_chance_limbs'_8 t_chances_chance_limb'_8 t_chances_before_limbs'_6 t_chances_before_limb'_6 t_chances_below_limb'_8 t_chances_below_limbs'_8 _ _ _ hF hW (lv_sub hl [0, 1, 2, 3] rfl) hk7
        refine L5 N (0 : Int32) t_chances_chance_limbs'_5 t_chances_chance_limb'_5 t_chances_before_limbs t_chances_before_limb t_chances_below_limb'_5 t_chances_below_limbs'_5 t_chances_chance_limbs'_8 t_chances_chance_limb'_8 t_chances_before_limbs'_6 t_chances_before_limb'_6 t_chances_below_limb'_8 t_chances_below_limbs'_8 _ _ _ hX6 hW (lv_sub hl [0, 2, 4, 5] rfl) ?_
        intro H locs ls hW hl
        clear L5
        refine lv_aload_n hx hb dX11_arrives_79 rfl (lv_at hl 0 rfl) ?_
        refine m_get X hW fdX11_45 0 rfl rfl dX11_arrives_80 ?_
        refine lv_iload_n hx hb dX11_arrives_83 rfl (lv_at hl 1 rfl) ?_
        refine lv_aload_n hx hb dX11_arrives_84 rfl (lv_at hl 0 rfl) ?_
        refine m_get X hW fdX11_66 0 rfl rfl dX11_arrives_85 ?_
        obtain ⟨t_fraction_above_limbs'_2, t_fraction_above_limb'_2, t_fraction_below_limbs'_2, t_fraction_below_limb'_2, hC11, hF⟩ := bO_s4 hF
        refine m_callV X hW hA hl.1 lkX11_218 (c_Chances_tellAs l E _ N a_t_chances a_t_chances_heardAs a_t_chances_total a_t_chances_part a_t_chances_before a_t_chances_scaled a_t_chances_scaledBelow a_t_chances_chance a_t_chances_below a_t_chances_below_limb a_t_fraction a_t_fraction_above a_t_fraction_above_limb a_t_fraction_below a_t_fraction_below_limb r_t_chances_chance r_t_chances_chance_limb t_chances_words'_2 t_chances_chance_limb'_8 t_chances_chance_limbs'_8 t_chances_below_limbs'_8 t_chances_below_limb'_8 t_fraction_above_limbs t_fraction_above_limb t_fraction_below_limbs t_fraction_below_limb p2 (t_fraction_above_limbs'_2, t_fraction_above_limb'_2, t_fraction_below_limbs'_2, t_fraction_below_limb'_2) hC11) ([7, 11, 13, 14, 15, 16, 17, 18, 19] ++ ((List.range 10).map (fun i => 30 + i) ++ ((List.range 10).map (fun i => 40 + i) ++ []))) (by decide +kernel) (m_CA (by rfl) (m_CA (m_CF (b := 30) m_sp1 (by rfl)) (m_CA (m_CF (b := 40) m_sp2 (by rfl)) m_Cn))) (by simp [m_fam]) (ws' := (wd_S_arrives E a_t a_t_draft a_t_firstImage a_t_secondImage a_t_news a_t_otherNews a_t_readings a_t_turning a_t_text a_t_now a_t_now_floor a_t_now_sightings a_t_now_level a_t_now_loss a_t_now_lexicon a_t_now_lexicon_number a_t_now_lexicon_row a_t_now_lexicon_others a_t_now_lexicon_length a_t_now_lexicon_weight a_t_now_lexicon_leastLike a_t_now_lexicon_lipsOf a_t_chances a_t_chances_scaled a_t_chances_scaledBelow a_t_chances_heardAs a_t_chances_total a_t_chances_part a_t_chances_chance a_t_chances_before a_t_chances_below a_t_chances_below_limb a_t_fraction a_t_fraction_above a_t_fraction_above_limb a_t_fraction_below a_t_fraction_below_limb r_t_chances_heardAs r_t_chances_chance r_t_chances_chance_limb r_t_chances_before r_t_chances_before_limb t_now_clearness t_now_isKept t_now_lexicon_words t_now_lexicon_rowLips t_now_lexicon_girlKnows t_now_lexicon_length t_now_lexicon_weight t_now_lexicon_leastLike t_now_lexicon_lipsOf t_chances_words'_2 t_chances_heardAs'_2 t_chances_total'_2 t_chances_part'_2 t_chances_chance_limb'_8 t_chances_chance_limbs'_8 t_chances_before_limb'_6 t_chances_before_limbs'_6 t_chances_below_limbs'_8 t_chances_below_limb'_8 t_fraction_above_limbs'_2 t_fraction_above_limb'_2 t_fraction_below_limbs'_2 t_fraction_below_limb'_2)) (m_putA (ws1 := (wd_S_arrives E a_t a_t_draft a_t_firstImage a_t_secondImage a_t_news a_t_otherNews a_t_readings a_t_turning a_t_text a_t_now a_t_now_floor a_t_now_sightings a_t_now_level a_t_now_loss a_t_now_lexicon a_t_now_lexicon_number a_t_now_lexicon_row a_t_now_lexicon_others a_t_now_lexicon_length a_t_now_lexicon_weight a_t_now_lexicon_leastLike a_t_now_lexicon_lipsOf a_t_chances a_t_chances_scaled a_t_chances_scaledBelow a_t_chances_heardAs a_t_chances_total a_t_chances_part a_t_chances_chance a_t_chances_before a_t_chances_below a_t_chances_below_limb a_t_fraction a_t_fraction_above a_t_fraction_above_limb a_t_fraction_below a_t_fraction_below_limb r_t_chances_heardAs r_t_chances_chance r_t_chances_chance_limb r_t_chances_before r_t_chances_before_limb t_now_clearness t_now_isKept t_now_lexicon_words t_now_lexicon_rowLips t_now_lexicon_girlKnows t_now_lexicon_length t_now_lexicon_weight t_now_lexicon_leastLike t_now_lexicon_lipsOf t_chances_words'_2 t_chances_heardAs'_2 t_chances_total'_2 t_chances_part'_2 t_chances_chance_limb'_8 t_chances_chance_limbs'_8 t_chances_before_limb'_6 t_chances_before_limbs'_6 t_chances_below_limbs'_8 t_chances_below_limb'_8 t_fraction_above_limbs'_2 t_fraction_above_limb'_2 t_fraction_below_limbs'_2 t_fraction_below_limb'_2)) (by rfl) (m_putXS 20 (by rfl) (by decide) [none, none, none, none, none, none, none, some 0, none, none, none, some 1, none, some 2, some 3, some 4, some 5, some 6, some 7, some 8] (by decide +kernel) (by rfl) (by decide +kernel) (by rfl) (by rfl)) (m_putA (ws1 := (wd_S_arrives E a_t a_t_draft a_t_firstImage a_t_secondImage a_t_news a_t_otherNews a_t_readings a_t_turning a_t_text a_t_now a_t_now_floor a_t_now_sightings a_t_now_level a_t_now_loss a_t_now_lexicon a_t_now_lexicon_number a_t_now_lexicon_row a_t_now_lexicon_others a_t_now_lexicon_length a_t_now_lexicon_weight a_t_now_lexicon_leastLike a_t_now_lexicon_lipsOf a_t_chances a_t_chances_scaled a_t_chances_scaledBelow a_t_chances_heardAs a_t_chances_total a_t_chances_part a_t_chances_chance a_t_chances_before a_t_chances_below a_t_chances_below_limb a_t_fraction a_t_fraction_above a_t_fraction_above_limb a_t_fraction_below a_t_fraction_below_limb r_t_chances_heardAs r_t_chances_chance r_t_chances_chance_limb r_t_chances_before r_t_chances_before_limb t_now_clearness t_now_isKept t_now_lexicon_words t_now_lexicon_rowLips t_now_lexicon_girlKnows t_now_lexicon_length t_now_lexicon_weight t_now_lexicon_leastLike t_now_lexicon_lipsOf t_chances_words'_2 t_chances_heardAs'_2 t_chances_total'_2 t_chances_part'_2 t_chances_chance_limb'_8 t_chances_chance_limbs'_8 t_chances_before_limb'_6 t_chances_before_limbs'_6 t_chances_below_limbs'_8 t_chances_below_limb'_8 t_fraction_above_limbs'_2 t_fraction_above_limb'_2 t_fraction_below_limbs'_2 t_fraction_below_limb'_2)) (by simp [m_fam]) (m_putF (b := 30) m_sp1 (by rfl) m_sp1) (m_putA (ws1 := (wd_S_arrives E a_t a_t_draft a_t_firstImage a_t_secondImage a_t_news a_t_otherNews a_t_readings a_t_turning a_t_text a_t_now a_t_now_floor a_t_now_sightings a_t_now_level a_t_now_loss a_t_now_lexicon a_t_now_lexicon_number a_t_now_lexicon_row a_t_now_lexicon_others a_t_now_lexicon_length a_t_now_lexicon_weight a_t_now_lexicon_leastLike a_t_now_lexicon_lipsOf a_t_chances a_t_chances_scaled a_t_chances_scaledBelow a_t_chances_heardAs a_t_chances_total a_t_chances_part a_t_chances_chance a_t_chances_before a_t_chances_below a_t_chances_below_limb a_t_fraction a_t_fraction_above a_t_fraction_above_limb a_t_fraction_below a_t_fraction_below_limb r_t_chances_heardAs r_t_chances_chance r_t_chances_chance_limb r_t_chances_before r_t_chances_before_limb t_now_clearness t_now_isKept t_now_lexicon_words t_now_lexicon_rowLips t_now_lexicon_girlKnows t_now_lexicon_length t_now_lexicon_weight t_now_lexicon_leastLike t_now_lexicon_lipsOf t_chances_words'_2 t_chances_heardAs'_2 t_chances_total'_2 t_chances_part'_2 t_chances_chance_limb'_8 t_chances_chance_limbs'_8 t_chances_before_limb'_6 t_chances_before_limbs'_6 t_chances_below_limbs'_8 t_chances_below_limb'_8 t_fraction_above_limbs'_2 t_fraction_above_limb'_2 t_fraction_below_limbs'_2 t_fraction_below_limb'_2)) (by simp [m_fam]) (m_putF (b := 40) m_sp2 (by rfl) m_sp2) m_putn))) 7 rfl rfl rfl (As := [.int p2, .ref a_t_fraction]) (rest := []) rfl rfl ⟨rfl, rfl, Nat.le_of_ble_eq_true rfl, Nat.le_of_ble_eq_true rfl⟩ (Nat.le_of_ble_eq_true rfl) (Nat.zero_le _) (Nat.zero_le _) dX11_arrives_88 (fun H locs hW => ?_)
        clear hC11
        refine lv_iconst (v := (1 : Int32)) hx hb dX11_arrives_91 (by decide) ?_
        have hq := Option.some.inj hF
        subst hq
        exact hret _ _ _ _ hW dX11_arrives_92
      · have hF := if_y c3 hF
        refine lv_bipush (v := (-2 : Int32)) hx hb dX11_arrives_37 (by decide) ?_
        have hq := Option.some.inj hF
        subst hq
        exact hret _ _ _ _ hW dX11_arrives_39
abbrev wd_Natural_isLessThan (E : m_E) (a_t : Nat) (a_t_limb : Nat) (a_p1 : Nat) (a_p1_limb : Nat) (t_limbs : Int32) (t_limb : Nat → Int32) (p1_limbs : Int32) (p1_limb : Nat → Int32) : va_W := [(a_t, .inr (4, [.ref a_t_limb, .int t_limbs])), (a_t_limb, .inl (E.2.1 0, 40, .inl t_limb)), (a_p1, .inr (4, [.ref a_p1_limb, .int p1_limbs])), (a_p1_limb, .inl (E.2.1 0, 40, .inl p1_limb))]
def rm_Natural_isLessThan : Room := { frames := 0, cells := 0, slots := 0, locals := 0 }
set_option maxHeartbeats 4000000 in
set_option maxRecDepth 100000 in
theorem c_Natural_isLessThan (l : Launch) (E : m_E) (sz N : Nat) (a_t : Nat) (a_t_limb : Nat) (a_p1 : Nat) (a_p1_limb : Nat) (t_limbs : Int32) (t_limb : Nat → Int32) (p1_limbs : Int32) (p1_limb : Nat → Int32)  (ures : Int32) (hF : F_Natural_isLessThan N t_limbs t_limb p1_limbs p1_limb = some ures) : m_Met l yX4_isLessThan cX4_isLessThan 3 (some .boolean) rm_Natural_isLessThan E (wd_Natural_isLessThan E a_t a_t_limb a_p1 a_p1_limb t_limbs t_limb p1_limbs p1_limb) (wd_Natural_isLessThan E a_t a_t_limb a_p1 a_p1_limb t_limbs t_limb p1_limbs p1_limb) sz [.ref a_t, .ref a_p1] (some (.int ures)) := by
  refine m_ofZ (by decide) (Nat.le_of_ble_eq_true rfl) ?_
  intro p e s m args below meth c A Q ls X hW hA hl hret
  obtain ⟨hx, hb, -, hown, hts, hK, -, hG⟩ := id X
  have hl : lv_has ls 3 [(0, .ref a_t), (1, .ref a_p1)] := hl
  unfold F_Natural_isLessThan at hF
  refine lv_aload_n hx hb dX4_isLessThan_0 rfl (lv_at hl 0 rfl) ?_
  refine m_get X hW fdX4_15 0 rfl rfl dX4_isLessThan_1 ?_
  refine lv_aload_n hx hb dX4_isLessThan_4 rfl (lv_at hl 1 rfl) ?_
  refine m_get X hW fdX4_15 2 rfl rfl dX4_isLessThan_5 ?_
  refine lv_icmp_eq (tgt := 28) hx hb dX4_isLessThan_8 (by decide) (fun c1 => ?_) (fun c1 => ?_)
  · have hF := if_y c1 hF
    refine lv_aload_n hx hb dX4_isLessThan_28 rfl (lv_at hl 0 rfl) ?_
    refine m_get X hW fdX4_15 0 rfl rfl dX4_isLessThan_29 ?_
    refine lv_iconst (v := (1 : Int32)) hx hb dX4_isLessThan_32 (by decide) ?_
    refine lv_isub hx hb dX4_isLessThan_33 ?_
    refine lv_istore_n (lv' := [(2, .int (t_limbs - (1 : Int32))), (0, .ref a_t), (1, .ref a_p1)]) hx hb dX4_isLessThan_34 rfl hl (by decide) rfl (fun ls hl => ?_)
    obtain ⟨out7, hX3, hr6, hF⟩ := bT_s0 hF
    have L2 : ∀ (k0 : Nat) (x2 : Int32) (out9 : (Int32) ⊕ Unit)  (H : Heap) (locs : List Loc) (ls : Array Slot), Natural_isLessThan_L35 t_limb p1_limb k0 x2 = some out9 → m_H E A (wd_Natural_isLessThan E a_t a_t_limb a_p1 a_p1_limb t_limbs t_limb p1_limbs p1_limb) s.heap H locs → lv_has ls 3 [(2, .int x2), (0, .ref a_t), (1, .ref a_p1)] → (∀ a, out9 = .inl a → a = ures) → (∀  (H : Heap) (locs : List Loc) (ls : Array Slot), out9 = .inr () → m_H E A (wd_Natural_isLessThan E a_t a_t_limb a_p1 a_p1_limb t_limbs t_limb p1_limbs p1_limb) s.heap H locs → lv_has ls 3 [] → W p l e rm_Natural_isLessThan s m args below meth c H locs 0 0 Q (F0 m 81 ls [])) → W p l e rm_Natural_isLessThan s m args below meth c H locs 0 0 Q (F0 m 35 ls []) := by
      clear hF
      intro k0
      induction k0 with
      | zero =>
        intro x2 out9 H locs ls hF
        cases hF
      | succ k0 ih5 =>
        intro x2 out9 H locs ls hF hW hl hr8 hk4
        rw [Natural_isLessThan_L35] at hF
        refine lv_iload_n hx hb dX4_isLessThan_35 rfl (lv_at hl 0 rfl) ?_
        refine lv_if_lt (tgt := 81) hx hb dX4_isLessThan_36 (by decide) (fun c10 => ?_) (fun c10 => ?_)
        · have hF := if_y c10 hF
          exact hk4  _ _ _ (Option.some.inj hF).symm hW (lv_sub hl [] rfl)
        · have hF := if_n c10 hF
          refine lv_aload_n hx hb dX4_isLessThan_39 rfl (lv_at hl 1 rfl) ?_
          refine m_get X hW fdX4_11 0 rfl rfl dX4_isLessThan_40 ?_
          refine lv_iload_n hx hb dX4_isLessThan_43 rfl (lv_at hl 0 rfl) ?_
          obtain ⟨g11, hF⟩ := gd_some hF
          refine m_iald X hW 1 (k := x2.toNatClampNeg) rfl g11 rfl dX4_isLessThan_44 ?_
          refine lv_aload_n hx hb dX4_isLessThan_45 rfl (lv_at hl 2 rfl) ?_
          refine m_get X hW fdX4_11 2 rfl rfl dX4_isLessThan_46 ?_
          refine lv_iload_n hx hb dX4_isLessThan_49 rfl (lv_at hl 0 rfl) ?_
          refine m_iald X hW 3 (k := x2.toNatClampNeg) rfl g11 rfl dX4_isLessThan_50 ?_
          refine lv_icmp_eq (tgt := 75) hx hb dX4_isLessThan_51 (by decide) (fun c12 => ?_) (fun c12 => ?_)
          · have hF := if_y c12 hF
            refine lv_iinc (v := (x2 + (-1 : Int32))) (lv' := [(2, .int (x2 + (-1 : Int32))), (0, .ref a_t), (1, .ref a_p1)]) hx hb dX4_isLessThan_75 hl (k := 0) rfl rfl (by decide) rfl (fun ls hl => ?_)
            refine lv_goto (tgt := 35) hx hb dX4_isLessThan_78 (by decide) ?_
            exact ih5 (x2 + (-1 : Int32)) out9 _ _ _ hF hW (lv_sub hl [0, 1, 2] rfl) hr8 hk4
          · have hF := if_n c12 hF
            refine lv_aload_n hx hb dX4_isLessThan_54 rfl (lv_at hl 1 rfl) ?_
            refine m_get X hW fdX4_11 0 rfl rfl dX4_isLessThan_55 ?_
            refine lv_iload_n hx hb dX4_isLessThan_58 rfl (lv_at hl 0 rfl) ?_
            refine m_iald X hW 1 (k := x2.toNatClampNeg) rfl g11 rfl dX4_isLessThan_59 ?_
            refine lv_aload_n hx hb dX4_isLessThan_60 rfl (lv_at hl 2 rfl) ?_
            refine m_get X hW fdX4_11 2 rfl rfl dX4_isLessThan_61 ?_
            refine lv_iload_n hx hb dX4_isLessThan_64 rfl (lv_at hl 0 rfl) ?_
            refine m_iald X hW 3 (k := x2.toNatClampNeg) rfl g11 rfl dX4_isLessThan_65 ?_
            refine lv_icmp_ge (tgt := 73) hx hb dX4_isLessThan_66 (by decide) (fun c13 => ?_) (fun c13 => ?_)
            · have hF := if_y c13 hF
              refine lv_iconst (v := (0 : Int32)) hx hb dX4_isLessThan_73 (by decide) ?_
              have hq := (Option.some.inj hF).symm
              have hq := hr8 _ hq
              subst hq
              exact hret _ _ _ _ _ rfl hW dX4_isLessThan_74
            · have hF := if_n c13 hF
              refine lv_iconst (v := (1 : Int32)) hx hb dX4_isLessThan_69 (by decide) ?_
              refine lv_goto (tgt := 74) hx hb dX4_isLessThan_70 (by decide) ?_
              have hq := (Option.some.inj hF).symm
              have hq := hr8 _ hq
              subst hq
              exact hret _ _ _ _ _ rfl hW dX4_isLessThan_74
    refine L2 N (t_limbs - (1 : Int32)) out7 _ _ _ hX3 hW (lv_sub hl [0, 1, 2] rfl) hr6 ?_
    intro  H locs ls ho hW hl
    have hF := hF  ho
    clear L2
    refine lv_iconst (v := (0 : Int32)) hx hb dX4_isLessThan_81 (by decide) ?_
    have hq := Option.some.inj hF
    subst hq
    exact hret _ _ _ _ _ rfl hW dX4_isLessThan_82
  · have hF := if_n c1 hF
    refine lv_aload_n hx hb dX4_isLessThan_11 rfl (lv_at hl 0 rfl) ?_
    refine m_get X hW fdX4_15 0 rfl rfl dX4_isLessThan_12 ?_
    refine lv_aload_n hx hb dX4_isLessThan_15 rfl (lv_at hl 1 rfl) ?_
    refine m_get X hW fdX4_15 2 rfl rfl dX4_isLessThan_16 ?_
    refine lv_icmp_ge (tgt := 26) hx hb dX4_isLessThan_19 (by decide) (fun c14 => ?_) (fun c14 => ?_)
    · have hF := if_y c14 hF
      refine lv_iconst (v := (0 : Int32)) hx hb dX4_isLessThan_26 (by decide) ?_
      have hq := Option.some.inj hF
      subst hq
      exact hret _ _ _ _ _ rfl hW dX4_isLessThan_27
    · have hF := if_n c14 hF
      refine lv_iconst (v := (1 : Int32)) hx hb dX4_isLessThan_22 (by decide) ?_
      refine lv_goto (tgt := 27) hx hb dX4_isLessThan_23 (by decide) ?_
      have hq := Option.some.inj hF
      subst hq
      exact hret _ _ _ _ _ rfl hW dX4_isLessThan_27
abbrev wd_Chances_isBelow (E : m_E) (a_t : Nat) (a_t_heardAs : Nat) (a_t_total : Nat) (a_t_part : Nat) (a_t_before : Nat) (a_t_chance : Nat) (a_t_below : Nat) (a_t_below_limb : Nat) (a_t_scaled : Nat) (a_t_scaled_limb : Nat) (a_t_scaledBelow : Nat) (a_t_scaledBelow_limb : Nat) (r_t_chance : Nat → Nat) (r_t_chance_limb : Nat → Nat) (t_words : Int32) (t_chance_limb : Nat → Nat → Int32) (t_chance_limbs : Nat → Int32) (t_below_limbs : Int32) (t_below_limb : Nat → Int32) (t_scaled_limbs : Int32) (t_scaled_limb : Nat → Int32) (t_scaledBelow_limbs : Int32) (t_scaledBelow_limb : Nat → Int32) : va_W := [(a_t, .inr (0, [.ref a_t_heardAs, .ref a_t_total, .ref a_t_part, .ref a_t_chance, .ref a_t_before, .ref a_t_below, .ref a_t_scaled, .ref a_t_scaledBelow, .int t_words])), (a_t_chance, .inl (E.2.1 2, 10, .inr (.inr (.inr (.inr (fun i => some (r_t_chance i))))))), (a_t_below, .inr (4, [.ref a_t_below_limb, .int t_below_limbs])), (a_t_below_limb, .inl (E.2.1 0, 40, .inl t_below_limb)), (a_t_scaled, .inr (4, [.ref a_t_scaled_limb, .int t_scaled_limbs])), (a_t_scaled_limb, .inl (E.2.1 0, 40, .inl t_scaled_limb)), (a_t_scaledBelow, .inr (4, [.ref a_t_scaledBelow_limb, .int t_scaledBelow_limbs])), (a_t_scaledBelow_limb, .inl (E.2.1 0, 40, .inl t_scaledBelow_limb))] ++ (m_fam 10 (fun i => (r_t_chance i, .inr (4, [.ref (r_t_chance_limb i), .int (t_chance_limbs i)]))) ++ (m_fam 10 (fun i => (r_t_chance_limb i, .inl (E.2.1 0, 40, .inl (t_chance_limb i)))) ++ []))
def rm_Chances_isBelow : Room := { frames := 2, cells := 0, slots := 0, locals := 48 }
set_option maxHeartbeats 4000000 in
set_option maxRecDepth 100000 in
theorem c_Chances_isBelow (l : Launch) (E : m_E) (sz N : Nat) (a_t : Nat) (a_t_heardAs : Nat) (a_t_total : Nat) (a_t_part : Nat) (a_t_before : Nat) (a_t_chance : Nat) (a_t_below : Nat) (a_t_below_limb : Nat) (a_t_scaled : Nat) (a_t_scaled_limb : Nat) (a_t_scaledBelow : Nat) (a_t_scaledBelow_limb : Nat) (r_t_chance : Nat → Nat) (r_t_chance_limb : Nat → Nat) (t_words : Int32) (t_chance_limb : Nat → Nat → Int32) (t_chance_limbs : Nat → Int32) (t_below_limbs : Int32) (t_below_limb : Nat → Int32) (t_scaled_limbs : Int32) (t_scaled_limb : Nat → Int32) (t_scaledBelow_limbs : Int32) (t_scaledBelow_limb : Nat → Int32) (p1 : Int32) (p2 : Int32) (p3 : Int32) (ures : Int32 × Int32 × (Nat → Int32) × Int32 × (Nat → Int32)) (hF : F_Chances_isBelow N p1 p2 p3 t_chance_limb t_chance_limbs t_below_limbs t_below_limb t_scaled_limb t_scaledBelow_limb = some ures) : m_Met l yX0_isBelow cX0_isBelow 4 (some .boolean) rm_Chances_isBelow E (wd_Chances_isBelow E a_t a_t_heardAs a_t_total a_t_part a_t_before a_t_chance a_t_below a_t_below_limb a_t_scaled a_t_scaled_limb a_t_scaledBelow a_t_scaledBelow_limb r_t_chance r_t_chance_limb t_words t_chance_limb t_chance_limbs t_below_limbs t_below_limb t_scaled_limbs t_scaled_limb t_scaledBelow_limbs t_scaledBelow_limb) (wd_Chances_isBelow E a_t a_t_heardAs a_t_total a_t_part a_t_before a_t_chance a_t_below a_t_below_limb a_t_scaled a_t_scaled_limb a_t_scaledBelow a_t_scaledBelow_limb r_t_chance r_t_chance_limb t_words t_chance_limb t_chance_limbs t_below_limbs t_below_limb ures.2.1 ures.2.2.1 ures.2.2.2.1 ures.2.2.2.2) sz [.ref a_t, .int p1, .int p2, .int p3] (some (.int ures.1)) := by
  refine m_ofZ (by decide) (Nat.le_of_ble_eq_true rfl) ?_
  intro p e s m args below meth c A Q ls X hW hA hl hret
  obtain ⟨hx, hb, -, hown, hts, hK, -, hG⟩ := id X
  have hl : lv_has ls 4 [(0, .ref a_t), (1, .int p1), (2, .int p2), (3, .int p3)] := hl
  unfold F_Chances_isBelow at hF
  refine lv_aload_n hx hb dX0_isBelow_0 rfl (lv_at hl 0 rfl) ?_
  refine m_get X hW fdX0_37 0 rfl rfl dX0_isBelow_1 ?_
  refine lv_aload_n hx hb dX0_isBelow_4 rfl (lv_at hl 0 rfl) ?_
  refine m_get X hW fdX0_25 0 rfl rfl dX0_isBelow_5 ?_
  refine lv_iload_n hx hb dX0_isBelow_8 rfl (lv_at hl 1 rfl) ?_
  obtain ⟨g1, hF⟩ := gd_some hF
  refine m_aald X hW 1 (k := p1.toNatClampNeg) rfl g1 rfl dX0_isBelow_9 ?_
  obtain ⟨t_scaled_limbs'_3, t_scaled_limb'_3, hC2, hF⟩ := bO_s2 hF
  refine m_callV X hW hA hl.1 lkX0_74 (c_Natural_copyFrom l E _ N a_t_scaled a_t_scaled_limb (r_t_chance (p1.toNatClampNeg)) (r_t_chance_limb (p1.toNatClampNeg)) t_scaled_limbs t_scaled_limb (t_chance_limbs p1.toNatClampNeg) (t_chance_limb p1.toNatClampNeg)  (t_scaled_limbs'_3, t_scaled_limb'_3) hC2) ([4, 5, (8 + (p1.toNatClampNeg)), (18 + (p1.toNatClampNeg))]) (m_nd (by have := (ixb_lt g1); simp only [va_nd, List.mem_cons, List.not_mem_nil, or_false, not_or, decide_eq_true_eq, Bool.and_eq_true, not_false_eq_true, and_true, true_and]; omega)) (m_Cc rfl (m_Cc rfl (m_Cc (m_fg (b := 8) rfl (by rfl) (ixb_lt g1)) (m_Cc (m_fg (b := 18) m_sp1 (by rfl) (ixb_lt g1)) m_Cn)))) rfl (ws' := (wd_Chances_isBelow E a_t a_t_heardAs a_t_total a_t_part a_t_before a_t_chance a_t_below a_t_below_limb a_t_scaled a_t_scaled_limb a_t_scaledBelow a_t_scaledBelow_limb r_t_chance r_t_chance_limb t_words t_chance_limb t_chance_limbs t_below_limbs t_below_limb t_scaled_limbs'_3 t_scaled_limb'_3 t_scaledBelow_limbs t_scaledBelow_limb)) (m_putc (ws1 := (wd_Chances_isBelow E a_t a_t_heardAs a_t_total a_t_part a_t_before a_t_chance a_t_below a_t_below_limb a_t_scaled a_t_scaled_limb a_t_scaledBelow a_t_scaledBelow_limb r_t_chance r_t_chance_limb t_words t_chance_limb t_chance_limbs t_below_limbs t_below_limb t_scaled_limbs'_3 t_scaled_limb t_scaledBelow_limbs t_scaledBelow_limb)) rfl (m_putc (ws1 := (wd_Chances_isBelow E a_t a_t_heardAs a_t_total a_t_part a_t_before a_t_chance a_t_below a_t_below_limb a_t_scaled a_t_scaled_limb a_t_scaledBelow a_t_scaledBelow_limb r_t_chance r_t_chance_limb t_words t_chance_limb t_chance_limbs t_below_limbs t_below_limb t_scaled_limbs'_3 t_scaled_limb'_3 t_scaledBelow_limbs t_scaledBelow_limb)) rfl (m_putc (ws1 := (wd_Chances_isBelow E a_t a_t_heardAs a_t_total a_t_part a_t_before a_t_chance a_t_below a_t_below_limb a_t_scaled a_t_scaled_limb a_t_scaledBelow a_t_scaledBelow_limb r_t_chance r_t_chance_limb t_words t_chance_limb t_chance_limbs t_below_limbs t_below_limb t_scaled_limbs'_3 t_scaled_limb'_3 t_scaledBelow_limbs t_scaledBelow_limb)) (m_fset (b := 8) rfl (by rfl) (ixb_lt g1) rfl (by intro i _; by_cases h : i = (p1.toNatClampNeg) <;> simp [va_up, h])) (m_putc (ws1 := (wd_Chances_isBelow E a_t a_t_heardAs a_t_total a_t_part a_t_before a_t_chance a_t_below a_t_below_limb a_t_scaled a_t_scaled_limb a_t_scaledBelow a_t_scaledBelow_limb r_t_chance r_t_chance_limb t_words t_chance_limb t_chance_limbs t_below_limbs t_below_limb t_scaled_limbs'_3 t_scaled_limb'_3 t_scaledBelow_limbs t_scaledBelow_limb)) (m_fset (b := 18) m_sp1 (by rfl) (ixb_lt g1) m_sp1 (by intro i _; by_cases h : i = (p1.toNatClampNeg) <;> simp [va_up, h])) m_putn)))) 4 rfl rfl rfl (As := [.ref (r_t_chance (p1.toNatClampNeg))]) (rest := []) rfl rfl ⟨rfl, rfl, Nat.le_of_ble_eq_true rfl, Nat.le_of_ble_eq_true rfl⟩ (Nat.le_of_ble_eq_true rfl) (Nat.zero_le _) (Nat.zero_le _) dX0_isBelow_10 (fun H locs hW => ?_)
  clear hC2
  refine lv_aload_n hx hb dX0_isBelow_13 rfl (lv_at hl 0 rfl) ?_
  refine m_get X hW fdX0_37 0 rfl rfl dX0_isBelow_14 ?_
  refine lv_iload_n hx hb dX0_isBelow_17 rfl (lv_at hl 3 rfl) ?_
  obtain ⟨t_scaled_limbs'_4, t_scaled_limb'_4, hC3, hF⟩ := bO_s2 hF
  refine m_callV X hW hA hl.1 lkX0_94 (c_Natural_multiply l E _ N a_t_scaled a_t_scaled_limb t_scaled_limbs'_3 t_scaled_limb'_3 p3 (t_scaled_limbs'_4, t_scaled_limb'_4) hC3) ([4, 5]) (by decide) rfl rfl (ws' := (wd_Chances_isBelow E a_t a_t_heardAs a_t_total a_t_part a_t_before a_t_chance a_t_below a_t_below_limb a_t_scaled a_t_scaled_limb a_t_scaledBelow a_t_scaledBelow_limb r_t_chance r_t_chance_limb t_words t_chance_limb t_chance_limbs t_below_limbs t_below_limb t_scaled_limbs'_4 t_scaled_limb'_4 t_scaledBelow_limbs t_scaledBelow_limb)) rfl 4 rfl rfl rfl (As := [.int p3]) (rest := []) rfl rfl ⟨rfl, rfl, Nat.le_of_ble_eq_true rfl, Nat.le_of_ble_eq_true rfl⟩ (Nat.le_of_ble_eq_true rfl) (Nat.zero_le _) (Nat.zero_le _) dX0_isBelow_18 (fun H locs hW => ?_)
  clear hC3
  refine lv_aload_n hx hb dX0_isBelow_21 rfl (lv_at hl 0 rfl) ?_
  refine m_get X hW fdX0_40 0 rfl rfl dX0_isBelow_22 ?_
  refine lv_iconst (v := (0 : Int32)) hx hb dX0_isBelow_25 (by decide) ?_
  obtain ⟨t_scaledBelow_limbs'_3, t_scaledBelow_limb'_3, hC4, hF⟩ := bO_s2 hF
  refine m_callV X hW hA hl.1 lkX0_64 (c_Natural_put l E _ N a_t_scaledBelow a_t_scaledBelow_limb t_scaledBelow_limbs t_scaledBelow_limb (0 : Int32) (t_scaledBelow_limbs'_3, t_scaledBelow_limb'_3) hC4) ([6, 7]) (by decide) rfl rfl (ws' := (wd_Chances_isBelow E a_t a_t_heardAs a_t_total a_t_part a_t_before a_t_chance a_t_below a_t_below_limb a_t_scaled a_t_scaled_limb a_t_scaledBelow a_t_scaledBelow_limb r_t_chance r_t_chance_limb t_words t_chance_limb t_chance_limbs t_below_limbs t_below_limb t_scaled_limbs'_4 t_scaled_limb'_4 t_scaledBelow_limbs'_3 t_scaledBelow_limb'_3)) rfl 6 rfl rfl rfl (As := [.int (0 : Int32)]) (rest := []) rfl rfl ⟨rfl, rfl, Nat.le_of_ble_eq_true rfl, Nat.le_of_ble_eq_true rfl⟩ (Nat.le_of_ble_eq_true rfl) (Nat.zero_le _) (Nat.zero_le _) dX0_isBelow_26 (fun H locs hW => ?_)
  clear hC4
  refine lv_aload_n hx hb dX0_isBelow_29 rfl (lv_at hl 0 rfl) ?_
  refine m_get X hW fdX0_40 0 rfl rfl dX0_isBelow_30 ?_
  refine lv_aload_n hx hb dX0_isBelow_33 rfl (lv_at hl 0 rfl) ?_
  refine m_get X hW fdX0_33 0 rfl rfl dX0_isBelow_34 ?_
  refine lv_iload_n hx hb dX0_isBelow_37 rfl (lv_at hl 2 rfl) ?_
  obtain ⟨t_scaledBelow_limbs'_4, t_scaledBelow_limb'_4, hC5, hF⟩ := bO_s2 hF
  refine m_callV X hW hA hl.1 lkX0_90 (c_Natural_addTimes l E _ N a_t_scaledBelow a_t_scaledBelow_limb a_t_below a_t_below_limb t_scaledBelow_limbs'_3 t_scaledBelow_limb'_3 t_below_limbs t_below_limb p2 (t_scaledBelow_limbs'_4, t_scaledBelow_limb'_4) hC5) ([6, 7, 2, 3]) (by decide) rfl rfl (ws' := (wd_Chances_isBelow E a_t a_t_heardAs a_t_total a_t_part a_t_before a_t_chance a_t_below a_t_below_limb a_t_scaled a_t_scaled_limb a_t_scaledBelow a_t_scaledBelow_limb r_t_chance r_t_chance_limb t_words t_chance_limb t_chance_limbs t_below_limbs t_below_limb t_scaled_limbs'_4 t_scaled_limb'_4 t_scaledBelow_limbs'_4 t_scaledBelow_limb'_4)) rfl 6 rfl rfl rfl (As := [.ref a_t_below, .int p2]) (rest := []) rfl rfl ⟨rfl, rfl, Nat.le_of_ble_eq_true rfl, Nat.le_of_ble_eq_true rfl⟩ (Nat.le_of_ble_eq_true rfl) (Nat.zero_le _) (Nat.zero_le _) dX0_isBelow_38 (fun H locs hW => ?_)
  clear hC5
  refine lv_aload_n hx hb dX0_isBelow_41 rfl (lv_at hl 0 rfl) ?_
  refine m_get X hW fdX0_37 0 rfl rfl dX0_isBelow_42 ?_
  refine lv_aload_n hx hb dX0_isBelow_45 rfl (lv_at hl 0 rfl) ?_
  refine m_get X hW fdX0_40 0 rfl rfl dX0_isBelow_46 ?_
  obtain ⟨r49, hC6, hF⟩ := bO_s1 hF
  refine m_callV X hW hA hl.1 lkX0_97 (c_Natural_isLessThan l E _ N a_t_scaled a_t_scaled_limb a_t_scaledBelow a_t_scaledBelow_limb t_scaled_limbs'_4 t_scaled_limb'_4 t_scaledBelow_limbs'_4 t_scaledBelow_limb'_4  r49 hC6) ([4, 5, 6, 7]) (by decide) rfl rfl (ws' := (wd_Chances_isBelow E a_t a_t_heardAs a_t_total a_t_part a_t_before a_t_chance a_t_below a_t_below_limb a_t_scaled a_t_scaled_limb a_t_scaledBelow a_t_scaledBelow_limb r_t_chance r_t_chance_limb t_words t_chance_limb t_chance_limbs t_below_limbs t_below_limb t_scaled_limbs'_4 t_scaled_limb'_4 t_scaledBelow_limbs'_4 t_scaledBelow_limb'_4)) rfl 4 rfl rfl rfl (As := [.ref a_t_scaledBelow]) (rest := []) rfl rfl ⟨rfl, rfl, Nat.le_of_ble_eq_true rfl, Nat.le_of_ble_eq_true rfl⟩ (Nat.le_of_ble_eq_true rfl) (Nat.zero_le _) (Nat.zero_le _) dX0_isBelow_49 (fun H locs hW => ?_)
  clear hC6
  have hq := Option.some.inj hF
  subst hq
  exact hret _ _ _ _ _ rfl hW dX0_isBelow_52
