abbrev wd_S_plain (E : m_E) (a_t : Nat) (a_t_draft : Nat) (a_t_firstImage : Nat) (a_t_secondImage : Nat) (a_t_news : Nat) (a_t_otherNews : Nat) (a_t_readings : Nat) (a_t_chances : Nat) (a_t_turning : Nat) (a_t_text : Nat) (a_t_fraction : Nat) (a_t_now : Nat) (a_t_now_floor : Nat) (a_t_now_sightings : Nat) (a_t_now_lexicon : Nat) (a_t_now_level : Nat) (a_t_now_loss : Nat) (t_now_clearness : Int32) (t_now_isKept : Int32) : va_W := [(a_t, .inr (11, [.ref a_t_now, .ref a_t_draft, .ref a_t_firstImage, .ref a_t_secondImage, .ref a_t_news, .ref a_t_otherNews, .ref a_t_readings, .ref a_t_chances, .ref a_t_turning, .ref a_t_text, .ref a_t_fraction])), (a_t_now, .inr (7, [.ref a_t_now_floor, .ref a_t_now_sightings, .ref a_t_now_lexicon, .ref a_t_now_level, .ref a_t_now_loss, .int t_now_clearness, .int t_now_isKept]))]
def rm_S_plain : Room := { frames := 1, cells := 0, slots := 0, locals := 22 }
set_option maxHeartbeats 4000000 in
set_option maxRecDepth 100000 in
theorem c_S_plain (l : Launch) (E : m_E) (sz N : Nat) (a_t : Nat) (a_t_draft : Nat) (a_t_firstImage : Nat) (a_t_secondImage : Nat) (a_t_news : Nat) (a_t_otherNews : Nat) (a_t_readings : Nat) (a_t_chances : Nat) (a_t_turning : Nat) (a_t_text : Nat) (a_t_fraction : Nat) (a_t_now : Nat) (a_t_now_floor : Nat) (a_t_now_sightings : Nat) (a_t_now_lexicon : Nat) (a_t_now_level : Nat) (a_t_now_loss : Nat) (t_now_clearness : Int32) (t_now_isKept : Int32) (p1 : Int32) (ures : Int32 × Int32) (hF : F_S_plain p1 t_now_clearness = some ures) : m_Met l yX11_plain cX11_plain 3 (some .int) rm_S_plain E (wd_S_plain E a_t a_t_draft a_t_firstImage a_t_secondImage a_t_news a_t_otherNews a_t_readings a_t_chances a_t_turning a_t_text a_t_fraction a_t_now a_t_now_floor a_t_now_sightings a_t_now_lexicon a_t_now_level a_t_now_loss t_now_clearness t_now_isKept) (wd_S_plain E a_t a_t_draft a_t_firstImage a_t_secondImage a_t_news a_t_otherNews a_t_readings a_t_chances a_t_turning a_t_text a_t_fraction a_t_now a_t_now_floor a_t_now_sightings a_t_now_lexicon a_t_now_level a_t_now_loss ures.2 t_now_isKept) sz [.ref a_t, .int p1] (some (.int ures.1)) := by
  refine m_ofI (by decide) (Nat.le_of_ble_eq_true rfl) ?_
  intro p e s m args below meth c A Q ls X hW hA hl hret
  obtain ⟨hx, hb, -, hown, hts, hK, -, hG⟩ := id X
  have hl : lv_has ls 3 [(0, .ref a_t), (1, .int p1)] := hl
  unfold F_S_plain at hF
  refine lv_iload_n hx hb dX11_plain_0 rfl (lv_at hl 1 rfl) ?_
  refine lv_iconst (v := (1 : Int32)) hx hb dX11_plain_1 (by decide) ?_
  refine lv_bipush (v := (99 : Int32)) hx hb dX11_plain_2 (by decide) ?_
  refine m_callS X hW hA hl.1 lkX11_98 (c_S_within l E _ N   p1 (1 : Int32) (99 : Int32) (F_S_within p1 (1 : Int32) (99 : Int32)) rfl) [] (by decide) rfl rfl (ws' := (wd_S_plain E a_t a_t_draft a_t_firstImage a_t_secondImage a_t_news a_t_otherNews a_t_readings a_t_chances a_t_turning a_t_text a_t_fraction a_t_now a_t_now_floor a_t_now_sightings a_t_now_lexicon a_t_now_level a_t_now_loss t_now_clearness t_now_isKept)) rfl (As := [.int p1, .int (1 : Int32), .int (99 : Int32)]) (rest := []) rfl rfl ⟨rfl, rfl, Nat.le_of_ble_eq_true rfl, Nat.le_of_ble_eq_true rfl⟩ (Nat.le_of_ble_eq_true rfl) (Nat.zero_le _) (Nat.zero_le _) dX11_plain_4 (fun H locs hW => ?_)
  refine lv_if_ne (tgt := 13) hx hb dX11_plain_7 (by decide) (fun c1 => ?_) (fun c1 => ?_)
  · have hF := if_n c1 hF
    refine lv_aload_n hx hb dX11_plain_13 rfl (lv_at hl 0 rfl) ?_
    refine m_get X hW fdX11_10 0 rfl rfl dX11_plain_14 ?_
    refine m_get X hW fdX11_208 1 rfl rfl dX11_plain_17 ?_
    refine lv_istore_n (lv' := [(2, .int t_now_clearness), (0, .ref a_t), (1, .int p1)]) hx hb dX11_plain_20 rfl hl (by decide) rfl (fun ls hl => ?_)
    refine lv_aload_n hx hb dX11_plain_21 rfl (lv_at hl 1 rfl) ?_
    refine m_get X hW fdX11_10 0 rfl rfl dX11_plain_22 ?_
    refine lv_iload_n hx hb dX11_plain_25 rfl (lv_at hl 2 rfl) ?_
    refine m_putf X hW fdX11_208 1 rfl (Nat.le_of_ble_eq_true rfl) rfl rfl dX11_plain_26 (ws' := (wd_S_plain E a_t a_t_draft a_t_firstImage a_t_secondImage a_t_news a_t_otherNews a_t_readings a_t_chances a_t_turning a_t_text a_t_fraction a_t_now a_t_now_floor a_t_now_sightings a_t_now_lexicon a_t_now_level a_t_now_loss p1 t_now_isKept)) rfl (fun H locs hW => ?_)
    refine lv_iload_n hx hb dX11_plain_29 rfl (lv_at hl 0 rfl) ?_
    have hq := Option.some.inj hF
    subst hq
    exact hret _ _ _ _ hW dX11_plain_30
  · have hF := if_y c1 hF
    refine lv_bipush (v := (-2 : Int32)) hx hb dX11_plain_10 (by decide) ?_
    have hq := Option.some.inj hF
    subst hq
    exact hret _ _ _ _ hW dX11_plain_12
abbrev wd_S_commonDivisor (E : m_E)   : va_W := []
def rm_S_commonDivisor : Room := { frames := 0, cells := 0, slots := 0, locals := 0 }
set_option maxHeartbeats 4000000 in
set_option maxRecDepth 100000 in
theorem c_S_commonDivisor (l : Launch) (E : m_E) (sz N : Nat)   (p1 : Int32) (p2 : Int32) (ures : Int32) (hF : F_S_commonDivisor N p1 p2 = some ures) : m_Met l yX11_commonDivisor cX11_commonDivisor 6 (some .int) rm_S_commonDivisor E (wd_S_commonDivisor E) (wd_S_commonDivisor E) sz [.int p1, .int p2] (some (.int ures)) := by
  refine m_ofI (by decide) (Nat.le_of_ble_eq_true rfl) ?_
  intro p e s m args below meth c A Q ls X hW hA hl hret
  obtain ⟨hx, hb, -, hown, hts, hK, -, hG⟩ := id X
  have hl : lv_has ls 6 [(0, .int p1), (1, .int p2)] := hl
  unfold F_S_commonDivisor at hF
  refine lv_iload_n hx hb dX11_commonDivisor_0 rfl (lv_at hl 0 rfl) ?_
  refine lv_istore_n (lv' := [(2, .int p1), (0, .int p1), (1, .int p2)]) hx hb dX11_commonDivisor_1 rfl hl (by decide) rfl (fun ls hl => ?_)
  refine lv_iload_n hx hb dX11_commonDivisor_2 rfl (lv_at hl 2 rfl) ?_
  refine lv_istore_n (lv' := [(3, .int p2), (2, .int p1), (0, .int p1), (1, .int p2)]) hx hb dX11_commonDivisor_3 rfl hl (by decide) rfl (fun ls hl => ?_)
  refine lv_iconst (v := (0 : Int32)) hx hb dX11_commonDivisor_4 (by decide) ?_
  refine lv_istore (lv' := [(4, .int (0 : Int32)), (3, .int p2), (2, .int p1), (0, .int p1), (1, .int p2)]) hx hb dX11_commonDivisor_5 hl (by decide) rfl (fun ls hl => ?_)
  obtain ⟨x2_2, hX2, hF⟩ := bO_s1 hF
  have L1 : ∀ (k0 : Nat) (x2 : Int32) (x3 : Int32) (x4 : Int32) (x2_2 : Int32) (H : Heap) (locs : List Loc) (ls : Array Slot), S_commonDivisor_L7  k0 x2 x3 x4 = some x2_2 → m_H E A (wd_S_commonDivisor E) s.heap H locs → lv_has ls 6 [(4, .int x4), (3, .int x3), (2, .int x2)] → (∀ (H : Heap) (locs : List Loc) (ls : Array Slot), m_H E A (wd_S_commonDivisor E) s.heap H locs → lv_has ls 6 [(2, .int x2_2)] → W p l e rm_S_commonDivisor s m args below meth c H locs 0 0 Q (F0 m 34 ls [])) → W p l e rm_S_commonDivisor s m args below meth c H locs 0 0 Q (F0 m 7 ls []) := by
    clear hF
    intro k0
    induction k0 with
    | zero =>
      intro x2 x3 x4 x2_2 H locs ls hF
      cases hF
    | succ k0 ih4 =>
      intro x2 x3 x4 x2_2 H locs ls hF hW hl hk3
      rw [S_commonDivisor_L7] at hF
      refine lv_iload hx hb dX11_commonDivisor_7 (lv_at hl 0 rfl) ?_
      refine lv_bipush (v := (100 : Int32)) hx hb dX11_commonDivisor_9 (by decide) ?_
      refine lv_icmp_ge (tgt := 34) hx hb dX11_commonDivisor_11 (by decide) (fun c5 => ?_) (fun c5 => ?_)
      · have hF := if_y c5 hF
        cases hF
        exact hk3 _ _ _ hW (lv_sub hl [2] rfl)
      · have hF := if_n c5 hF
        refine lv_iload_n hx hb dX11_commonDivisor_14 rfl (lv_at hl 1 rfl) ?_
        refine lv_if_le (tgt := 34) hx hb dX11_commonDivisor_15 (by decide) (fun c6 => ?_) (fun c6 => ?_)
        · have hF := if_y c6 hF
          cases hF
          exact hk3 _ _ _ hW (lv_sub hl [2] rfl)
        · have hF := if_n c6 hF
          refine lv_iload_n hx hb dX11_commonDivisor_18 rfl (lv_at hl 2 rfl) ?_
          refine lv_iload_n hx hb dX11_commonDivisor_19 rfl (lv_at hl 1 rfl) ?_
          obtain ⟨g7, hF⟩ := gd_some hF
          refine m_irem hx hb dX11_commonDivisor_20 (nz_ne g7) ?_
          refine lv_istore (lv' := [(5, .int (jrem x2 x3)), (4, .int x4), (3, .int x3), (2, .int x2)]) hx hb dX11_commonDivisor_21 hl (by decide) rfl (fun ls hl => ?_)
          refine lv_iload_n hx hb dX11_commonDivisor_23 rfl (lv_at hl 2 rfl) ?_
          refine lv_istore_n (lv' := [(2, .int x3), (5, .int (jrem x2 x3)), (4, .int x4), (3, .int x3)]) hx hb dX11_commonDivisor_24 rfl hl (by decide) rfl (fun ls hl => ?_)
          refine lv_iload hx hb dX11_commonDivisor_25 (lv_at hl 1 rfl) ?_
          refine lv_istore_n (lv' := [(3, .int (jrem x2 x3)), (2, .int x3), (5, .int (jrem x2 x3)), (4, .int x4)]) hx hb dX11_commonDivisor_27 rfl hl (by decide) rfl (fun ls hl => ?_)
          refine lv_iinc (v := (x4 + (1 : Int32))) (lv' := [(4, .int (x4 + (1 : Int32))), (3, .int (jrem x2 x3)), (2, .int x3), (5, .int (jrem x2 x3))]) hx hb dX11_commonDivisor_28 hl (k := 3) rfl rfl (by decide) rfl (fun ls hl => ?_)
          refine lv_goto (tgt := 7) hx hb dX11_commonDivisor_31 (by decide) ?_
          exact ih4 x3 (jrem x2 x3) (x4 + (1 : Int32)) x2_2 _ _ _ hF hW (lv_sub hl [0, 1, 2] rfl) hk3
  refine L1 N p1 p2 (0 : Int32) x2_2 _ _ _ hX2 hW (lv_sub hl [0, 1, 2] rfl) ?_
  intro H locs ls hW hl
  clear L1
  refine lv_iload_n hx hb dX11_commonDivisor_34 rfl (lv_at hl 0 rfl) ?_
  have hq := Option.some.inj hF
  subst hq
  exact hret _ _ _ _ hW dX11_commonDivisor_35
abbrev wd_Chances_findParts (E : m_E) (a_t : Nat) (a_t_heardAs : Nat) (a_t_chance : Nat) (a_t_before : Nat) (a_t_below : Nat) (a_t_scaled : Nat) (a_t_scaledBelow : Nat) (a_t_total : Nat) (a_t_part : Nat) (t_words : Int32) (t_total : Nat → Int32) (t_part : Nat → Int32) : va_W := [(a_t, .inr (0, [.ref a_t_heardAs, .ref a_t_total, .ref a_t_part, .ref a_t_chance, .ref a_t_before, .ref a_t_below, .ref a_t_scaled, .ref a_t_scaledBelow, .int t_words])), (a_t_total, .inl (E.2.1 0, 10, .inl t_total)), (a_t_part, .inl (E.2.1 0, 10, .inl t_part))]
def rm_Chances_findParts : Room := { frames := 1, cells := 0, slots := 0, locals := 25 }
set_option maxHeartbeats 4000000 in
set_option maxRecDepth 100000 in
theorem c_Chances_findParts (l : Launch) (E : m_E) (sz N : Nat) (a_t : Nat) (a_t_heardAs : Nat) (a_t_chance : Nat) (a_t_before : Nat) (a_t_below : Nat) (a_t_scaled : Nat) (a_t_scaledBelow : Nat) (a_t_total : Nat) (a_t_part : Nat) (t_words : Int32) (t_total : Nat → Int32) (t_part : Nat → Int32)  (ures : (Nat → Int32)) (hF : F_Chances_findParts N t_words t_total t_part = some ures) : m_Met l yX0_findParts cX0_findParts 4 none rm_Chances_findParts E (wd_Chances_findParts E a_t a_t_heardAs a_t_chance a_t_before a_t_below a_t_scaled a_t_scaledBelow a_t_total a_t_part t_words t_total t_part) (wd_Chances_findParts E a_t a_t_heardAs a_t_chance a_t_before a_t_below a_t_scaled a_t_scaledBelow a_t_total a_t_part t_words t_total ures) sz [.ref a_t] none := by
  refine m_ofV (by decide) (Nat.le_of_ble_eq_true rfl) ?_
  intro p e s m args below meth c A Q ls X hW hA hl hret
  obtain ⟨hx, hb, -, hown, hts, hK, -, hG⟩ := id X
  have hl : lv_has ls 4 [(0, .ref a_t)] := hl
  unfold F_Chances_findParts at hF
  refine lv_iconst (v := (0 : Int32)) hx hb dX0_findParts_0 (by decide) ?_
  refine lv_istore_n (lv' := [(1, .int (0 : Int32)), (0, .ref a_t)]) hx hb dX0_findParts_1 rfl hl (by decide) rfl (fun ls hl => ?_)
  obtain ⟨t_part'_8, hX2, hF⟩ := bO_s1 hF
  have L1 : ∀ (k0 : Nat) (x1 : Int32) (t_part'_5 : Nat → Int32) (t_part'_8 : Nat → Int32) (H : Heap) (locs : List Loc) (ls : Array Slot), Chances_findParts_L2 N t_words t_total k0 x1 t_part'_5 = some t_part'_8 → m_H E A (wd_Chances_findParts E a_t a_t_heardAs a_t_chance a_t_before a_t_below a_t_scaled a_t_scaledBelow a_t_total a_t_part t_words t_total t_part'_5) s.heap H locs → lv_has ls 4 [(1, .int x1), (0, .ref a_t)] → (∀ (H : Heap) (locs : List Loc) (ls : Array Slot), m_H E A (wd_Chances_findParts E a_t a_t_heardAs a_t_chance a_t_before a_t_below a_t_scaled a_t_scaledBelow a_t_total a_t_part t_words t_total t_part'_8) s.heap H locs → lv_has ls 4 [] → W p l e rm_Chances_findParts s m args below meth c H locs 0 0 Q (F0 m 72 ls [])) → W p l e rm_Chances_findParts s m args below meth c H locs 0 0 Q (F0 m 2 ls []) := by
    clear hF
    intro k0
    induction k0 with
    | zero =>
      intro x1 t_part'_5 t_part'_8 H locs ls hF
      cases hF
    | succ k0 ih4 =>
      intro x1 t_part'_5 t_part'_8 H locs ls hF hW hl hk3
      rw [Chances_findParts_L2] at hF
      refine lv_iload_n hx hb dX0_findParts_2 rfl (lv_at hl 0 rfl) ?_
      refine lv_aload_n hx hb dX0_findParts_3 rfl (lv_at hl 1 rfl) ?_
      refine m_get X hW fdX0_47 0 rfl rfl dX0_findParts_4 ?_
      refine lv_icmp_ge (tgt := 72) hx hb dX0_findParts_7 (by decide) (fun c5 => ?_) (fun c5 => ?_)
      · have hF := if_y c5 hF
        cases hF
        exact hk3 _ _ _ hW (lv_sub hl [] rfl)
      · have hF := if_n c5 hF
        refine lv_aload_n hx hb dX0_findParts_10 rfl (lv_at hl 1 rfl) ?_
        refine m_get X hW fdX0_20 0 rfl rfl dX0_findParts_11 ?_
        refine lv_iload_n hx hb dX0_findParts_14 rfl (lv_at hl 0 rfl) ?_
        refine lv_aload_n hx hb dX0_findParts_15 rfl (lv_at hl 1 rfl) ?_
        refine m_get X hW fdX0_16 0 rfl rfl dX0_findParts_16 ?_
        refine lv_iload_n hx hb dX0_findParts_19 rfl (lv_at hl 0 rfl) ?_
        obtain ⟨g6, hF⟩ := gd_some hF
        refine m_iald X hW 1 (k := x1.toNatClampNeg) rfl g6 rfl dX0_findParts_20 ?_
        refine m_iast X hW 2 (k := x1.toNatClampNeg) rfl g6 rfl dX0_findParts_21 (ws' := (wd_Chances_findParts E a_t a_t_heardAs a_t_chance a_t_before a_t_below a_t_scaled a_t_scaledBelow a_t_total a_t_part t_words t_total (upd t_part'_5 x1.toNatClampNeg (t_total x1.toNatClampNeg)))) rfl (fun H locs hW => ?_)
        refine lv_iconst (v := (0 : Int32)) hx hb dX0_findParts_22 (by decide) ?_
        refine lv_istore_n (lv' := [(2, .int (0 : Int32)), (1, .int x1), (0, .ref a_t)]) hx hb dX0_findParts_23 rfl hl (by decide) rfl (fun ls hl => ?_)
        obtain ⟨t_part'_7, hX8, hF⟩ := bO_s1 hF
        have L7 : ∀ (k0 : Nat) (x2 : Int32) (t_part'_6 : Nat → Int32) (t_part'_7 : Nat → Int32) (H : Heap) (locs : List Loc) (ls : Array Slot), Chances_findParts_L24 N x1 k0 x2 t_part'_6 = some t_part'_7 → m_H E A (wd_Chances_findParts E a_t a_t_heardAs a_t_chance a_t_before a_t_below a_t_scaled a_t_scaledBelow a_t_total a_t_part t_words t_total t_part'_6) s.heap H locs → lv_has ls 4 [(2, .int x2), (1, .int x1), (0, .ref a_t)] → (∀ (H : Heap) (locs : List Loc) (ls : Array Slot), m_H E A (wd_Chances_findParts E a_t a_t_heardAs a_t_chance a_t_before a_t_below a_t_scaled a_t_scaledBelow a_t_total a_t_part t_words t_total t_part'_7) s.heap H locs → lv_has ls 4 [(1, .int x1), (0, .ref a_t)] → W p l e rm_Chances_findParts s m args below meth c H locs 0 0 Q (F0 m 66 ls [])) → W p l e rm_Chances_findParts s m args below meth c H locs 0 0 Q (F0 m 24 ls []) := by
          clear hF
          intro k0
          induction k0 with
          | zero =>
            intro x2 t_part'_6 t_part'_7 H locs ls hF
            cases hF
          | succ k0 ih10 =>
            intro x2 t_part'_6 t_part'_7 H locs ls hF hW hl hk9
            rw [Chances_findParts_L24] at hF
            refine lv_iload_n hx hb dX0_findParts_24 rfl (lv_at hl 0 rfl) ?_
            refine lv_iload_n hx hb dX0_findParts_25 rfl (lv_at hl 1 rfl) ?_
            refine lv_icmp_ge (tgt := 66) hx hb dX0_findParts_26 (by decide) (fun c11 => ?_) (fun c11 => ?_)
            · have hF := if_y c11 hF
              cases hF
              exact hk9 _ _ _ hW (lv_sub hl [1, 2] rfl)
            · have hF := if_n c11 hF
              refine lv_aload_n hx hb dX0_findParts_29 rfl (lv_at hl 2 rfl) ?_
              refine m_get X hW fdX0_20 0 rfl rfl dX0_findParts_30 ?_
              refine lv_iload_n hx hb dX0_findParts_33 rfl (lv_at hl 1 rfl) ?_
              refine m_iald X hW 2 (k := x1.toNatClampNeg) rfl g6 rfl dX0_findParts_34 ?_
              refine lv_aload_n hx hb dX0_findParts_35 rfl (lv_at hl 2 rfl) ?_
              refine m_get X hW fdX0_20 0 rfl rfl dX0_findParts_36 ?_
              refine lv_iload_n hx hb dX0_findParts_39 rfl (lv_at hl 0 rfl) ?_
              obtain ⟨g12, hF⟩ := gd_some hF
              refine m_iald X hW 2 (k := x2.toNatClampNeg) rfl g12 rfl dX0_findParts_40 ?_
              obtain ⟨r41, hC13, hF⟩ := bO_s1 hF
              refine m_callN X hW hA hl.1 lkX0_71 (c_S_commonDivisor l E _ N   (t_part'_6 x1.toNatClampNeg) (t_part'_6 x2.toNatClampNeg) r41 hC13) [] (by decide) rfl rfl (ws' := (wd_Chances_findParts E a_t a_t_heardAs a_t_chance a_t_before a_t_below a_t_scaled a_t_scaledBelow a_t_total a_t_part t_words t_total t_part'_6)) rfl (As := [.int (t_part'_6 x1.toNatClampNeg), .int (t_part'_6 x2.toNatClampNeg)]) (rest := []) rfl rfl ⟨rfl, rfl, Nat.le_of_ble_eq_true rfl, Nat.le_of_ble_eq_true rfl⟩ (Nat.le_of_ble_eq_true rfl) (Nat.zero_le _) (Nat.zero_le _) dX0_findParts_41 (fun H locs hW => ?_)
              clear hC13
              refine lv_istore_n (lv' := [(3, .int r41), (2, .int x2), (1, .int x1), (0, .ref a_t)]) hx hb dX0_findParts_44 rfl hl (by decide) rfl (fun ls hl => ?_)
              refine lv_iload_n hx hb dX0_findParts_45 rfl (lv_at hl 0 rfl) ?_
              refine lv_iconst (v := (1 : Int32)) hx hb dX0_findParts_46 (by decide) ?_
              refine lv_icmp_le (tgt := 60) hx hb dX0_findParts_47 (by decide) (fun c14 => ?_) (fun c14 => ?_)
              · have hF := if_y c14 hF
                refine lv_iinc (v := (x2 + (1 : Int32))) (lv' := [(2, .int (x2 + (1 : Int32))), (3, .int r41), (1, .int x1), (0, .ref a_t)]) hx hb dX0_findParts_60 hl (k := 1) rfl rfl (by decide) rfl (fun ls hl => ?_)
                refine lv_goto (tgt := 24) hx hb dX0_findParts_63 (by decide) ?_
                exact ih10 (x2 + (1 : Int32)) t_part'_6 t_part'_7 _ _ _ hF hW (lv_sub hl [0, 2, 3] rfl) hk9
              · have hF := if_n c14 hF
                refine lv_aload_n hx hb dX0_findParts_50 rfl (lv_at hl 3 rfl) ?_
                refine m_get X hW fdX0_20 0 rfl rfl dX0_findParts_51 ?_
                refine lv_iload_n hx hb dX0_findParts_54 rfl (lv_at hl 2 rfl) ?_
                refine lv_dup2_11 hx hb dX0_findParts_55 rfl rfl ?_
                refine m_iald X hW 2 (k := x1.toNatClampNeg) rfl g6 rfl dX0_findParts_56 ?_
                refine lv_iload_n hx hb dX0_findParts_57 rfl (lv_at hl 0 rfl) ?_
                obtain ⟨g15, hF⟩ := gd_some hF
                refine lv_idiv hx hb dX0_findParts_58 (nz_ne g15) ?_
                refine m_iast X hW 2 (k := x1.toNatClampNeg) rfl g6 rfl dX0_findParts_59 (ws' := (wd_Chances_findParts E a_t a_t_heardAs a_t_chance a_t_before a_t_below a_t_scaled a_t_scaledBelow a_t_total a_t_part t_words t_total (upd t_part'_6 x1.toNatClampNeg ((t_part'_6 x1.toNatClampNeg) / r41)))) rfl (fun H locs hW => ?_)
                refine lv_iinc (v := (x2 + (1 : Int32))) (lv' := [(2, .int (x2 + (1 : Int32))), (3, .int r41), (1, .int x1), (0, .ref a_t)]) hx hb dX0_findParts_60 hl (k := 1) rfl rfl (by decide) rfl (fun ls hl => ?_)
                refine lv_goto (tgt := 24) hx hb dX0_findParts_63 (by decide) ?_
                exact ih10 (x2 + (1 : Int32)) (upd t_part'_6 x1.toNatClampNeg ((t_part'_6 x1.toNatClampNeg) / r41)) t_part'_7 _ _ _ hF hW (lv_sub hl [0, 2, 3] rfl) hk9
        refine L7 N (0 : Int32) (upd t_part'_5 x1.toNatClampNeg (t_total x1.toNatClampNeg)) t_part'_7 _ _ _ hX8 hW (lv_sub hl [0, 1, 2] rfl) ?_
        intro H locs ls hW hl
        clear L7
        refine lv_iinc (v := (x1 + (1 : Int32))) (lv' := [(1, .int (x1 + (1 : Int32))), (0, .ref a_t)]) hx hb dX0_findParts_66 hl (k := 0) rfl rfl (by decide) rfl (fun ls hl => ?_)
        refine lv_goto (tgt := 2) hx hb dX0_findParts_69 (by decide) ?_
        exact ih4 (x1 + (1 : Int32)) t_part'_7 t_part'_8 _ _ _ hF hW (lv_sub hl [0, 1] rfl) hk3
  refine L1 N (0 : Int32) t_part t_part'_8 _ _ _ hX2 hW (lv_sub hl [0, 1] rfl) ?_
  intro H locs ls hW hl
  clear L1
  have hq := Option.some.inj hF
  subst hq
  exact hret _ _ _ _ hW dX0_findParts_72
abbrev wd_Natural_copyFrom (E : m_E) (a_t : Nat) (a_t_limb : Nat) (a_p1 : Nat) (a_p1_limb : Nat) (t_limbs : Int32) (t_limb : Nat → Int32) (p1_limbs : Int32) (p1_limb : Nat → Int32) : va_W := [(a_t, .inr (4, [.ref a_t_limb, .int t_limbs])), (a_t_limb, .inl (E.2.1 0, 40, .inl t_limb)), (a_p1, .inr (4, [.ref a_p1_limb, .int p1_limbs])), (a_p1_limb, .inl (E.2.1 0, 40, .inl p1_limb))]
def rm_Natural_copyFrom : Room := { frames := 1, cells := 0, slots := 0, locals := 26 }
set_option maxHeartbeats 4000000 in
set_option maxRecDepth 100000 in
theorem c_Natural_copyFrom (l : Launch) (E : m_E) (sz N : Nat) (a_t : Nat) (a_t_limb : Nat) (a_p1 : Nat) (a_p1_limb : Nat) (t_limbs : Int32) (t_limb : Nat → Int32) (p1_limbs : Int32) (p1_limb : Nat → Int32)  (ures : Int32 × (Nat → Int32)) (hF : F_Natural_copyFrom t_limb p1_limbs p1_limb = some ures) : m_Met l yX4_copyFrom cX4_copyFrom 2 none rm_Natural_copyFrom E (wd_Natural_copyFrom E a_t a_t_limb a_p1 a_p1_limb t_limbs t_limb p1_limbs p1_limb) (wd_Natural_copyFrom E a_t a_t_limb a_p1 a_p1_limb ures.1 ures.2 p1_limbs p1_limb) sz [.ref a_t, .ref a_p1] none := by
  refine m_ofV (by decide) (Nat.le_of_ble_eq_true rfl) ?_
  intro p e s m args below meth c A Q ls X hW hA hl hret
  obtain ⟨hx, hb, -, hown, hts, hK, -, hG⟩ := id X
  have hl : lv_has ls 2 [(0, .ref a_t), (1, .ref a_p1)] := hl
  unfold F_Natural_copyFrom at hF
  refine lv_aload_n hx hb dX4_copyFrom_0 rfl (lv_at hl 1 rfl) ?_
  refine m_get X hW fdX4_11 2 rfl rfl dX4_copyFrom_1 ?_
  refine lv_iconst (v := (0 : Int32)) hx hb dX4_copyFrom_4 (by decide) ?_
  refine lv_aload_n hx hb dX4_copyFrom_5 rfl (lv_at hl 0 rfl) ?_
  refine m_get X hW fdX4_11 0 rfl rfl dX4_copyFrom_6 ?_
  refine lv_iconst (v := (0 : Int32)) hx hb dX4_copyFrom_9 (by decide) ?_
  refine lv_aload_n hx hb dX4_copyFrom_10 rfl (lv_at hl 1 rfl) ?_
  refine m_get X hW fdX4_15 2 rfl rfl dX4_copyFrom_11 ?_
  obtain ⟨g1, hF⟩ := gd_some hF
  refine m_copyi X hW hl.1 wk_732 wk_734 wk_733 wk_16 3 1 rfl rfl g1 rfl rfl rfl (Nat.le_of_ble_eq_true rfl) (Nat.le_of_ble_eq_true rfl) dX4_copyFrom_14 (ws' := (wd_Natural_copyFrom E a_t a_t_limb a_p1 a_p1_limb t_limbs (va_cpy p1_limb t_limb 0 0 p1_limbs.toNatClampNeg) p1_limbs p1_limb)) (ksp := 0) (kdp := 0) (kn := p1_limbs.toNatClampNeg) rfl (fun H locs hW => ?_)
  refine lv_aload_n hx hb dX4_copyFrom_17 rfl (lv_at hl 0 rfl) ?_
  refine lv_aload_n hx hb dX4_copyFrom_18 rfl (lv_at hl 1 rfl) ?_
  refine m_get X hW fdX4_15 2 rfl rfl dX4_copyFrom_19 ?_
  refine m_putf X hW fdX4_15 0 rfl (Nat.le_of_ble_eq_true rfl) rfl rfl dX4_copyFrom_22 (ws' := (wd_Natural_copyFrom E a_t a_t_limb a_p1 a_p1_limb p1_limbs (va_cpy p1_limb t_limb 0 0 p1_limbs.toNatClampNeg) p1_limbs p1_limb)) rfl (fun H locs hW => ?_)
  have hq := Option.some.inj hF
  subst hq
  exact hret _ _ _ _ hW dX4_copyFrom_25
abbrev wd_Natural_multiply (E : m_E) (a_t : Nat) (a_t_limb : Nat) (t_limbs : Int32) (t_limb : Nat → Int32) : va_W := [(a_t, .inr (4, [.ref a_t_limb, .int t_limbs])), (a_t_limb, .inl (E.2.1 0, 40, .inl t_limb))]
def rm_Natural_multiply : Room := { frames := 0, cells := 0, slots := 0, locals := 0 }
set_option maxHeartbeats 4000000 in
set_option maxRecDepth 100000 in
theorem c_Natural_multiply (l : Launch) (E : m_E) (sz N : Nat) (a_t : Nat) (a_t_limb : Nat) (t_limbs : Int32) (t_limb : Nat → Int32) (p1 : Int32) (ures : Int32 × (Nat → Int32)) (hF : F_Natural_multiply N p1 t_limbs t_limb = some ures) : m_Met l yX4_multiply cX4_multiply 5 none rm_Natural_multiply E (wd_Natural_multiply E a_t a_t_limb t_limbs t_limb) (wd_Natural_multiply E a_t a_t_limb ures.1 ures.2) sz [.ref a_t, .int p1] none := by
  refine m_ofV (by decide) (Nat.le_of_ble_eq_true rfl) ?_
  intro p e s m args below meth c A Q ls X hW hA hl hret
  obtain ⟨hx, hb, -, hown, hts, hK, -, hG⟩ := id X
  have hl : lv_has ls 5 [(0, .ref a_t), (1, .int p1)] := hl
  unfold F_Natural_multiply at hF
  refine lv_lconst (v := (0 : Int64)) hx hb dX4_multiply_0 (by decide) ?_
  refine lv_lstore_n (lv' := [(2, .long (0 : Int64)), (0, .ref a_t), (1, .int p1)]) hx hb dX4_multiply_1 rfl hl (by decide) rfl (fun ls hl => ?_)
  refine lv_iconst (v := (0 : Int32)) hx hb dX4_multiply_2 (by decide) ?_
  refine lv_istore (lv' := [(4, .int (0 : Int32)), (2, .long (0 : Int64)), (0, .ref a_t), (1, .int p1)]) hx hb dX4_multiply_3 hl (by decide) rfl (fun ls hl => ?_)
  obtain ⟨x2_2, t_limb'_4, hX2, hF⟩ := bO_s2 hF
  have L1 : ∀ (k0 : Nat) (x2 : Int64) (x4 : Int32) (t_limb'_3 : Nat → Int32) (x2_2 : Int64) (t_limb'_4 : Nat → Int32) (H : Heap) (locs : List Loc) (ls : Array Slot), Natural_multiply_L5 t_limbs p1 k0 x2 x4 t_limb'_3 = some (x2_2, t_limb'_4) → m_H E A (wd_Natural_multiply E a_t a_t_limb t_limbs t_limb'_3) s.heap H locs → lv_has ls 5 [(4, .int x4), (2, .long x2), (0, .ref a_t), (1, .int p1)] → (∀ (H : Heap) (locs : List Loc) (ls : Array Slot), m_H E A (wd_Natural_multiply E a_t a_t_limb t_limbs t_limb'_4) s.heap H locs → lv_has ls 5 [(2, .long x2_2), (0, .ref a_t)] → W p l e rm_Natural_multiply s m args below meth c H locs 0 0 Q (F0 m 52 ls [])) → W p l e rm_Natural_multiply s m args below meth c H locs 0 0 Q (F0 m 5 ls []) := by
    clear hF
    intro k0
    induction k0 with
    | zero =>
      intro x2 x4 t_limb'_3 x2_2 t_limb'_4 H locs ls hF
      cases hF
    | succ k0 ih4 =>
      intro x2 x4 t_limb'_3 x2_2 t_limb'_4 H locs ls hF hW hl hk3
      rw [Natural_multiply_L5] at hF
      refine lv_iload hx hb dX4_multiply_5 (lv_at hl 0 rfl) ?_
      refine lv_aload_n hx hb dX4_multiply_7 rfl (lv_at hl 2 rfl) ?_
      refine m_get X hW fdX4_15 0 rfl rfl dX4_multiply_8 ?_
      refine lv_icmp_ge (tgt := 52) hx hb dX4_multiply_11 (by decide) (fun c5 => ?_) (fun c5 => ?_)
      · have hF := if_y c5 hF
        cases hF
        exact hk3 _ _ _ hW (lv_sub hl [1, 2] rfl)
      · have hF := if_n c5 hF
        refine lv_lload_n hx hb dX4_multiply_14 rfl (lv_at hl 1 rfl) ?_
        refine lv_aload_n hx hb dX4_multiply_15 rfl (lv_at hl 2 rfl) ?_
        refine m_get X hW fdX4_11 0 rfl rfl dX4_multiply_16 ?_
        refine lv_iload hx hb dX4_multiply_19 (lv_at hl 0 rfl) ?_
        obtain ⟨g6, hF⟩ := gd_some hF
        refine m_iald X hW 1 (k := x4.toNatClampNeg) rfl g6 rfl dX4_multiply_21 ?_
        refine lv_i2l (v := (t_limb'_3 x4.toNatClampNeg).toInt64) hx hb dX4_multiply_22 rfl ?_
        refine lv_iload_n hx hb dX4_multiply_23 rfl (lv_at hl 3 rfl) ?_
        refine lv_i2l (v := p1.toInt64) hx hb dX4_multiply_24 rfl ?_
        refine lv_lmul hx hb dX4_multiply_25 ?_
        refine lv_ladd hx hb dX4_multiply_26 ?_
        refine lv_lstore_n (lv' := [(2, .long (x2 + ((t_limb'_3 x4.toNatClampNeg).toInt64 * p1.toInt64))), (4, .int x4), (0, .ref a_t), (1, .int p1)]) hx hb dX4_multiply_27 rfl hl (by decide) rfl (fun ls hl => ?_)
        refine lv_aload_n hx hb dX4_multiply_28 rfl (lv_at hl 2 rfl) ?_
        refine m_get X hW fdX4_11 0 rfl rfl dX4_multiply_29 ?_
        refine lv_iload hx hb dX4_multiply_32 (lv_at hl 1 rfl) ?_
        refine lv_lload_n hx hb dX4_multiply_34 rfl (lv_at hl 0 rfl) ?_
        refine lv_ldc2 (v := (1073741823 : Int64)) hx hb hown (hts _ wk_747) dX4_multiply_35 ?_
        refine lv_land hx hb dX4_multiply_38 ?_
        refine lv_l2i (v := ((x2 + ((t_limb'_3 x4.toNatClampNeg).toInt64 * p1.toInt64)) &&& (1073741823 : Int64)).toInt32) hx hb dX4_multiply_39 rfl ?_
        refine m_iast X hW 1 (k := x4.toNatClampNeg) rfl g6 rfl dX4_multiply_40 (ws' := (wd_Natural_multiply E a_t a_t_limb t_limbs (upd t_limb'_3 x4.toNatClampNeg ((x2 + ((t_limb'_3 x4.toNatClampNeg).toInt64 * p1.toInt64)) &&& (1073741823 : Int64)).toInt32))) rfl (fun H locs hW => ?_)
        refine lv_lload_n hx hb dX4_multiply_41 rfl (lv_at hl 0 rfl) ?_
        refine lv_bipush (v := (30 : Int32)) hx hb dX4_multiply_42 (by decide) ?_
        refine m_lshr hx hb dX4_multiply_44 ?_
        refine lv_lstore_n (lv' := [(2, .long (jshrL (x2 + ((t_limb'_3 x4.toNatClampNeg).toInt64 * p1.toInt64)) (30 : Int32))), (4, .int x4), (0, .ref a_t), (1, .int p1)]) hx hb dX4_multiply_45 rfl hl (by decide) rfl (fun ls hl => ?_)
        refine lv_iinc (v := (x4 + (1 : Int32))) (lv' := [(4, .int (x4 + (1 : Int32))), (2, .long (jshrL (x2 + ((t_limb'_3 x4.toNatClampNeg).toInt64 * p1.toInt64)) (30 : Int32))), (0, .ref a_t), (1, .int p1)]) hx hb dX4_multiply_46 hl (k := 1) rfl rfl (by decide) rfl (fun ls hl => ?_)
        refine lv_goto (tgt := 5) hx hb dX4_multiply_49 (by decide) ?_
        exact ih4 (jshrL (x2 + ((t_limb'_3 x4.toNatClampNeg).toInt64 * p1.toInt64)) (30 : Int32)) (x4 + (1 : Int32)) (upd t_limb'_3 x4.toNatClampNeg ((x2 + ((t_limb'_3 x4.toNatClampNeg).toInt64 * p1.toInt64)) &&& (1073741823 : Int64)).toInt32) x2_2 t_limb'_4 _ _ _ hF hW (lv_sub hl [0, 1, 2, 3] rfl) hk3
  refine L1 N (0 : Int64) (0 : Int32) t_limb x2_2 t_limb'_4 _ _ _ hX2 hW (lv_sub hl [0, 1, 2, 3] rfl) ?_
  intro H locs ls hW hl
  clear L1
  refine lv_lload_n hx hb dX4_multiply_52 rfl (lv_at hl 0 rfl) ?_
  refine lv_lconst (v := (0 : Int64)) hx hb dX4_multiply_53 (by decide) ?_
  refine W.lcmp hx hb dX4_multiply_54 ?_
  refine lv_if_le (tgt := 88) hx hb dX4_multiply_55 (by decide) (fun c7 => ?_) (fun c7 => ?_)
  · have hF := if_y c7 hF
    have hq := Option.some.inj hF
    subst hq
    exact hret _ _ _ _ hW dX4_multiply_88
  · have hF := if_n c7 hF
    refine lv_aload_n hx hb dX4_multiply_58 rfl (lv_at hl 1 rfl) ?_
    refine m_get X hW fdX4_15 0 rfl rfl dX4_multiply_59 ?_
    refine lv_bipush (v := (40 : Int32)) hx hb dX4_multiply_62 (by decide) ?_
    refine lv_icmp_ge (tgt := 88) hx hb dX4_multiply_64 (by decide) (fun c8 => ?_) (fun c8 => ?_)
    · have hF := if_y c8 hF
      have hq := Option.some.inj hF
      subst hq
      exact hret _ _ _ _ hW dX4_multiply_88
    · have hF := if_n c8 hF
      refine lv_aload_n hx hb dX4_multiply_67 rfl (lv_at hl 1 rfl) ?_
      refine m_get X hW fdX4_11 0 rfl rfl dX4_multiply_68 ?_
      refine lv_aload_n hx hb dX4_multiply_71 rfl (lv_at hl 1 rfl) ?_
      refine m_get X hW fdX4_15 0 rfl rfl dX4_multiply_72 ?_
      refine lv_lload_n hx hb dX4_multiply_75 rfl (lv_at hl 0 rfl) ?_
      refine lv_l2i (v := x2_2.toInt32) hx hb dX4_multiply_76 rfl ?_
      obtain ⟨g9, hF⟩ := gd_some hF
      refine m_iast X hW 1 (k := t_limbs.toNatClampNeg) rfl g9 rfl dX4_multiply_77 (ws' := (wd_Natural_multiply E a_t a_t_limb t_limbs (upd t_limb'_4 t_limbs.toNatClampNeg x2_2.toInt32))) rfl (fun H locs hW => ?_)
      refine lv_aload_n hx hb dX4_multiply_78 rfl (lv_at hl 1 rfl) ?_
      refine lv_dup hx hb dX4_multiply_79 rfl ?_
      refine m_get X hW fdX4_15 0 rfl rfl dX4_multiply_80 ?_
      refine lv_iconst (v := (1 : Int32)) hx hb dX4_multiply_83 (by decide) ?_
      refine lv_iadd hx hb dX4_multiply_84 ?_
      refine m_putf X hW fdX4_15 0 rfl (Nat.le_of_ble_eq_true rfl) rfl rfl dX4_multiply_85 (ws' := (wd_Natural_multiply E a_t a_t_limb (t_limbs + (1 : Int32)) (upd t_limb'_4 t_limbs.toNatClampNeg x2_2.toInt32))) rfl (fun H locs hW => ?_)
      have hq := Option.some.inj hF
      subst hq
      exact hret _ _ _ _ hW dX4_multiply_88
abbrev wd_Chances_multiplyByParts (E : m_E) (a_t : Nat) (a_t_heardAs : Nat) (a_t_total : Nat) (a_t_chance : Nat) (a_t_before : Nat) (a_t_below : Nat) (a_t_scaled : Nat) (a_t_scaledBelow : Nat) (a_t_part : Nat) (a_p1 : Nat) (a_p1_limb : Nat) (t_words : Int32) (t_part : Nat → Int32) (p1_limbs : Int32) (p1_limb : Nat → Int32) : va_W := [(a_t, .inr (0, [.ref a_t_heardAs, .ref a_t_total, .ref a_t_part, .ref a_t_chance, .ref a_t_before, .ref a_t_below, .ref a_t_scaled, .ref a_t_scaledBelow, .int t_words])), (a_t_part, .inl (E.2.1 0, 10, .inl t_part)), (a_p1, .inr (4, [.ref a_p1_limb, .int p1_limbs])), (a_p1_limb, .inl (E.2.1 0, 40, .inl p1_limb))]
def rm_Chances_multiplyByParts : Room := { frames := 1, cells := 0, slots := 0, locals := 24 }
set_option maxHeartbeats 4000000 in
set_option maxRecDepth 100000 in
theorem c_Chances_multiplyByParts (l : Launch) (E : m_E) (sz N : Nat) (a_t : Nat) (a_t_heardAs : Nat) (a_t_total : Nat) (a_t_chance : Nat) (a_t_before : Nat) (a_t_below : Nat) (a_t_scaled : Nat) (a_t_scaledBelow : Nat) (a_t_part : Nat) (a_p1 : Nat) (a_p1_limb : Nat) (t_words : Int32) (t_part : Nat → Int32) (p1_limbs : Int32) (p1_limb : Nat → Int32)  (ures : Int32 × (Nat → Int32)) (hF : F_Chances_multiplyByParts N t_words t_part p1_limbs p1_limb = some ures) : m_Met l yX0_multiplyByParts cX0_multiplyByParts 3 none rm_Chances_multiplyByParts E (wd_Chances_multiplyByParts E a_t a_t_heardAs a_t_total a_t_chance a_t_before a_t_below a_t_scaled a_t_scaledBelow a_t_part a_p1 a_p1_limb t_words t_part p1_limbs p1_limb) (wd_Chances_multiplyByParts E a_t a_t_heardAs a_t_total a_t_chance a_t_before a_t_below a_t_scaled a_t_scaledBelow a_t_part a_p1 a_p1_limb t_words t_part ures.1 ures.2) sz [.ref a_t, .ref a_p1] none := by
  refine m_ofV (by decide) (Nat.le_of_ble_eq_true rfl) ?_
  intro p e s m args below meth c A Q ls X hW hA hl hret
  obtain ⟨hx, hb, -, hown, hts, hK, -, hG⟩ := id X
  have hl : lv_has ls 3 [(0, .ref a_t), (1, .ref a_p1)] := hl
  unfold F_Chances_multiplyByParts at hF
  refine lv_iconst (v := (0 : Int32)) hx hb dX0_multiplyByParts_0 (by decide) ?_
  refine lv_istore_n (lv' := [(2, .int (0 : Int32)), (0, .ref a_t), (1, .ref a_p1)]) hx hb dX0_multiplyByParts_1 rfl hl (by decide) rfl (fun ls hl => ?_)
  obtain ⟨p1_limb'_6, p1_limbs'_6, hX2, hF⟩ := bO_s2 hF
  have L1 : ∀ (k0 : Nat) (x2 : Int32) (p1_limb'_4 : Nat → Int32) (p1_limbs'_4 : Int32) (p1_limb'_6 : Nat → Int32) (p1_limbs'_6 : Int32) (H : Heap) (locs : List Loc) (ls : Array Slot), Chances_multiplyByParts_L2 N t_words t_part k0 x2 p1_limb'_4 p1_limbs'_4 = some (p1_limb'_6, p1_limbs'_6) → m_H E A (wd_Chances_multiplyByParts E a_t a_t_heardAs a_t_total a_t_chance a_t_before a_t_below a_t_scaled a_t_scaledBelow a_t_part a_p1 a_p1_limb t_words t_part p1_limbs'_4 p1_limb'_4) s.heap H locs → lv_has ls 3 [(2, .int x2), (0, .ref a_t), (1, .ref a_p1)] → (∀ (H : Heap) (locs : List Loc) (ls : Array Slot), m_H E A (wd_Chances_multiplyByParts E a_t a_t_heardAs a_t_total a_t_chance a_t_before a_t_below a_t_scaled a_t_scaledBelow a_t_part a_p1 a_p1_limb t_words t_part p1_limbs'_6 p1_limb'_6) s.heap H locs → lv_has ls 3 [] → W p l e rm_Chances_multiplyByParts s m args below meth c H locs 0 0 Q (F0 m 36 ls [])) → W p l e rm_Chances_multiplyByParts s m args below meth c H locs 0 0 Q (F0 m 2 ls []) := by
    clear hF
    intro k0
    induction k0 with
    | zero =>
      intro x2 p1_limb'_4 p1_limbs'_4 p1_limb'_6 p1_limbs'_6 H locs ls hF
      cases hF
    | succ k0 ih4 =>
      intro x2 p1_limb'_4 p1_limbs'_4 p1_limb'_6 p1_limbs'_6 H locs ls hF hW hl hk3
      rw [Chances_multiplyByParts_L2] at hF
      refine lv_iload_n hx hb dX0_multiplyByParts_2 rfl (lv_at hl 0 rfl) ?_
      refine lv_aload_n hx hb dX0_multiplyByParts_3 rfl (lv_at hl 1 rfl) ?_
      refine m_get X hW fdX0_47 0 rfl rfl dX0_multiplyByParts_4 ?_
      refine lv_icmp_ge (tgt := 36) hx hb dX0_multiplyByParts_7 (by decide) (fun c5 => ?_) (fun c5 => ?_)
      · have hF := if_y c5 hF
        cases hF
        exact hk3 _ _ _ hW (lv_sub hl [] rfl)
      · have hF := if_n c5 hF
        refine lv_aload_n hx hb dX0_multiplyByParts_10 rfl (lv_at hl 1 rfl) ?_
        refine m_get X hW fdX0_20 0 rfl rfl dX0_multiplyByParts_11 ?_
        refine lv_iload_n hx hb dX0_multiplyByParts_14 rfl (lv_at hl 0 rfl) ?_
        obtain ⟨g6, hF⟩ := gd_some hF
        refine m_iald X hW 1 (k := x2.toNatClampNeg) rfl g6 rfl dX0_multiplyByParts_15 ?_
        refine lv_iconst (v := (1 : Int32)) hx hb dX0_multiplyByParts_16 (by decide) ?_
        refine lv_icmp_le (tgt := 30) hx hb dX0_multiplyByParts_17 (by decide) (fun c7 => ?_) (fun c7 => ?_)
        · have hF := if_y c7 hF
          refine lv_iinc (v := (x2 + (1 : Int32))) (lv' := [(2, .int (x2 + (1 : Int32))), (0, .ref a_t), (1, .ref a_p1)]) hx hb dX0_multiplyByParts_30 hl (k := 0) rfl rfl (by decide) rfl (fun ls hl => ?_)
          refine lv_goto (tgt := 2) hx hb dX0_multiplyByParts_33 (by decide) ?_
          exact ih4 (x2 + (1 : Int32)) p1_limb'_4 p1_limbs'_4 p1_limb'_6 p1_limbs'_6 _ _ _ hF hW (lv_sub hl [0, 1, 2] rfl) hk3
        · have hF := if_n c7 hF
          refine lv_aload_n hx hb dX0_multiplyByParts_20 rfl (lv_at hl 2 rfl) ?_
          refine lv_aload_n hx hb dX0_multiplyByParts_21 rfl (lv_at hl 1 rfl) ?_
          refine m_get X hW fdX0_20 0 rfl rfl dX0_multiplyByParts_22 ?_
          refine lv_iload_n hx hb dX0_multiplyByParts_25 rfl (lv_at hl 0 rfl) ?_
          refine m_iald X hW 1 (k := x2.toNatClampNeg) rfl g6 rfl dX0_multiplyByParts_26 ?_
          obtain ⟨p1_limbs'_5, p1_limb'_5, hC8, hF⟩ := bO_s2 hF
          refine m_callV X hW hA hl.1 lkX0_94 (c_Natural_multiply l E _ N a_p1 a_p1_limb p1_limbs'_4 p1_limb'_4 (t_part x2.toNatClampNeg) (p1_limbs'_5, p1_limb'_5) hC8) [2, 3] (by decide) rfl rfl (ws' := (wd_Chances_multiplyByParts E a_t a_t_heardAs a_t_total a_t_chance a_t_before a_t_below a_t_scaled a_t_scaledBelow a_t_part a_p1 a_p1_limb t_words t_part p1_limbs'_5 p1_limb'_5)) rfl 2 rfl rfl rfl (As := [.int (t_part x2.toNatClampNeg)]) (rest := []) rfl rfl ⟨rfl, rfl, Nat.le_of_ble_eq_true rfl, Nat.le_of_ble_eq_true rfl⟩ (Nat.le_of_ble_eq_true rfl) (Nat.zero_le _) (Nat.zero_le _) dX0_multiplyByParts_27 (fun H locs hW => ?_)
          clear hC8
          refine lv_iinc (v := (x2 + (1 : Int32))) (lv' := [(2, .int (x2 + (1 : Int32))), (0, .ref a_t), (1, .ref a_p1)]) hx hb dX0_multiplyByParts_30 hl (k := 0) rfl rfl (by decide) rfl (fun ls hl => ?_)
          refine lv_goto (tgt := 2) hx hb dX0_multiplyByParts_33 (by decide) ?_
          exact ih4 (x2 + (1 : Int32)) p1_limb'_5 p1_limbs'_5 p1_limb'_6 p1_limbs'_6 _ _ _ hF hW (lv_sub hl [0, 1, 2] rfl) hk3
  refine L1 N (0 : Int32) p1_limb p1_limbs p1_limb'_6 p1_limbs'_6 _ _ _ hX2 hW (lv_sub hl [0, 1, 2] rfl) ?_
  intro H locs ls hW hl
  clear L1
  have hq := Option.some.inj hF
  subst hq
  exact hret _ _ _ _ hW dX0_multiplyByParts_36
abbrev wd_Natural_trim (E : m_E) (a_t : Nat) (a_t_limb : Nat) (t_limbs : Int32) (t_limb : Nat → Int32) : va_W := [(a_t, .inr (4, [.ref a_t_limb, .int t_limbs])), (a_t_limb, .inl (E.2.1 0, 40, .inl t_limb))]
def rm_Natural_trim : Room := { frames := 0, cells := 0, slots := 0, locals := 0 }
set_option maxHeartbeats 4000000 in
set_option maxRecDepth 100000 in
theorem c_Natural_trim (l : Launch) (E : m_E) (sz N : Nat) (a_t : Nat) (a_t_limb : Nat) (t_limbs : Int32) (t_limb : Nat → Int32)  (ures : Int32) (hF : F_Natural_trim N t_limbs t_limb = some ures) : m_Met l yX4_trim cX4_trim 2 none rm_Natural_trim E (wd_Natural_trim E a_t a_t_limb t_limbs t_limb) (wd_Natural_trim E a_t a_t_limb ures t_limb) sz [.ref a_t] none := by
  refine m_ofV (by decide) (Nat.le_of_ble_eq_true rfl) ?_
  intro p e s m args below meth c A Q ls X hW hA hl hret
  obtain ⟨hx, hb, -, hown, hts, hK, -, hG⟩ := id X
  have hl : lv_has ls 2 [(0, .ref a_t)] := hl
  unfold F_Natural_trim at hF
  refine lv_aload_n hx hb dX4_trim_0 rfl (lv_at hl 0 rfl) ?_
  refine m_get X hW fdX4_15 0 rfl rfl dX4_trim_1 ?_
  refine lv_iconst (v := (1 : Int32)) hx hb dX4_trim_4 (by decide) ?_
  refine lv_isub hx hb dX4_trim_5 ?_
  refine lv_istore_n (lv' := [(1, .int (t_limbs - (1 : Int32))), (0, .ref a_t)]) hx hb dX4_trim_6 rfl hl (by decide) rfl (fun ls hl => ?_)
  obtain ⟨t_limbs'_4, hX2, hF⟩ := bO_s1 hF
  have L1 : ∀ (k0 : Nat) (x1 : Int32) (t_limbs'_3 : Int32) (t_limbs'_4 : Int32) (H : Heap) (locs : List Loc) (ls : Array Slot), Natural_trim_L7 t_limb k0 x1 t_limbs'_3 = some t_limbs'_4 → m_H E A (wd_Natural_trim E a_t a_t_limb t_limbs'_3 t_limb) s.heap H locs → lv_has ls 2 [(1, .int x1), (0, .ref a_t)] → (∀ (H : Heap) (locs : List Loc) (ls : Array Slot), m_H E A (wd_Natural_trim E a_t a_t_limb t_limbs'_4 t_limb) s.heap H locs → lv_has ls 2 [] → W p l e rm_Natural_trim s m args below meth c H locs 0 0 Q (F0 m 31 ls [])) → W p l e rm_Natural_trim s m args below meth c H locs 0 0 Q (F0 m 7 ls []) := by
    clear hF
    intro k0
    induction k0 with
    | zero =>
      intro x1 t_limbs'_3 t_limbs'_4 H locs ls hF
      cases hF
    | succ k0 ih4 =>
      intro x1 t_limbs'_3 t_limbs'_4 H locs ls hF hW hl hk3
      rw [Natural_trim_L7] at hF
      refine lv_iload_n hx hb dX4_trim_7 rfl (lv_at hl 0 rfl) ?_
      refine lv_if_lt (tgt := 31) hx hb dX4_trim_8 (by decide) (fun c5 => ?_) (fun c5 => ?_)
      · have hF := if_y c5 hF
        cases hF
        exact hk3 _ _ _ hW (lv_sub hl [] rfl)
      · have hF := if_n c5 hF
        refine lv_aload_n hx hb dX4_trim_11 rfl (lv_at hl 1 rfl) ?_
        refine m_get X hW fdX4_11 0 rfl rfl dX4_trim_12 ?_
        refine lv_iload_n hx hb dX4_trim_15 rfl (lv_at hl 0 rfl) ?_
        obtain ⟨g6, hF⟩ := gd_some hF
        refine m_iald X hW 1 (k := x1.toNatClampNeg) rfl g6 rfl dX4_trim_16 ?_
        refine lv_if_ne (tgt := 31) hx hb dX4_trim_17 (by decide) (fun c7 => ?_) (fun c7 => ?_)
        · have hF := if_n c7 hF
          cases hF
          exact hk3 _ _ _ hW (lv_sub hl [] rfl)
        · have hF := if_y c7 hF
          refine lv_aload_n hx hb dX4_trim_20 rfl (lv_at hl 1 rfl) ?_
          refine lv_iload_n hx hb dX4_trim_21 rfl (lv_at hl 0 rfl) ?_
          refine m_putf X hW fdX4_15 0 rfl (Nat.le_of_ble_eq_true rfl) rfl rfl dX4_trim_22 (ws' := (wd_Natural_trim E a_t a_t_limb x1 t_limb)) rfl (fun H locs hW => ?_)
          refine lv_iinc (v := (x1 + (-1 : Int32))) (lv' := [(1, .int (x1 + (-1 : Int32))), (0, .ref a_t)]) hx hb dX4_trim_25 hl (k := 0) rfl rfl (by decide) rfl (fun ls hl => ?_)
          refine lv_goto (tgt := 7) hx hb dX4_trim_28 (by decide) ?_
          exact ih4 (x1 + (-1 : Int32)) x1 t_limbs'_4 _ _ _ hF hW (lv_sub hl [0, 1] rfl) hk3
  refine L1 N (t_limbs - (1 : Int32)) t_limbs t_limbs'_4 _ _ _ hX2 hW (lv_sub hl [0, 1] rfl) ?_
  intro H locs ls hW hl
  clear L1
  have hq := Option.some.inj hF
  subst hq
  exact hret _ _ _ _ hW dX4_trim_31
abbrev wd_Natural_divide (E : m_E) (a_t : Nat) (a_t_limb : Nat) (t_limbs : Int32) (t_limb : Nat → Int32) : va_W := [(a_t, .inr (4, [.ref a_t_limb, .int t_limbs])), (a_t_limb, .inl (E.2.1 0, 40, .inl t_limb))]
def rm_Natural_divide : Room := { frames := 1, cells := 0, slots := 0, locals := 21 }
set_option maxHeartbeats 4000000 in
set_option maxRecDepth 100000 in
theorem c_Natural_divide (l : Launch) (E : m_E) (sz N : Nat) (a_t : Nat) (a_t_limb : Nat) (t_limbs : Int32) (t_limb : Nat → Int32) (p1 : Int32) (ures : Int32 × (Nat → Int32)) (hF : F_Natural_divide N p1 t_limbs t_limb = some ures) : m_Met l yX4_divide cX4_divide 5 none rm_Natural_divide E (wd_Natural_divide E a_t a_t_limb t_limbs t_limb) (wd_Natural_divide E a_t a_t_limb ures.1 ures.2) sz [.ref a_t, .int p1] none := by
  refine m_ofV (by decide) (Nat.le_of_ble_eq_true rfl) ?_
  intro p e s m args below meth c A Q ls X hW hA hl hret
  obtain ⟨hx, hb, -, hown, hts, hK, -, hG⟩ := id X
  have hl : lv_has ls 5 [(0, .ref a_t), (1, .int p1)] := hl
  unfold F_Natural_divide at hF
  refine lv_iload_n hx hb dX4_divide_0 rfl (lv_at hl 1 rfl) ?_
  refine lv_if_gt (tgt := 5) hx hb dX4_divide_1 (by decide) (fun c1 => ?_) (fun c1 => ?_)
  · have hF := if_y c1 hF
    refine lv_lconst (v := (0 : Int64)) hx hb dX4_divide_5 (by decide) ?_
    refine lv_lstore_n (lv' := [(2, .long (0 : Int64)), (0, .ref a_t), (1, .int p1)]) hx hb dX4_divide_6 rfl hl (by decide) rfl (fun ls hl => ?_)
    refine lv_aload_n hx hb dX4_divide_7 rfl (lv_at hl 1 rfl) ?_
    refine m_get X hW fdX4_15 0 rfl rfl dX4_divide_8 ?_
    refine lv_iconst (v := (1 : Int32)) hx hb dX4_divide_11 (by decide) ?_
    refine lv_isub hx hb dX4_divide_12 ?_
    refine lv_istore (lv' := [(4, .int (t_limbs - (1 : Int32))), (2, .long (0 : Int64)), (0, .ref a_t), (1, .int p1)]) hx hb dX4_divide_13 hl (by decide) rfl (fun ls hl => ?_)
    obtain ⟨t_limb'_4, hX3, hF⟩ := bO_s1 hF
    have L2 : ∀ (k0 : Nat) (x2 : Int64) (x4 : Int32) (t_limb'_3 : Nat → Int32) (t_limb'_4 : Nat → Int32) (H : Heap) (locs : List Loc) (ls : Array Slot), Natural_divide_L15 p1 k0 x2 x4 t_limb'_3 = some t_limb'_4 → m_H E A (wd_Natural_divide E a_t a_t_limb t_limbs t_limb'_3) s.heap H locs → lv_has ls 5 [(4, .int x4), (2, .long x2), (0, .ref a_t), (1, .int p1)] → (∀ (H : Heap) (locs : List Loc) (ls : Array Slot), m_H E A (wd_Natural_divide E a_t a_t_limb t_limbs t_limb'_4) s.heap H locs → lv_has ls 5 [(0, .ref a_t)] → W p l e rm_Natural_divide s m args below meth c H locs 0 0 Q (F0 m 57 ls [])) → W p l e rm_Natural_divide s m args below meth c H locs 0 0 Q (F0 m 15 ls []) := by
      clear hF
      intro k0
      induction k0 with
      | zero =>
        intro x2 x4 t_limb'_3 t_limb'_4 H locs ls hF
        cases hF
      | succ k0 ih5 =>
        intro x2 x4 t_limb'_3 t_limb'_4 H locs ls hF hW hl hk4
        rw [Natural_divide_L15] at hF
        refine lv_iload hx hb dX4_divide_15 (lv_at hl 0 rfl) ?_
        refine lv_if_lt (tgt := 57) hx hb dX4_divide_17 (by decide) (fun c6 => ?_) (fun c6 => ?_)
        · have hF := if_y c6 hF
          cases hF
          exact hk4 _ _ _ hW (lv_sub hl [2] rfl)
        · have hF := if_n c6 hF
          refine lv_lload_n hx hb dX4_divide_20 rfl (lv_at hl 1 rfl) ?_
          refine lv_bipush (v := (30 : Int32)) hx hb dX4_divide_21 (by decide) ?_
          refine m_lshl hx hb dX4_divide_23 ?_
          refine lv_aload_n hx hb dX4_divide_24 rfl (lv_at hl 2 rfl) ?_
          refine m_get X hW fdX4_11 0 rfl rfl dX4_divide_25 ?_
          refine lv_iload hx hb dX4_divide_28 (lv_at hl 0 rfl) ?_
          obtain ⟨g7, hF⟩ := gd_some hF
          refine m_iald X hW 1 (k := x4.toNatClampNeg) rfl g7 rfl dX4_divide_30 ?_
          refine lv_i2l (v := (t_limb'_3 x4.toNatClampNeg).toInt64) hx hb dX4_divide_31 rfl ?_
          refine lv_ladd hx hb dX4_divide_32 ?_
          refine lv_lstore_n (lv' := [(2, .long ((jshlL x2 (30 : Int32)) + (t_limb'_3 x4.toNatClampNeg).toInt64)), (4, .int x4), (0, .ref a_t), (1, .int p1)]) hx hb dX4_divide_33 rfl hl (by decide) rfl (fun ls hl => ?_)
          refine lv_aload_n hx hb dX4_divide_34 rfl (lv_at hl 2 rfl) ?_
          refine m_get X hW fdX4_11 0 rfl rfl dX4_divide_35 ?_
          refine lv_iload hx hb dX4_divide_38 (lv_at hl 1 rfl) ?_
          refine lv_lload_n hx hb dX4_divide_40 rfl (lv_at hl 0 rfl) ?_
          refine lv_iload_n hx hb dX4_divide_41 rfl (lv_at hl 3 rfl) ?_
          refine lv_i2l (v := p1.toInt64) hx hb dX4_divide_42 rfl ?_
          obtain ⟨g8, hF⟩ := gd_some hF
          refine lv_ldiv hx hb dX4_divide_43 (nzL_ne g8) ?_
          refine lv_l2i (v := (((jshlL x2 (30 : Int32)) + (t_limb'_3 x4.toNatClampNeg).toInt64) / p1.toInt64).toInt32) hx hb dX4_divide_44 rfl ?_
          refine m_iast X hW 1 (k := x4.toNatClampNeg) rfl g7 rfl dX4_divide_45 (ws' := (wd_Natural_divide E a_t a_t_limb t_limbs (upd t_limb'_3 x4.toNatClampNeg (((jshlL x2 (30 : Int32)) + (t_limb'_3 x4.toNatClampNeg).toInt64) / p1.toInt64).toInt32))) rfl (fun H locs hW => ?_)
          refine lv_lload_n hx hb dX4_divide_46 rfl (lv_at hl 0 rfl) ?_
          refine lv_iload_n hx hb dX4_divide_47 rfl (lv_at hl 3 rfl) ?_
          refine lv_i2l (v := p1.toInt64) hx hb dX4_divide_48 rfl ?_
          refine m_lrem hx hb dX4_divide_49 (nzL_ne g8) ?_
          refine lv_lstore_n (lv' := [(2, .long (jremL ((jshlL x2 (30 : Int32)) + (t_limb'_3 x4.toNatClampNeg).toInt64) p1.toInt64)), (4, .int x4), (0, .ref a_t), (1, .int p1)]) hx hb dX4_divide_50 rfl hl (by decide) rfl (fun ls hl => ?_)
          refine lv_iinc (v := (x4 + (-1 : Int32))) (lv' := [(4, .int (x4 + (-1 : Int32))), (2, .long (jremL ((jshlL x2 (30 : Int32)) + (t_limb'_3 x4.toNatClampNeg).toInt64) p1.toInt64)), (0, .ref a_t), (1, .int p1)]) hx hb dX4_divide_51 hl (k := 1) rfl rfl (by decide) rfl (fun ls hl => ?_)
          refine lv_goto (tgt := 15) hx hb dX4_divide_54 (by decide) ?_
          exact ih5 (jremL ((jshlL x2 (30 : Int32)) + (t_limb'_3 x4.toNatClampNeg).toInt64) p1.toInt64) (x4 + (-1 : Int32)) (upd t_limb'_3 x4.toNatClampNeg (((jshlL x2 (30 : Int32)) + (t_limb'_3 x4.toNatClampNeg).toInt64) / p1.toInt64).toInt32) t_limb'_4 _ _ _ hF hW (lv_sub hl [0, 1, 2, 3] rfl) hk4
    refine L2 N (0 : Int64) (t_limbs - (1 : Int32)) t_limb t_limb'_4 _ _ _ hX3 hW (lv_sub hl [0, 1, 2, 3] rfl) ?_
    intro H locs ls hW hl
    clear L2
    refine lv_aload_n hx hb dX4_divide_57 rfl (lv_at hl 0 rfl) ?_
    obtain ⟨t_limbs'_2, hC9, hF⟩ := bO_s1 hF
    refine m_callV X hW hA hl.1 lkX4_37 (c_Natural_trim l E _ N a_t a_t_limb t_limbs t_limb'_4  t_limbs'_2 hC9) [0, 1] (by decide) rfl rfl (ws' := (wd_Natural_divide E a_t a_t_limb t_limbs'_2 t_limb'_4)) rfl 0 rfl rfl rfl (As := []) (rest := []) rfl rfl ⟨rfl, rfl, Nat.le_of_ble_eq_true rfl, Nat.le_of_ble_eq_true rfl⟩ (Nat.le_of_ble_eq_true rfl) (Nat.zero_le _) (Nat.zero_le _) dX4_divide_58 (fun H locs hW => ?_)
    clear hC9
    have hq := Option.some.inj hF
    subst hq
    exact hret _ _ _ _ hW dX4_divide_61
  · have hF := if_n c1 hF
    have hq := Option.some.inj hF
    subst hq
    exact hret _ _ _ _ hW dX4_divide_4
abbrev wd_Natural_addTimes (E : m_E) (a_t : Nat) (a_t_limb : Nat) (a_p1 : Nat) (a_p1_limb : Nat) (t_limbs : Int32) (t_limb : Nat → Int32) (p1_limbs : Int32) (p1_limb : Nat → Int32) : va_W := [(a_t, .inr (4, [.ref a_t_limb, .int t_limbs])), (a_t_limb, .inl (E.2.1 0, 40, .inl t_limb)), (a_p1, .inr (4, [.ref a_p1_limb, .int p1_limbs])), (a_p1_limb, .inl (E.2.1 0, 40, .inl p1_limb))]
def rm_Natural_addTimes : Room := { frames := 1, cells := 0, slots := 0, locals := 21 }
set_option maxHeartbeats 4000000 in
set_option maxRecDepth 100000 in
theorem c_Natural_addTimes (l : Launch) (E : m_E) (sz N : Nat) (a_t : Nat) (a_t_limb : Nat) (a_p1 : Nat) (a_p1_limb : Nat) (t_limbs : Int32) (t_limb : Nat → Int32) (p1_limbs : Int32) (p1_limb : Nat → Int32) (p2 : Int32) (ures : Int32 × (Nat → Int32)) (hF : F_Natural_addTimes N p2 t_limbs t_limb p1_limbs p1_limb = some ures) : m_Met l yX4_addTimes cX4_addTimes 8 none rm_Natural_addTimes E (wd_Natural_addTimes E a_t a_t_limb a_p1 a_p1_limb t_limbs t_limb p1_limbs p1_limb) (wd_Natural_addTimes E a_t a_t_limb a_p1 a_p1_limb ures.1 ures.2 p1_limbs p1_limb) sz [.ref a_t, .ref a_p1, .int p2] none := by
  refine m_ofV (by decide) (Nat.le_of_ble_eq_true rfl) ?_
  intro p e s m args below meth c A Q ls X hW hA hl hret
  obtain ⟨hx, hb, -, hown, hts, hK, -, hG⟩ := id X
  have hl : lv_has ls 8 [(0, .ref a_t), (1, .ref a_p1), (2, .int p2)] := hl
  unfold F_Natural_addTimes at hF
  refine lv_lconst (v := (0 : Int64)) hx hb dX4_addTimes_0 (by decide) ?_
  refine lv_lstore_n (lv' := [(3, .long (0 : Int64)), (0, .ref a_t), (1, .ref a_p1), (2, .int p2)]) hx hb dX4_addTimes_1 rfl hl (by decide) rfl (fun ls hl => ?_)
  refine lv_iconst (v := (0 : Int32)) hx hb dX4_addTimes_2 (by decide) ?_
  refine lv_istore (lv' := [(5, .int (0 : Int32)), (3, .long (0 : Int64)), (0, .ref a_t), (1, .ref a_p1), (2, .int p2)]) hx hb dX4_addTimes_3 hl (by decide) rfl (fun ls hl => ?_)
  obtain ⟨t_limb'_4, t_limbs'_5, hX2, hF⟩ := bO_s2 hF
  have L1 : ∀ (k0 : Nat) (x3 : Int64) (x5 : Int32) (t_limb'_3 : Nat → Int32) (t_limbs'_4 : Int32) (t_limb'_4 : Nat → Int32) (t_limbs'_5 : Int32) (H : Heap) (locs : List Loc) (ls : Array Slot), Natural_addTimes_L5 p1_limbs p1_limb p2 k0 x3 x5 t_limb'_3 t_limbs'_4 = some (t_limb'_4, t_limbs'_5) → m_H E A (wd_Natural_addTimes E a_t a_t_limb a_p1 a_p1_limb t_limbs'_4 t_limb'_3 p1_limbs p1_limb) s.heap H locs → lv_has ls 8 [(5, .int x5), (3, .long x3), (0, .ref a_t), (1, .ref a_p1), (2, .int p2)] → (∀ (H : Heap) (locs : List Loc) (ls : Array Slot), m_H E A (wd_Natural_addTimes E a_t a_t_limb a_p1 a_p1_limb t_limbs'_5 t_limb'_4 p1_limbs p1_limb) s.heap H locs → lv_has ls 8 [(0, .ref a_t)] → W p l e rm_Natural_addTimes s m args below meth c H locs 0 0 Q (F0 m 118 ls [])) → W p l e rm_Natural_addTimes s m args below meth c H locs 0 0 Q (F0 m 5 ls []) := by
    clear hF
    intro k0
    induction k0 with
    | zero =>
      intro x3 x5 t_limb'_3 t_limbs'_4 t_limb'_4 t_limbs'_5 H locs ls hF
      cases hF
    | succ k0 ih4 =>
      intro x3 x5 t_limb'_3 t_limbs'_4 t_limb'_4 t_limbs'_5 H locs ls hF hW hl hk3
      rw [Natural_addTimes_L5] at hF
      refine lv_iload hx hb dX4_addTimes_5 (lv_at hl 0 rfl) ?_
      refine lv_bipush (v := (40 : Int32)) hx hb dX4_addTimes_7 (by decide) ?_
      refine lv_icmp_ge (tgt := 118) hx hb dX4_addTimes_9 (by decide) (fun c5 => ?_) (fun c5 => ?_)
      · have hF := if_y c5 hF
        cases hF
        exact hk3 _ _ _ hW (lv_sub hl [2] rfl)
      · have hF := if_n c5 hF
        refine lv_iload hx hb dX4_addTimes_12 (lv_at hl 0 rfl) ?_
        refine lv_aload_n hx hb dX4_addTimes_14 rfl (lv_at hl 3 rfl) ?_
        refine m_get X hW fdX4_15 2 rfl rfl dX4_addTimes_15 ?_
        refine lv_icmp_lt (tgt := 27) hx hb dX4_addTimes_18 (by decide) (fun c6 => ?_) (fun c6 => ?_)
        · have hF := if_y c6 hF
          refine lv_lload_n hx hb dX4_addTimes_27 rfl (lv_at hl 1 rfl) ?_
          refine lv_iload hx hb dX4_addTimes_28 (lv_at hl 0 rfl) ?_
          refine lv_aload_n hx hb dX4_addTimes_30 rfl (lv_at hl 2 rfl) ?_
          refine m_get X hW fdX4_15 0 rfl rfl dX4_addTimes_31 ?_
          obtain ⟨y1, hX8, hF⟩ := bO_s1 hF
          have J7 : ∀ (H : Heap) (locs : List Loc) (ls : Array Slot), m_H E A (wd_Natural_addTimes E a_t a_t_limb a_p1 a_p1_limb t_limbs'_4 t_limb'_3 p1_limbs p1_limb) s.heap H locs → lv_has ls 8 [(5, .int x5), (0, .ref a_t), (1, .ref a_p1), (2, .int p2)] → W p l e rm_Natural_addTimes s m args below meth c H locs 0 0 Q (F0 m 48 ls [.int y1, .long x3]) := by
            intro H locs ls hW hl
            refine lv_i2l (v := y1.toInt64) hx hb dX4_addTimes_48 rfl ?_
            refine lv_ladd hx hb dX4_addTimes_49 ?_
            refine lv_lstore (lv' := [(6, .long (x3 + y1.toInt64)), (5, .int x5), (0, .ref a_t), (1, .ref a_p1), (2, .int p2)]) hx hb dX4_addTimes_50 hl (by decide) rfl (fun ls hl => ?_)
            refine lv_iload hx hb dX4_addTimes_52 (lv_at hl 1 rfl) ?_
            refine lv_aload_n hx hb dX4_addTimes_54 rfl (lv_at hl 3 rfl) ?_
            refine m_get X hW fdX4_15 2 rfl rfl dX4_addTimes_55 ?_
            obtain ⟨x6, hX10, hF⟩ := bO_s1 hF
            have J9 : ∀ (H : Heap) (locs : List Loc) (ls : Array Slot), m_H E A (wd_Natural_addTimes E a_t a_t_limb a_p1 a_p1_limb t_limbs'_4 t_limb'_3 p1_limbs p1_limb) s.heap H locs → lv_has ls 8 [(6, .long x6), (5, .int x5), (0, .ref a_t), (1, .ref a_p1), (2, .int p2)] → W p l e rm_Natural_addTimes s m args below meth c H locs 0 0 Q (F0 m 77 ls []) := by
              intro H locs ls hW hl
              refine lv_aload_n hx hb dX4_addTimes_77 rfl (lv_at hl 2 rfl) ?_
              refine m_get X hW fdX4_11 0 rfl rfl dX4_addTimes_78 ?_
              refine lv_iload hx hb dX4_addTimes_81 (lv_at hl 1 rfl) ?_
              refine lv_lload hx hb dX4_addTimes_83 (lv_at hl 0 rfl) ?_
              refine lv_ldc2 (v := (1073741823 : Int64)) hx hb hown (hts _ wk_747) dX4_addTimes_85 ?_
              refine lv_land hx hb dX4_addTimes_88 ?_
              refine lv_l2i (v := (x6 &&& (1073741823 : Int64)).toInt32) hx hb dX4_addTimes_89 rfl ?_
              obtain ⟨g11, hF⟩ := gd_some hF
              refine m_iast X hW 1 (k := x5.toNatClampNeg) rfl g11 rfl dX4_addTimes_90 (ws' := (wd_Natural_addTimes E a_t a_t_limb a_p1 a_p1_limb t_limbs'_4 (upd t_limb'_3 x5.toNatClampNeg (x6 &&& (1073741823 : Int64)).toInt32) p1_limbs p1_limb)) rfl (fun H locs hW => ?_)
              refine lv_lload hx hb dX4_addTimes_91 (lv_at hl 0 rfl) ?_
              refine lv_bipush (v := (30 : Int32)) hx hb dX4_addTimes_93 (by decide) ?_
              refine m_lshr hx hb dX4_addTimes_95 ?_
              refine lv_lstore_n (lv' := [(3, .long (jshrL x6 (30 : Int32))), (6, .long x6), (5, .int x5), (0, .ref a_t), (1, .ref a_p1), (2, .int p2)]) hx hb dX4_addTimes_96 rfl hl (by decide) rfl (fun ls hl => ?_)
              refine lv_aload_n hx hb dX4_addTimes_97 rfl (lv_at hl 3 rfl) ?_
              refine lv_aload_n hx hb dX4_addTimes_98 rfl (lv_at hl 3 rfl) ?_
              refine m_get X hW fdX4_15 0 rfl rfl dX4_addTimes_99 ?_
              refine lv_iload hx hb dX4_addTimes_102 (lv_at hl 2 rfl) ?_
              refine lv_iconst (v := (1 : Int32)) hx hb dX4_addTimes_104 (by decide) ?_
              refine lv_iadd hx hb dX4_addTimes_105 ?_
              refine va_mmax hx hb (X.2.2.1.trans hl.1.symm) hown (hts _ wk_760) (hts _ wk_592) (hts _ wk_15) (hts _ wk_593) (Nat.le_of_ble_eq_true rfl) (Nat.le_of_ble_eq_true rfl) (Nat.zero_le _) (Nat.zero_le _) dX4_addTimes_106 ?_
              refine m_putf X hW fdX4_15 0 rfl (Nat.le_of_ble_eq_true rfl) rfl rfl dX4_addTimes_109 (ws' := (wd_Natural_addTimes E a_t a_t_limb a_p1 a_p1_limb (jmax t_limbs'_4 (x5 + (1 : Int32))) (upd t_limb'_3 x5.toNatClampNeg (x6 &&& (1073741823 : Int64)).toInt32) p1_limbs p1_limb)) rfl (fun H locs hW => ?_)
              refine lv_iinc (v := (x5 + (1 : Int32))) (lv' := [(5, .int (x5 + (1 : Int32))), (3, .long (jshrL x6 (30 : Int32))), (6, .long x6), (0, .ref a_t), (1, .ref a_p1), (2, .int p2)]) hx hb dX4_addTimes_112 hl (k := 2) rfl rfl (by decide) rfl (fun ls hl => ?_)
              refine lv_goto (tgt := 5) hx hb dX4_addTimes_115 (by decide) ?_
              exact ih4 (jshrL x6 (30 : Int32)) (x5 + (1 : Int32)) (upd t_limb'_3 x5.toNatClampNeg (x6 &&& (1073741823 : Int64)).toInt32) (jmax t_limbs'_4 (x5 + (1 : Int32))) t_limb'_4 t_limbs'_5 _ _ _ hF hW (lv_sub hl [0, 1, 3, 4, 5] rfl) hk3
            clear hF
            have hF := hX10
            clear hX10
            refine lv_icmp_ge (tgt := 77) hx hb dX4_addTimes_58 (by decide) (fun c12 => ?_) (fun c12 => ?_)
            · have hF := if_y c12 hF
              cases hF
              exact J9 _ _ _ hW (lv_sub hl [0, 1, 2, 3, 4] rfl)
            · have hF := if_n c12 hF
              refine lv_lload hx hb dX4_addTimes_61 (lv_at hl 0 rfl) ?_
              refine lv_aload_n hx hb dX4_addTimes_63 rfl (lv_at hl 3 rfl) ?_
              refine m_get X hW fdX4_11 2 rfl rfl dX4_addTimes_64 ?_
              refine lv_iload hx hb dX4_addTimes_67 (lv_at hl 1 rfl) ?_
              obtain ⟨g13, hF⟩ := gd_some hF
              refine m_iald X hW 3 (k := x5.toNatClampNeg) rfl g13 rfl dX4_addTimes_69 ?_
              refine lv_i2l (v := (p1_limb x5.toNatClampNeg).toInt64) hx hb dX4_addTimes_70 rfl ?_
              refine lv_iload_n hx hb dX4_addTimes_71 rfl (lv_at hl 4 rfl) ?_
              refine lv_i2l (v := p2.toInt64) hx hb dX4_addTimes_72 rfl ?_
              refine lv_lmul hx hb dX4_addTimes_73 ?_
              refine lv_ladd hx hb dX4_addTimes_74 ?_
              refine lv_lstore (lv' := [(6, .long ((x3 + y1.toInt64) + ((p1_limb x5.toNatClampNeg).toInt64 * p2.toInt64))), (5, .int x5), (0, .ref a_t), (1, .ref a_p1), (2, .int p2)]) hx hb dX4_addTimes_75 hl (by decide) rfl (fun ls hl => ?_)
              cases hF
              exact J9 _ _ _ hW (lv_sub hl [0, 1, 2, 3, 4] rfl)
          clear hF
          have hF := hX8
          clear hX8
          refine lv_icmp_ge (tgt := 47) hx hb dX4_addTimes_34 (by decide) (fun c14 => ?_) (fun c14 => ?_)
          · have hF := if_y c14 hF
            refine lv_iconst (v := (0 : Int32)) hx hb dX4_addTimes_47 (by decide) ?_
            cases hF
            exact J7 _ _ _ hW (lv_sub hl [0, 2, 3, 4] rfl)
          · have hF := if_n c14 hF
            refine lv_aload_n hx hb dX4_addTimes_37 rfl (lv_at hl 2 rfl) ?_
            refine m_get X hW fdX4_11 0 rfl rfl dX4_addTimes_38 ?_
            refine lv_iload hx hb dX4_addTimes_41 (lv_at hl 0 rfl) ?_
            obtain ⟨g15, hF⟩ := gd_some hF
            refine m_iald X hW 1 (k := x5.toNatClampNeg) rfl g15 rfl dX4_addTimes_43 ?_
            refine lv_goto (tgt := 48) hx hb dX4_addTimes_44 (by decide) ?_
            cases hF
            exact J7 _ _ _ hW (lv_sub hl [0, 2, 3, 4] rfl)
        · have hF := if_n c6 hF
          refine lv_lload_n hx hb dX4_addTimes_21 rfl (lv_at hl 1 rfl) ?_
          refine lv_lconst (v := (0 : Int64)) hx hb dX4_addTimes_22 (by decide) ?_
          refine W.lcmp hx hb dX4_addTimes_23 ?_
          refine lv_if_le (tgt := 118) hx hb dX4_addTimes_24 (by decide) (fun c16 => ?_) (fun c16 => ?_)
          · have hF := if_y c16 hF
            cases hF
            exact hk3 _ _ _ hW (lv_sub hl [2] rfl)
          · have hF := if_n c16 hF
            refine lv_lload_n hx hb dX4_addTimes_27 rfl (lv_at hl 1 rfl) ?_
            refine lv_iload hx hb dX4_addTimes_28 (lv_at hl 0 rfl) ?_
            refine lv_aload_n hx hb dX4_addTimes_30 rfl (lv_at hl 2 rfl) ?_
            refine m_get X hW fdX4_15 0 rfl rfl dX4_addTimes_31 ?_
            obtain ⟨y1_2, hX18, hF⟩ := bO_s1 hF
            have J17 : ∀ (H : Heap) (locs : List Loc) (ls : Array Slot), m_H E A (wd_Natural_addTimes E a_t a_t_limb a_p1 a_p1_limb t_limbs'_4 t_limb'_3 p1_limbs p1_limb) s.heap H locs → lv_has ls 8 [(5, .int x5), (0, .ref a_t), (1, .ref a_p1), (2, .int p2)] → W p l e rm_Natural_addTimes s m args below meth c H locs 0 0 Q (F0 m 48 ls [.int y1_2, .long x3]) := by
              intro H locs ls hW hl
              refine lv_i2l (v := y1_2.toInt64) hx hb dX4_addTimes_48 rfl ?_
              refine lv_ladd hx hb dX4_addTimes_49 ?_
              refine lv_lstore (lv' := [(6, .long (x3 + y1_2.toInt64)), (5, .int x5), (0, .ref a_t), (1, .ref a_p1), (2, .int p2)]) hx hb dX4_addTimes_50 hl (by decide) rfl (fun ls hl => ?_)
              refine lv_iload hx hb dX4_addTimes_52 (lv_at hl 1 rfl) ?_
              refine lv_aload_n hx hb dX4_addTimes_54 rfl (lv_at hl 3 rfl) ?_
              refine m_get X hW fdX4_15 2 rfl rfl dX4_addTimes_55 ?_
              obtain ⟨x6_2, hX20, hF⟩ := bO_s1 hF
              have J19 : ∀ (H : Heap) (locs : List Loc) (ls : Array Slot), m_H E A (wd_Natural_addTimes E a_t a_t_limb a_p1 a_p1_limb t_limbs'_4 t_limb'_3 p1_limbs p1_limb) s.heap H locs → lv_has ls 8 [(6, .long x6_2), (5, .int x5), (0, .ref a_t), (1, .ref a_p1), (2, .int p2)] → W p l e rm_Natural_addTimes s m args below meth c H locs 0 0 Q (F0 m 77 ls []) := by
                intro H locs ls hW hl
                refine lv_aload_n hx hb dX4_addTimes_77 rfl (lv_at hl 2 rfl) ?_
                refine m_get X hW fdX4_11 0 rfl rfl dX4_addTimes_78 ?_
                refine lv_iload hx hb dX4_addTimes_81 (lv_at hl 1 rfl) ?_
                refine lv_lload hx hb dX4_addTimes_83 (lv_at hl 0 rfl) ?_
                refine lv_ldc2 (v := (1073741823 : Int64)) hx hb hown (hts _ wk_747) dX4_addTimes_85 ?_
                refine lv_land hx hb dX4_addTimes_88 ?_
                refine lv_l2i (v := (x6_2 &&& (1073741823 : Int64)).toInt32) hx hb dX4_addTimes_89 rfl ?_
                obtain ⟨g21, hF⟩ := gd_some hF
                refine m_iast X hW 1 (k := x5.toNatClampNeg) rfl g21 rfl dX4_addTimes_90 (ws' := (wd_Natural_addTimes E a_t a_t_limb a_p1 a_p1_limb t_limbs'_4 (upd t_limb'_3 x5.toNatClampNeg (x6_2 &&& (1073741823 : Int64)).toInt32) p1_limbs p1_limb)) rfl (fun H locs hW => ?_)
                refine lv_lload hx hb dX4_addTimes_91 (lv_at hl 0 rfl) ?_
                refine lv_bipush (v := (30 : Int32)) hx hb dX4_addTimes_93 (by decide) ?_
                refine m_lshr hx hb dX4_addTimes_95 ?_
                refine lv_lstore_n (lv' := [(3, .long (jshrL x6_2 (30 : Int32))), (6, .long x6_2), (5, .int x5), (0, .ref a_t), (1, .ref a_p1), (2, .int p2)]) hx hb dX4_addTimes_96 rfl hl (by decide) rfl (fun ls hl => ?_)
                refine lv_aload_n hx hb dX4_addTimes_97 rfl (lv_at hl 3 rfl) ?_
                refine lv_aload_n hx hb dX4_addTimes_98 rfl (lv_at hl 3 rfl) ?_
                refine m_get X hW fdX4_15 0 rfl rfl dX4_addTimes_99 ?_
                refine lv_iload hx hb dX4_addTimes_102 (lv_at hl 2 rfl) ?_
                refine lv_iconst (v := (1 : Int32)) hx hb dX4_addTimes_104 (by decide) ?_
                refine lv_iadd hx hb dX4_addTimes_105 ?_
                refine va_mmax hx hb (X.2.2.1.trans hl.1.symm) hown (hts _ wk_760) (hts _ wk_592) (hts _ wk_15) (hts _ wk_593) (Nat.le_of_ble_eq_true rfl) (Nat.le_of_ble_eq_true rfl) (Nat.zero_le _) (Nat.zero_le _) dX4_addTimes_106 ?_
                refine m_putf X hW fdX4_15 0 rfl (Nat.le_of_ble_eq_true rfl) rfl rfl dX4_addTimes_109 (ws' := (wd_Natural_addTimes E a_t a_t_limb a_p1 a_p1_limb (jmax t_limbs'_4 (x5 + (1 : Int32))) (upd t_limb'_3 x5.toNatClampNeg (x6_2 &&& (1073741823 : Int64)).toInt32) p1_limbs p1_limb)) rfl (fun H locs hW => ?_)
                refine lv_iinc (v := (x5 + (1 : Int32))) (lv' := [(5, .int (x5 + (1 : Int32))), (3, .long (jshrL x6_2 (30 : Int32))), (6, .long x6_2), (0, .ref a_t), (1, .ref a_p1), (2, .int p2)]) hx hb dX4_addTimes_112 hl (k := 2) rfl rfl (by decide) rfl (fun ls hl => ?_)
                refine lv_goto (tgt := 5) hx hb dX4_addTimes_115 (by decide) ?_
                exact ih4 (jshrL x6_2 (30 : Int32)) (x5 + (1 : Int32)) (upd t_limb'_3 x5.toNatClampNeg (x6_2 &&& (1073741823 : Int64)).toInt32) (jmax t_limbs'_4 (x5 + (1 : Int32))) t_limb'_4 t_limbs'_5 _ _ _ hF hW (lv_sub hl [0, 1, 3, 4, 5] rfl) hk3
              clear hF
              have hF := hX20
              clear hX20
              refine lv_icmp_ge (tgt := 77) hx hb dX4_addTimes_58 (by decide) (fun c22 => ?_) (fun c22 => ?_)
              · have hF := if_y c22 hF
                cases hF
                exact J19 _ _ _ hW (lv_sub hl [0, 1, 2, 3, 4] rfl)
              · have hF := if_n c22 hF
                refine lv_lload hx hb dX4_addTimes_61 (lv_at hl 0 rfl) ?_
                refine lv_aload_n hx hb dX4_addTimes_63 rfl (lv_at hl 3 rfl) ?_
                refine m_get X hW fdX4_11 2 rfl rfl dX4_addTimes_64 ?_
                refine lv_iload hx hb dX4_addTimes_67 (lv_at hl 1 rfl) ?_
                obtain ⟨g23, hF⟩ := gd_some hF
                refine m_iald X hW 3 (k := x5.toNatClampNeg) rfl g23 rfl dX4_addTimes_69 ?_
                refine lv_i2l (v := (p1_limb x5.toNatClampNeg).toInt64) hx hb dX4_addTimes_70 rfl ?_
                refine lv_iload_n hx hb dX4_addTimes_71 rfl (lv_at hl 4 rfl) ?_
                refine lv_i2l (v := p2.toInt64) hx hb dX4_addTimes_72 rfl ?_
                refine lv_lmul hx hb dX4_addTimes_73 ?_
                refine lv_ladd hx hb dX4_addTimes_74 ?_
                refine lv_lstore (lv' := [(6, .long ((x3 + y1_2.toInt64) + ((p1_limb x5.toNatClampNeg).toInt64 * p2.toInt64))), (5, .int x5), (0, .ref a_t), (1, .ref a_p1), (2, .int p2)]) hx hb dX4_addTimes_75 hl (by decide) rfl (fun ls hl => ?_)
                cases hF
                exact J19 _ _ _ hW (lv_sub hl [0, 1, 2, 3, 4] rfl)
            clear hF
            have hF := hX18
            clear hX18
            refine lv_icmp_ge (tgt := 47) hx hb dX4_addTimes_34 (by decide) (fun c24 => ?_) (fun c24 => ?_)
            · have hF := if_y c24 hF
              refine lv_iconst (v := (0 : Int32)) hx hb dX4_addTimes_47 (by decide) ?_
              cases hF
              exact J17 _ _ _ hW (lv_sub hl [0, 2, 3, 4] rfl)
            · have hF := if_n c24 hF
              refine lv_aload_n hx hb dX4_addTimes_37 rfl (lv_at hl 2 rfl) ?_
              refine m_get X hW fdX4_11 0 rfl rfl dX4_addTimes_38 ?_
              refine lv_iload hx hb dX4_addTimes_41 (lv_at hl 0 rfl) ?_
              obtain ⟨g25, hF⟩ := gd_some hF
              refine m_iald X hW 1 (k := x5.toNatClampNeg) rfl g25 rfl dX4_addTimes_43 ?_
              refine lv_goto (tgt := 48) hx hb dX4_addTimes_44 (by decide) ?_
              cases hF
              exact J17 _ _ _ hW (lv_sub hl [0, 2, 3, 4] rfl)
  refine L1 N (0 : Int64) (0 : Int32) t_limb t_limbs t_limb'_4 t_limbs'_5 _ _ _ hX2 hW (lv_sub hl [0, 1, 2, 3, 4] rfl) ?_
  intro H locs ls hW hl
  clear L1
  refine lv_aload_n hx hb dX4_addTimes_118 rfl (lv_at hl 0 rfl) ?_
  obtain ⟨t_limbs'_6, hC26, hF⟩ := bO_s1 hF
  refine m_callV X hW hA hl.1 lkX4_37 (c_Natural_trim l E _ N a_t a_t_limb t_limbs'_5 t_limb'_4  t_limbs'_6 hC26) [0, 1] (by decide) rfl rfl (ws' := (wd_Natural_addTimes E a_t a_t_limb a_p1 a_p1_limb t_limbs'_6 t_limb'_4 p1_limbs p1_limb)) rfl 0 rfl rfl rfl (As := []) (rest := []) rfl rfl ⟨rfl, rfl, Nat.le_of_ble_eq_true rfl, Nat.le_of_ble_eq_true rfl⟩ (Nat.le_of_ble_eq_true rfl) (Nat.zero_le _) (Nat.zero_le _) dX4_addTimes_119 (fun H locs hW => ?_)
  clear hC26
  have hq := Option.some.inj hF
  subst hq
  exact hret _ _ _ _ hW dX4_addTimes_122
abbrev wd_Natural_remainder (E : m_E) (a_t : Nat) (a_t_limb : Nat) (t_limbs : Int32) (t_limb : Nat → Int32) : va_W := [(a_t, .inr (4, [.ref a_t_limb, .int t_limbs])), (a_t_limb, .inl (E.2.1 0, 40, .inl t_limb))]
def rm_Natural_remainder : Room := { frames := 0, cells := 0, slots := 0, locals := 0 }
set_option maxHeartbeats 4000000 in
set_option maxRecDepth 100000 in
theorem c_Natural_remainder (l : Launch) (E : m_E) (sz N : Nat) (a_t : Nat) (a_t_limb : Nat) (t_limbs : Int32) (t_limb : Nat → Int32) (p1 : Int32) (ures : Int32) (hF : F_Natural_remainder N p1 t_limbs t_limb = some ures) : m_Met l yX4_remainder cX4_remainder 5 (some .int) rm_Natural_remainder E (wd_Natural_remainder E a_t a_t_limb t_limbs t_limb) (wd_Natural_remainder E a_t a_t_limb t_limbs t_limb) sz [.ref a_t, .int p1] (some (.int ures)) := by
  refine m_ofI (by decide) (Nat.le_of_ble_eq_true rfl) ?_
  intro p e s m args below meth c A Q ls X hW hA hl hret
  obtain ⟨hx, hb, -, hown, hts, hK, -, hG⟩ := id X
  have hl : lv_has ls 5 [(0, .ref a_t), (1, .int p1)] := hl
  unfold F_Natural_remainder at hF
  refine lv_iload_n hx hb dX4_remainder_0 rfl (lv_at hl 1 rfl) ?_
  refine lv_if_gt (tgt := 6) hx hb dX4_remainder_1 (by decide) (fun c1 => ?_) (fun c1 => ?_)
  · have hF := if_y c1 hF
    refine lv_lconst (v := (0 : Int64)) hx hb dX4_remainder_6 (by decide) ?_
    refine lv_lstore_n (lv' := [(2, .long (0 : Int64)), (0, .ref a_t), (1, .int p1)]) hx hb dX4_remainder_7 rfl hl (by decide) rfl (fun ls hl => ?_)
    refine lv_aload_n hx hb dX4_remainder_8 rfl (lv_at hl 1 rfl) ?_
    refine m_get X hW fdX4_15 0 rfl rfl dX4_remainder_9 ?_
    refine lv_iconst (v := (1 : Int32)) hx hb dX4_remainder_12 (by decide) ?_
    refine lv_isub hx hb dX4_remainder_13 ?_
    refine lv_istore (lv' := [(4, .int (t_limbs - (1 : Int32))), (2, .long (0 : Int64)), (0, .ref a_t), (1, .int p1)]) hx hb dX4_remainder_14 hl (by decide) rfl (fun ls hl => ?_)
    obtain ⟨x2_2, hX3, hF⟩ := bO_s1 hF
    have L2 : ∀ (k0 : Nat) (x2 : Int64) (x4 : Int32) (x2_2 : Int64) (H : Heap) (locs : List Loc) (ls : Array Slot), Natural_remainder_L16 p1 t_limb k0 x2 x4 = some x2_2 → m_H E A (wd_Natural_remainder E a_t a_t_limb t_limbs t_limb) s.heap H locs → lv_has ls 5 [(4, .int x4), (2, .long x2), (0, .ref a_t), (1, .int p1)] → (∀ (H : Heap) (locs : List Loc) (ls : Array Slot), m_H E A (wd_Natural_remainder E a_t a_t_limb t_limbs t_limb) s.heap H locs → lv_has ls 5 [(2, .long x2_2)] → W p l e rm_Natural_remainder s m args below meth c H locs 0 0 Q (F0 m 44 ls [])) → W p l e rm_Natural_remainder s m args below meth c H locs 0 0 Q (F0 m 16 ls []) := by
      clear hF
      intro k0
      induction k0 with
      | zero =>
        intro x2 x4 x2_2 H locs ls hF
        cases hF
      | succ k0 ih5 =>
        intro x2 x4 x2_2 H locs ls hF hW hl hk4
        rw [Natural_remainder_L16] at hF
        refine lv_iload hx hb dX4_remainder_16 (lv_at hl 0 rfl) ?_
        refine lv_if_lt (tgt := 44) hx hb dX4_remainder_18 (by decide) (fun c6 => ?_) (fun c6 => ?_)
        · have hF := if_y c6 hF
          cases hF
          exact hk4 _ _ _ hW (lv_sub hl [1] rfl)
        · have hF := if_n c6 hF
          refine lv_lload_n hx hb dX4_remainder_21 rfl (lv_at hl 1 rfl) ?_
          refine lv_bipush (v := (30 : Int32)) hx hb dX4_remainder_22 (by decide) ?_
          refine m_lshl hx hb dX4_remainder_24 ?_
          refine lv_aload_n hx hb dX4_remainder_25 rfl (lv_at hl 2 rfl) ?_
          refine m_get X hW fdX4_11 0 rfl rfl dX4_remainder_26 ?_
          refine lv_iload hx hb dX4_remainder_29 (lv_at hl 0 rfl) ?_
          obtain ⟨g7, hF⟩ := gd_some hF
          refine m_iald X hW 1 (k := x4.toNatClampNeg) rfl g7 rfl dX4_remainder_31 ?_
          refine lv_i2l (v := (t_limb x4.toNatClampNeg).toInt64) hx hb dX4_remainder_32 rfl ?_
          refine lv_ladd hx hb dX4_remainder_33 ?_
          refine lv_iload_n hx hb dX4_remainder_34 rfl (lv_at hl 3 rfl) ?_
          refine lv_i2l (v := p1.toInt64) hx hb dX4_remainder_35 rfl ?_
          obtain ⟨g8, hF⟩ := gd_some hF
          refine m_lrem hx hb dX4_remainder_36 (nzL_ne g8) ?_
          refine lv_lstore_n (lv' := [(2, .long (jremL ((jshlL x2 (30 : Int32)) + (t_limb x4.toNatClampNeg).toInt64) p1.toInt64)), (4, .int x4), (0, .ref a_t), (1, .int p1)]) hx hb dX4_remainder_37 rfl hl (by decide) rfl (fun ls hl => ?_)
          refine lv_iinc (v := (x4 + (-1 : Int32))) (lv' := [(4, .int (x4 + (-1 : Int32))), (2, .long (jremL ((jshlL x2 (30 : Int32)) + (t_limb x4.toNatClampNeg).toInt64) p1.toInt64)), (0, .ref a_t), (1, .int p1)]) hx hb dX4_remainder_38 hl (k := 1) rfl rfl (by decide) rfl (fun ls hl => ?_)
          refine lv_goto (tgt := 16) hx hb dX4_remainder_41 (by decide) ?_
          exact ih5 (jremL ((jshlL x2 (30 : Int32)) + (t_limb x4.toNatClampNeg).toInt64) p1.toInt64) (x4 + (-1 : Int32)) x2_2 _ _ _ hF hW (lv_sub hl [0, 1, 2, 3] rfl) hk4
    refine L2 N (0 : Int64) (t_limbs - (1 : Int32)) x2_2 _ _ _ hX3 hW (lv_sub hl [0, 1, 2, 3] rfl) ?_
    intro H locs ls hW hl
    clear L2
    refine lv_lload_n hx hb dX4_remainder_44 rfl (lv_at hl 0 rfl) ?_
    refine lv_l2i (v := x2_2.toInt32) hx hb dX4_remainder_45 rfl ?_
    have hq := Option.some.inj hF
    subst hq
    exact hret _ _ _ _ hW dX4_remainder_46
  · have hF := if_n c1 hF
    refine lv_iconst (v := (0 : Int32)) hx hb dX4_remainder_4 (by decide) ?_
    have hq := Option.some.inj hF
    subst hq
    exact hret _ _ _ _ hW dX4_remainder_5
abbrev wd_Fraction_isDividedBy (E : m_E) (a_t : Nat) (a_t_above : Nat) (a_t_above_limb : Nat) (a_t_below : Nat) (a_t_below_limb : Nat) (t_above_limbs : Int32) (t_above_limb : Nat → Int32) (t_below_limbs : Int32) (t_below_limb : Nat → Int32) : va_W := [(a_t, .inr (2, [.ref a_t_above, .ref a_t_below])), (a_t_above, .inr (4, [.ref a_t_above_limb, .int t_above_limbs])), (a_t_above_limb, .inl (E.2.1 0, 40, .inl t_above_limb)), (a_t_below, .inr (4, [.ref a_t_below_limb, .int t_below_limbs])), (a_t_below_limb, .inl (E.2.1 0, 40, .inl t_below_limb))]
def rm_Fraction_isDividedBy : Room := { frames := 1, cells := 0, slots := 0, locals := 24 }
set_option maxHeartbeats 4000000 in
set_option maxRecDepth 100000 in
theorem c_Fraction_isDividedBy (l : Launch) (E : m_E) (sz N : Nat) (a_t : Nat) (a_t_above : Nat) (a_t_above_limb : Nat) (a_t_below : Nat) (a_t_below_limb : Nat) (t_above_limbs : Int32) (t_above_limb : Nat → Int32) (t_below_limbs : Int32) (t_below_limb : Nat → Int32) (p1 : Int32) (ures : Int32) (hF : F_Fraction_isDividedBy N p1 t_above_limbs t_above_limb t_below_limbs t_below_limb = some ures) : m_Met l yX2_isDividedBy cX2_isDividedBy 2 (some .boolean) rm_Fraction_isDividedBy E (wd_Fraction_isDividedBy E a_t a_t_above a_t_above_limb a_t_below a_t_below_limb t_above_limbs t_above_limb t_below_limbs t_below_limb) (wd_Fraction_isDividedBy E a_t a_t_above a_t_above_limb a_t_below a_t_below_limb t_above_limbs t_above_limb t_below_limbs t_below_limb) sz [.ref a_t, .int p1] (some (.int ures)) := by
  refine m_ofZ (by decide) (Nat.le_of_ble_eq_true rfl) ?_
  intro p e s m args below meth c A Q ls X hW hA hl hret
  obtain ⟨hx, hb, -, hown, hts, hK, -, hG⟩ := id X
  have hl : lv_has ls 2 [(0, .ref a_t), (1, .int p1)] := hl
  unfold F_Fraction_isDividedBy at hF
  refine lv_aload_n hx hb dX2_isDividedBy_0 rfl (lv_at hl 0 rfl) ?_
  refine m_get X hW fdX2_16 0 rfl rfl dX2_isDividedBy_1 ?_
  refine lv_iload_n hx hb dX2_isDividedBy_4 rfl (lv_at hl 1 rfl) ?_
  obtain ⟨r5, hC1, hF⟩ := bO_s1 hF
  refine m_callV X hW hA hl.1 lkX2_41 (c_Natural_remainder l E _ N a_t_below a_t_below_limb t_below_limbs t_below_limb p1 r5 hC1) [3, 4] (by decide) rfl rfl (ws' := (wd_Fraction_isDividedBy E a_t a_t_above a_t_above_limb a_t_below a_t_below_limb t_above_limbs t_above_limb t_below_limbs t_below_limb)) rfl 3 rfl rfl rfl (As := [.int p1]) (rest := []) rfl rfl ⟨rfl, rfl, Nat.le_of_ble_eq_true rfl, Nat.le_of_ble_eq_true rfl⟩ (Nat.le_of_ble_eq_true rfl) (Nat.zero_le _) (Nat.zero_le _) dX2_isDividedBy_5 (fun H locs hW => ?_)
  clear hC1
  refine lv_if_ne (tgt := 26) hx hb dX2_isDividedBy_8 (by decide) (fun c2 => ?_) (fun c2 => ?_)
  · have hF := if_n c2 hF
    refine lv_iconst (v := (0 : Int32)) hx hb dX2_isDividedBy_26 (by decide) ?_
    have hq := Option.some.inj hF
    subst hq
    exact hret _ _ _ _ _ rfl hW dX2_isDividedBy_27
  · have hF := if_y c2 hF
    refine lv_aload_n hx hb dX2_isDividedBy_11 rfl (lv_at hl 0 rfl) ?_
    refine m_get X hW fdX2_10 0 rfl rfl dX2_isDividedBy_12 ?_
    refine lv_iload_n hx hb dX2_isDividedBy_15 rfl (lv_at hl 1 rfl) ?_
    obtain ⟨r16, hC3, hF⟩ := bO_s1 hF
    refine m_callV X hW hA hl.1 lkX2_41 (c_Natural_remainder l E _ N a_t_above a_t_above_limb t_above_limbs t_above_limb p1 r16 hC3) [1, 2] (by decide) rfl rfl (ws' := (wd_Fraction_isDividedBy E a_t a_t_above a_t_above_limb a_t_below a_t_below_limb t_above_limbs t_above_limb t_below_limbs t_below_limb)) rfl 1 rfl rfl rfl (As := [.int p1]) (rest := []) rfl rfl ⟨rfl, rfl, Nat.le_of_ble_eq_true rfl, Nat.le_of_ble_eq_true rfl⟩ (Nat.le_of_ble_eq_true rfl) (Nat.zero_le _) (Nat.zero_le _) dX2_isDividedBy_16 (fun H locs hW => ?_)
    clear hC3
    refine lv_if_ne (tgt := 26) hx hb dX2_isDividedBy_19 (by decide) (fun c4 => ?_) (fun c4 => ?_)
    · have hF := if_n c4 hF
      refine lv_iconst (v := (0 : Int32)) hx hb dX2_isDividedBy_26 (by decide) ?_
      have hq := Option.some.inj hF
      subst hq
      exact hret _ _ _ _ _ rfl hW dX2_isDividedBy_27
    · have hF := if_y c4 hF
      refine lv_iconst (v := (1 : Int32)) hx hb dX2_isDividedBy_22 (by decide) ?_
      refine lv_goto (tgt := 27) hx hb dX2_isDividedBy_23 (by decide) ?_
      have hq := Option.some.inj hF
      subst hq
      exact hret _ _ _ _ _ rfl hW dX2_isDividedBy_27
abbrev wd_Fraction_toLowestTerms (E : m_E) (a_t : Nat) (a_t_above : Nat) (a_t_above_limb : Nat) (a_t_below : Nat) (a_t_below_limb : Nat) (t_above_limbs : Int32) (t_above_limb : Nat → Int32) (t_below_limbs : Int32) (t_below_limb : Nat → Int32) : va_W := [(a_t, .inr (2, [.ref a_t_above, .ref a_t_below])), (a_t_above, .inr (4, [.ref a_t_above_limb, .int t_above_limbs])), (a_t_above_limb, .inl (E.2.1 0, 40, .inl t_above_limb)), (a_t_below, .inr (4, [.ref a_t_below_limb, .int t_below_limbs])), (a_t_below_limb, .inl (E.2.1 0, 40, .inl t_below_limb))]
def rm_Fraction_toLowestTerms : Room := { frames := 2, cells := 0, slots := 0, locals := 45 }
set_option maxHeartbeats 4000000 in
set_option maxRecDepth 100000 in
theorem c_Fraction_toLowestTerms (l : Launch) (E : m_E) (sz N : Nat) (a_t : Nat) (a_t_above : Nat) (a_t_above_limb : Nat) (a_t_below : Nat) (a_t_below_limb : Nat) (t_above_limbs : Int32) (t_above_limb : Nat → Int32) (t_below_limbs : Int32) (t_below_limb : Nat → Int32)  (ures : Int32 × (Nat → Int32) × Int32 × (Nat → Int32)) (hF : F_Fraction_toLowestTerms N t_above_limbs t_above_limb t_below_limbs t_below_limb = some ures) : m_Met l yX2_toLowestTerms cX2_toLowestTerms 3 none rm_Fraction_toLowestTerms E (wd_Fraction_toLowestTerms E a_t a_t_above a_t_above_limb a_t_below a_t_below_limb t_above_limbs t_above_limb t_below_limbs t_below_limb) (wd_Fraction_toLowestTerms E a_t a_t_above a_t_above_limb a_t_below a_t_below_limb ures.1 ures.2.1 ures.2.2.1 ures.2.2.2) sz [.ref a_t] none := by
  refine m_ofV (by decide) (Nat.le_of_ble_eq_true rfl) ?_
  intro p e s m args below meth c A Q ls X hW hA hl hret
  obtain ⟨hx, hb, -, hown, hts, hK, -, hG⟩ := id X
  have hl : lv_has ls 3 [(0, .ref a_t)] := hl
  unfold F_Fraction_toLowestTerms at hF
  refine lv_aload_n hx hb dX2_toLowestTerms_0 rfl (lv_at hl 0 rfl) ?_
  refine m_get X hW fdX2_10 0 rfl rfl dX2_toLowestTerms_1 ?_
  refine m_get X hW fdX2_23 1 rfl rfl dX2_toLowestTerms_4 ?_
  refine lv_if_ne (tgt := 19) hx hb dX2_toLowestTerms_7 (by decide) (fun c1 => ?_) (fun c1 => ?_)
  · have hF := if_n c1 hF
    refine lv_iconst (v := (2 : Int32)) hx hb dX2_toLowestTerms_19 (by decide) ?_
    refine lv_istore_n (lv' := [(1, .int (2 : Int32)), (0, .ref a_t)]) hx hb dX2_toLowestTerms_20 rfl hl (by decide) rfl (fun ls hl => ?_)
    obtain ⟨t_above_limb'_10, t_above_limbs'_10, t_below_limb'_12, t_below_limbs'_12, hX3, hF⟩ := bO_s4 hF
    have L2 : ∀ (k0 : Nat) (x1 : Int32) (t_above_limb'_6 : Nat → Int32) (t_above_limbs'_6 : Int32) (t_below_limb'_8 : Nat → Int32) (t_below_limbs'_8 : Int32) (t_above_limb'_10 : Nat → Int32) (t_above_limbs'_10 : Int32) (t_below_limb'_12 : Nat → Int32) (t_below_limbs'_12 : Int32) (H : Heap) (locs : List Loc) (ls : Array Slot), Fraction_toLowestTerms_L21 N k0 x1 t_above_limb'_6 t_above_limbs'_6 t_below_limb'_8 t_below_limbs'_8 = some (t_above_limb'_10, t_above_limbs'_10, t_below_limb'_12, t_below_limbs'_12) → m_H E A (wd_Fraction_toLowestTerms E a_t a_t_above a_t_above_limb a_t_below a_t_below_limb t_above_limbs'_6 t_above_limb'_6 t_below_limbs'_8 t_below_limb'_8) s.heap H locs → lv_has ls 3 [(1, .int x1), (0, .ref a_t)] → (∀ (H : Heap) (locs : List Loc) (ls : Array Slot), m_H E A (wd_Fraction_toLowestTerms E a_t a_t_above a_t_above_limb a_t_below a_t_below_limb t_above_limbs'_10 t_above_limb'_10 t_below_limbs'_12 t_below_limb'_12) s.heap H locs → lv_has ls 3 [] → W p l e rm_Fraction_toLowestTerms s m args below meth c H locs 0 0 Q (F0 m 73 ls [])) → W p l e rm_Fraction_toLowestTerms s m args below meth c H locs 0 0 Q (F0 m 21 ls []) := by
      clear hF
      intro k0
      induction k0 with
      | zero =>
        intro x1 t_above_limb'_6 t_above_limbs'_6 t_below_limb'_8 t_below_limbs'_8 t_above_limb'_10 t_above_limbs'_10 t_below_limb'_12 t_below_limbs'_12 H locs ls hF
        cases hF
      | succ k0 ih5 =>
        intro x1 t_above_limb'_6 t_above_limbs'_6 t_below_limb'_8 t_below_limbs'_8 t_above_limb'_10 t_above_limbs'_10 t_below_limb'_12 t_below_limbs'_12 H locs ls hF hW hl hk4
        rw [Fraction_toLowestTerms_L21] at hF
        refine lv_iload_n hx hb dX2_toLowestTerms_21 rfl (lv_at hl 0 rfl) ?_
        refine lv_sipush (v := (180 : Int32)) hx hb dX2_toLowestTerms_22 (by decide) ?_
        refine lv_icmp_gt (tgt := 73) hx hb dX2_toLowestTerms_25 (by decide) (fun c6 => ?_) (fun c6 => ?_)
        · have hF := if_y c6 hF
          cases hF
          exact hk4 _ _ _ hW (lv_sub hl [] rfl)
        · have hF := if_n c6 hF
          refine lv_iconst (v := (0 : Int32)) hx hb dX2_toLowestTerms_28 (by decide) ?_
          refine lv_istore_n (lv' := [(2, .int (0 : Int32)), (1, .int x1), (0, .ref a_t)]) hx hb dX2_toLowestTerms_29 rfl hl (by decide) rfl (fun ls hl => ?_)
          obtain ⟨t_above_limb'_9, t_above_limbs'_9, t_below_limb'_11, t_below_limbs'_11, hX8, hF⟩ := bO_s4 hF
          have L7 : ∀ (k0 : Nat) (x2 : Int32) (t_above_limb'_7 : Nat → Int32) (t_above_limbs'_7 : Int32) (t_below_limb'_9 : Nat → Int32) (t_below_limbs'_9 : Int32) (t_above_limb'_9 : Nat → Int32) (t_above_limbs'_9 : Int32) (t_below_limb'_11 : Nat → Int32) (t_below_limbs'_11 : Int32) (H : Heap) (locs : List Loc) (ls : Array Slot), Fraction_toLowestTerms_L30 N x1 k0 x2 t_above_limb'_7 t_above_limbs'_7 t_below_limb'_9 t_below_limbs'_9 = some (t_above_limb'_9, t_above_limbs'_9, t_below_limb'_11, t_below_limbs'_11) → m_H E A (wd_Fraction_toLowestTerms E a_t a_t_above a_t_above_limb a_t_below a_t_below_limb t_above_limbs'_7 t_above_limb'_7 t_below_limbs'_9 t_below_limb'_9) s.heap H locs → lv_has ls 3 [(2, .int x2), (1, .int x1), (0, .ref a_t)] → (∀ (H : Heap) (locs : List Loc) (ls : Array Slot), m_H E A (wd_Fraction_toLowestTerms E a_t a_t_above a_t_above_limb a_t_below a_t_below_limb t_above_limbs'_9 t_above_limb'_9 t_below_limbs'_11 t_below_limb'_11) s.heap H locs → lv_has ls 3 [(1, .int x1), (0, .ref a_t)] → W p l e rm_Fraction_toLowestTerms s m args below meth c H locs 0 0 Q (F0 m 67 ls [])) → W p l e rm_Fraction_toLowestTerms s m args below meth c H locs 0 0 Q (F0 m 30 ls []) := by
            clear hF
            intro k0
            induction k0 with
            | zero =>
              intro x2 t_above_limb'_7 t_above_limbs'_7 t_below_limb'_9 t_below_limbs'_9 t_above_limb'_9 t_above_limbs'_9 t_below_limb'_11 t_below_limbs'_11 H locs ls hF
              cases hF
            | succ k0 ih10 =>
              intro x2 t_above_limb'_7 t_above_limbs'_7 t_below_limb'_9 t_below_limbs'_9 t_above_limb'_9 t_above_limbs'_9 t_below_limb'_11 t_below_limbs'_11 H locs ls hF hW hl hk9
              rw [Fraction_toLowestTerms_L30] at hF
              refine lv_iload_n hx hb dX2_toLowestTerms_30 rfl (lv_at hl 0 rfl) ?_
              refine lv_sipush (v := (1200 : Int32)) hx hb dX2_toLowestTerms_31 (by decide) ?_
              refine lv_icmp_ge (tgt := 67) hx hb dX2_toLowestTerms_34 (by decide) (fun c11 => ?_) (fun c11 => ?_)
              · have hF := if_y c11 hF
                cases hF
                exact hk9 _ _ _ hW (lv_sub hl [1, 2] rfl)
              · have hF := if_n c11 hF
                refine lv_aload_n hx hb dX2_toLowestTerms_37 rfl (lv_at hl 2 rfl) ?_
                refine lv_iload_n hx hb dX2_toLowestTerms_38 rfl (lv_at hl 1 rfl) ?_
                obtain ⟨r39, hC12, hF⟩ := bO_s1 hF
                refine m_callV X hW hA hl.1 lkX2_34 (c_Fraction_isDividedBy l E _ N a_t a_t_above a_t_above_limb a_t_below a_t_below_limb t_above_limbs'_7 t_above_limb'_7 t_below_limbs'_9 t_below_limb'_9 x1 r39 hC12) [0, 1, 2, 3, 4] (by decide) rfl rfl (ws' := (wd_Fraction_toLowestTerms E a_t a_t_above a_t_above_limb a_t_below a_t_below_limb t_above_limbs'_7 t_above_limb'_7 t_below_limbs'_9 t_below_limb'_9)) rfl 0 rfl rfl rfl (As := [.int x1]) (rest := []) rfl rfl ⟨rfl, rfl, Nat.le_of_ble_eq_true rfl, Nat.le_of_ble_eq_true rfl⟩ (Nat.le_of_ble_eq_true rfl) (Nat.zero_le _) (Nat.zero_le _) dX2_toLowestTerms_39 (fun H locs hW => ?_)
                clear hC12
                refine lv_if_eq (tgt := 67) hx hb dX2_toLowestTerms_42 (by decide) (fun c13 => ?_) (fun c13 => ?_)
                · have hF := if_y c13 hF
                  cases hF
                  exact hk9 _ _ _ hW (lv_sub hl [1, 2] rfl)
                · have hF := if_n c13 hF
                  refine lv_aload_n hx hb dX2_toLowestTerms_45 rfl (lv_at hl 2 rfl) ?_
                  refine m_get X hW fdX2_10 0 rfl rfl dX2_toLowestTerms_46 ?_
                  refine lv_iload_n hx hb dX2_toLowestTerms_49 rfl (lv_at hl 1 rfl) ?_
                  obtain ⟨t_above_limbs'_8, t_above_limb'_8, hC14, hF⟩ := bO_s2 hF
                  refine m_callV X hW hA hl.1 lkX2_38 (c_Natural_divide l E _ N a_t_above a_t_above_limb t_above_limbs'_7 t_above_limb'_7 x1 (t_above_limbs'_8, t_above_limb'_8) hC14) [1, 2] (by decide) rfl rfl (ws' := (wd_Fraction_toLowestTerms E a_t a_t_above a_t_above_limb a_t_below a_t_below_limb t_above_limbs'_8 t_above_limb'_8 t_below_limbs'_9 t_below_limb'_9)) rfl 1 rfl rfl rfl (As := [.int x1]) (rest := []) rfl rfl ⟨rfl, rfl, Nat.le_of_ble_eq_true rfl, Nat.le_of_ble_eq_true rfl⟩ (Nat.le_of_ble_eq_true rfl) (Nat.zero_le _) (Nat.zero_le _) dX2_toLowestTerms_50 (fun H locs hW => ?_)
                  clear hC14
                  refine lv_aload_n hx hb dX2_toLowestTerms_53 rfl (lv_at hl 2 rfl) ?_
                  refine m_get X hW fdX2_16 0 rfl rfl dX2_toLowestTerms_54 ?_
                  refine lv_iload_n hx hb dX2_toLowestTerms_57 rfl (lv_at hl 1 rfl) ?_
                  obtain ⟨t_below_limbs'_10, t_below_limb'_10, hC15, hF⟩ := bO_s2 hF
                  refine m_callV X hW hA hl.1 lkX2_38 (c_Natural_divide l E _ N a_t_below a_t_below_limb t_below_limbs'_9 t_below_limb'_9 x1 (t_below_limbs'_10, t_below_limb'_10) hC15) [3, 4] (by decide) rfl rfl (ws' := (wd_Fraction_toLowestTerms E a_t a_t_above a_t_above_limb a_t_below a_t_below_limb t_above_limbs'_8 t_above_limb'_8 t_below_limbs'_10 t_below_limb'_10)) rfl 3 rfl rfl rfl (As := [.int x1]) (rest := []) rfl rfl ⟨rfl, rfl, Nat.le_of_ble_eq_true rfl, Nat.le_of_ble_eq_true rfl⟩ (Nat.le_of_ble_eq_true rfl) (Nat.zero_le _) (Nat.zero_le _) dX2_toLowestTerms_58 (fun H locs hW => ?_)
                  clear hC15
                  refine lv_iinc (v := (x2 + (1 : Int32))) (lv' := [(2, .int (x2 + (1 : Int32))), (1, .int x1), (0, .ref a_t)]) hx hb dX2_toLowestTerms_61 hl (k := 0) rfl rfl (by decide) rfl (fun ls hl => ?_)
                  refine lv_goto (tgt := 30) hx hb dX2_toLowestTerms_64 (by decide) ?_
                  exact ih10 (x2 + (1 : Int32)) t_above_limb'_8 t_above_limbs'_8 t_below_limb'_10 t_below_limbs'_10 t_above_limb'_9 t_above_limbs'_9 t_below_limb'_11 t_below_limbs'_11 _ _ _ hF hW (lv_sub hl [0, 1, 2] rfl) hk9
          refine L7 N (0 : Int32) t_above_limb'_6 t_above_limbs'_6 t_below_limb'_8 t_below_limbs'_8 t_above_limb'_9 t_above_limbs'_9 t_below_limb'_11 t_below_limbs'_11 _ _ _ hX8 hW (lv_sub hl [0, 1, 2] rfl) ?_
          intro H locs ls hW hl
          clear L7
          refine lv_iinc (v := (x1 + (1 : Int32))) (lv' := [(1, .int (x1 + (1 : Int32))), (0, .ref a_t)]) hx hb dX2_toLowestTerms_67 hl (k := 0) rfl rfl (by decide) rfl (fun ls hl => ?_)
          refine lv_goto (tgt := 21) hx hb dX2_toLowestTerms_70 (by decide) ?_
          exact ih5 (x1 + (1 : Int32)) t_above_limb'_9 t_above_limbs'_9 t_below_limb'_11 t_below_limbs'_11 t_above_limb'_10 t_above_limbs'_10 t_below_limb'_12 t_below_limbs'_12 _ _ _ hF hW (lv_sub hl [0, 1] rfl) hk4
    refine L2 N (2 : Int32) t_above_limb t_above_limbs t_below_limb t_below_limbs t_above_limb'_10 t_above_limbs'_10 t_below_limb'_12 t_below_limbs'_12 _ _ _ hX3 hW (lv_sub hl [0, 1] rfl) ?_
    intro H locs ls hW hl
    clear L2
    have hq := Option.some.inj hF
    subst hq
    exact hret _ _ _ _ hW dX2_toLowestTerms_73
  · have hF := if_y c1 hF
    refine lv_aload_n hx hb dX2_toLowestTerms_10 rfl (lv_at hl 0 rfl) ?_
    refine m_get X hW fdX2_16 0 rfl rfl dX2_toLowestTerms_11 ?_
    refine lv_iconst (v := (1 : Int32)) hx hb dX2_toLowestTerms_14 (by decide) ?_
    obtain ⟨t_below_limbs'_7, t_below_limb'_7, hC16, hF⟩ := bO_s2 hF
    refine m_callV X hW hA hl.1 lkX2_19 (c_Natural_put l E _ N a_t_below a_t_below_limb t_below_limbs t_below_limb (1 : Int32) (t_below_limbs'_7, t_below_limb'_7) hC16) [3, 4] (by decide) rfl rfl (ws' := (wd_Fraction_toLowestTerms E a_t a_t_above a_t_above_limb a_t_below a_t_below_limb t_above_limbs t_above_limb t_below_limbs'_7 t_below_limb'_7)) rfl 3 rfl rfl rfl (As := [.int (1 : Int32)]) (rest := []) rfl rfl ⟨rfl, rfl, Nat.le_of_ble_eq_true rfl, Nat.le_of_ble_eq_true rfl⟩ (Nat.le_of_ble_eq_true rfl) (Nat.zero_le _) (Nat.zero_le _) dX2_toLowestTerms_15 (fun H locs hW => ?_)
    clear hC16
    have hq := Option.some.inj hF
    subst hq
    exact hret _ _ _ _ hW dX2_toLowestTerms_18
abbrev wd_Fraction_put1 (E : m_E) (a_t : Nat) (a_t_above : Nat) (a_t_above_limb : Nat) (a_t_below : Nat) (a_t_below_limb : Nat) (a_p1 : Nat) (a_p1_limb : Nat) (a_p2 : Nat) (a_p2_limb : Nat) (t_above_limbs : Int32) (t_above_limb : Nat → Int32) (t_below_limbs : Int32) (t_below_limb : Nat → Int32) (p1_limbs : Int32) (p1_limb : Nat → Int32) (p2_limbs : Int32) (p2_limb : Nat → Int32) : va_W := [(a_t, .inr (2, [.ref a_t_above, .ref a_t_below])), (a_t_above, .inr (4, [.ref a_t_above_limb, .int t_above_limbs])), (a_t_above_limb, .inl (E.2.1 0, 40, .inl t_above_limb)), (a_t_below, .inr (4, [.ref a_t_below_limb, .int t_below_limbs])), (a_t_below_limb, .inl (E.2.1 0, 40, .inl t_below_limb)), (a_p1, .inr (4, [.ref a_p1_limb, .int p1_limbs])), (a_p1_limb, .inl (E.2.1 0, 40, .inl p1_limb)), (a_p2, .inr (4, [.ref a_p2_limb, .int p2_limbs])), (a_p2_limb, .inl (E.2.1 0, 40, .inl p2_limb))]
def rm_Fraction_put1 : Room := { frames := 3, cells := 0, slots := 0, locals := 67 }
set_option maxHeartbeats 4000000 in
set_option maxRecDepth 100000 in
theorem c_Fraction_put1 (l : Launch) (E : m_E) (sz N : Nat) (a_t : Nat) (a_t_above : Nat) (a_t_above_limb : Nat) (a_t_below : Nat) (a_t_below_limb : Nat) (a_p1 : Nat) (a_p1_limb : Nat) (a_p2 : Nat) (a_p2_limb : Nat) (t_above_limbs : Int32) (t_above_limb : Nat → Int32) (t_below_limbs : Int32) (t_below_limb : Nat → Int32) (p1_limbs : Int32) (p1_limb : Nat → Int32) (p2_limbs : Int32) (p2_limb : Nat → Int32)  (ures : Int32 × (Nat → Int32) × Int32 × (Nat → Int32)) (hF : F_Fraction_put1 N t_above_limb t_below_limb p1_limbs p1_limb p2_limbs p2_limb = some ures) : m_Met l yX2_put_ cX2_put_ 3 none rm_Fraction_put1 E (wd_Fraction_put1 E a_t a_t_above a_t_above_limb a_t_below a_t_below_limb a_p1 a_p1_limb a_p2 a_p2_limb t_above_limbs t_above_limb t_below_limbs t_below_limb p1_limbs p1_limb p2_limbs p2_limb) (wd_Fraction_put1 E a_t a_t_above a_t_above_limb a_t_below a_t_below_limb a_p1 a_p1_limb a_p2 a_p2_limb ures.1 ures.2.1 ures.2.2.1 ures.2.2.2 p1_limbs p1_limb p2_limbs p2_limb) sz [.ref a_t, .ref a_p1, .ref a_p2] none := by
  refine m_ofV (by decide) (Nat.le_of_ble_eq_true rfl) ?_
  intro p e s m args below meth c A Q ls X hW hA hl hret
  obtain ⟨hx, hb, -, hown, hts, hK, -, hG⟩ := id X
  have hl : lv_has ls 3 [(0, .ref a_t), (1, .ref a_p1), (2, .ref a_p2)] := hl
  unfold F_Fraction_put1 at hF
  refine lv_aload_n hx hb dX2_put__0 rfl (lv_at hl 0 rfl) ?_
  refine m_get X hW fdX2_10 0 rfl rfl dX2_put__1 ?_
  refine lv_aload_n hx hb dX2_put__4 rfl (lv_at hl 1 rfl) ?_
  obtain ⟨t_above_limbs'_3, t_above_limb'_3, hC1, hF⟩ := bO_s2 hF
  refine m_callV X hW hA hl.1 lkX2_30 (c_Natural_copyFrom l E _ N a_t_above a_t_above_limb a_p1 a_p1_limb t_above_limbs t_above_limb p1_limbs p1_limb  (t_above_limbs'_3, t_above_limb'_3) hC1) [1, 2, 5, 6] (by decide) rfl rfl (ws' := (wd_Fraction_put1 E a_t a_t_above a_t_above_limb a_t_below a_t_below_limb a_p1 a_p1_limb a_p2 a_p2_limb t_above_limbs'_3 t_above_limb'_3 t_below_limbs t_below_limb p1_limbs p1_limb p2_limbs p2_limb)) rfl 1 rfl rfl rfl (As := [.ref a_p1]) (rest := []) rfl rfl ⟨rfl, rfl, Nat.le_of_ble_eq_true rfl, Nat.le_of_ble_eq_true rfl⟩ (Nat.le_of_ble_eq_true rfl) (Nat.zero_le _) (Nat.zero_le _) dX2_put__5 (fun H locs hW => ?_)
  clear hC1
  refine lv_aload_n hx hb dX2_put__8 rfl (lv_at hl 0 rfl) ?_
  refine m_get X hW fdX2_16 0 rfl rfl dX2_put__9 ?_
  refine lv_aload_n hx hb dX2_put__12 rfl (lv_at hl 2 rfl) ?_
  obtain ⟨t_below_limbs'_3, t_below_limb'_3, hC2, hF⟩ := bO_s2 hF
  refine m_callV X hW hA hl.1 lkX2_30 (c_Natural_copyFrom l E _ N a_t_below a_t_below_limb a_p2 a_p2_limb t_below_limbs t_below_limb p2_limbs p2_limb  (t_below_limbs'_3, t_below_limb'_3) hC2) [3, 4, 7, 8] (by decide) rfl rfl (ws' := (wd_Fraction_put1 E a_t a_t_above a_t_above_limb a_t_below a_t_below_limb a_p1 a_p1_limb a_p2 a_p2_limb t_above_limbs'_3 t_above_limb'_3 t_below_limbs'_3 t_below_limb'_3 p1_limbs p1_limb p2_limbs p2_limb)) rfl 3 rfl rfl rfl (As := [.ref a_p2]) (rest := []) rfl rfl ⟨rfl, rfl, Nat.le_of_ble_eq_true rfl, Nat.le_of_ble_eq_true rfl⟩ (Nat.le_of_ble_eq_true rfl) (Nat.zero_le _) (Nat.zero_le _) dX2_put__13 (fun H locs hW => ?_)
  clear hC2
  refine lv_aload_n hx hb dX2_put__16 rfl (lv_at hl 0 rfl) ?_
  obtain ⟨t_above_limbs'_4, t_above_limb'_4, t_below_limbs'_4, t_below_limb'_4, hC3, hF⟩ := bO_s4 hF
  refine m_callV X hW hA hl.1 lkX2_27 (c_Fraction_toLowestTerms l E _ N a_t a_t_above a_t_above_limb a_t_below a_t_below_limb t_above_limbs'_3 t_above_limb'_3 t_below_limbs'_3 t_below_limb'_3  (t_above_limbs'_4, t_above_limb'_4, t_below_limbs'_4, t_below_limb'_4) hC3) [0, 1, 2, 3, 4] (by decide) rfl rfl (ws' := (wd_Fraction_put1 E a_t a_t_above a_t_above_limb a_t_below a_t_below_limb a_p1 a_p1_limb a_p2 a_p2_limb t_above_limbs'_4 t_above_limb'_4 t_below_limbs'_4 t_below_limb'_4 p1_limbs p1_limb p2_limbs p2_limb)) rfl 0 rfl rfl rfl (As := []) (rest := []) rfl rfl ⟨rfl, rfl, Nat.le_of_ble_eq_true rfl, Nat.le_of_ble_eq_true rfl⟩ (Nat.le_of_ble_eq_true rfl) (Nat.zero_le _) (Nat.zero_le _) dX2_put__17 (fun H locs hW => ?_)
  clear hC3
  have hq := Option.some.inj hF
  subst hq
  exact hret _ _ _ _ hW dX2_put__20
abbrev wd_Natural_isLessThan (E : m_E) (a_t : Nat) (a_t_limb : Nat) (a_p1 : Nat) (a_p1_limb : Nat) (t_limbs : Int32) (t_limb : Nat → Int32) (p1_limbs : Int32) (p1_limb : Nat → Int32) : va_W := [(a_t, .inr (4, [.ref a_t_limb, .int t_limbs])), (a_t_limb, .inl (E.2.1 0, 40, .inl t_limb)), (a_p1, .inr (4, [.ref a_p1_limb, .int p1_limbs])), (a_p1_limb, .inl (E.2.1 0, 40, .inl p1_limb))]
def rm_Natural_isLessThan : Room := { frames := 0, cells := 0, slots := 0, locals := 0 }
set_option maxHeartbeats 4000000 in
set_option maxRecDepth 100000 in
theorem c_Natural_isLessThan (l : Launch) (E : m_E) (sz N : Nat) (a_t : Nat) (a_t_limb : Nat) (a_p1 : Nat) (a_p1_limb : Nat) (t_limbs : Int32) (t_limb : Nat → Int32) (p1_limbs : Int32) (p1_limb : Nat → Int32)  (ures : Int32) (hF : F_Natural_isLessThan N t_limbs t_limb p1_limbs p1_limb = some ures) : m_Met l yX4_isLessThan cX4_isLessThan 3 (some .boolean) rm_Natural_isLessThan E (wd_Natural_isLessThan E a_t a_t_limb a_p1 a_p1_limb t_limbs t_limb p1_limbs p1_limb) (wd_Natural_isLessThan E a_t a_t_limb a_p1 a_p1_limb t_limbs t_limb p1_limbs p1_limb) sz [.ref a_t, .ref a_p1] (some (.int ures)) := by
  refine m_ofZ (by decide) (Nat.le_of_ble_eq_true rfl) ?_
  intro p e s m args below meth c A Q ls X hW hA hl hret
  obtain ⟨hx, hb, -, hown, hts, hK, -, hG⟩ := id X
  have hl : lv_has ls 3 [(0, .ref a_t), (1, .ref a_p1)] := hl
  unfold F_Natural_isLessThan at hF
  refine lv_aload_n hx hb dX4_isLessThan_0 rfl (lv_at hl 0 rfl) ?_
  refine m_get X hW fdX4_15 0 rfl rfl dX4_isLessThan_1 ?_
  refine lv_aload_n hx hb dX4_isLessThan_4 rfl (lv_at hl 1 rfl) ?_
  refine m_get X hW fdX4_15 2 rfl rfl dX4_isLessThan_5 ?_
  refine lv_icmp_eq (tgt := 28) hx hb dX4_isLessThan_8 (by decide) (fun c1 => ?_) (fun c1 => ?_)
  · have hF := if_y c1 hF
    refine lv_aload_n hx hb dX4_isLessThan_28 rfl (lv_at hl 0 rfl) ?_
    refine m_get X hW fdX4_15 0 rfl rfl dX4_isLessThan_29 ?_
    refine lv_iconst (v := (1 : Int32)) hx hb dX4_isLessThan_32 (by decide) ?_
    refine lv_isub hx hb dX4_isLessThan_33 ?_
    refine lv_istore_n (lv' := [(2, .int (t_limbs - (1 : Int32))), (0, .ref a_t), (1, .ref a_p1)]) hx hb dX4_isLessThan_34 rfl hl (by decide) rfl (fun ls hl => ?_)
    obtain ⟨out7, hX3, hr6, hF⟩ := bT_s0 hF
    have L2 : ∀ (k0 : Nat) (x2 : Int32) (out9 : (Int32) ⊕ Unit)  (H : Heap) (locs : List Loc) (ls : Array Slot), Natural_isLessThan_L35 t_limb p1_limb k0 x2 = some out9 → m_H E A (wd_Natural_isLessThan E a_t a_t_limb a_p1 a_p1_limb t_limbs t_limb p1_limbs p1_limb) s.heap H locs → lv_has ls 3 [(2, .int x2), (0, .ref a_t), (1, .ref a_p1)] → (∀ a, out9 = .inl a → a = ures) → (∀  (H : Heap) (locs : List Loc) (ls : Array Slot), out9 = .inr () → m_H E A (wd_Natural_isLessThan E a_t a_t_limb a_p1 a_p1_limb t_limbs t_limb p1_limbs p1_limb) s.heap H locs → lv_has ls 3 [] → W p l e rm_Natural_isLessThan s m args below meth c H locs 0 0 Q (F0 m 81 ls [])) → W p l e rm_Natural_isLessThan s m args below meth c H locs 0 0 Q (F0 m 35 ls []) := by
      clear hF
      intro k0
      induction k0 with
      | zero =>
        intro x2 out9 H locs ls hF
        cases hF
      | succ k0 ih5 =>
        intro x2 out9 H locs ls hF hW hl hr8 hk4
        rw [Natural_isLessThan_L35] at hF
        refine lv_iload_n hx hb dX4_isLessThan_35 rfl (lv_at hl 0 rfl) ?_
        refine lv_if_lt (tgt := 81) hx hb dX4_isLessThan_36 (by decide) (fun c10 => ?_) (fun c10 => ?_)
        · have hF := if_y c10 hF
          exact hk4  _ _ _ (Option.some.inj hF).symm hW (lv_sub hl [] rfl)
        · have hF := if_n c10 hF
          refine lv_aload_n hx hb dX4_isLessThan_39 rfl (lv_at hl 1 rfl) ?_
          refine m_get X hW fdX4_11 0 rfl rfl dX4_isLessThan_40 ?_
          refine lv_iload_n hx hb dX4_isLessThan_43 rfl (lv_at hl 0 rfl) ?_
          obtain ⟨g11, hF⟩ := gd_some hF
          refine m_iald X hW 1 (k := x2.toNatClampNeg) rfl g11 rfl dX4_isLessThan_44 ?_
          refine lv_aload_n hx hb dX4_isLessThan_45 rfl (lv_at hl 2 rfl) ?_
          refine m_get X hW fdX4_11 2 rfl rfl dX4_isLessThan_46 ?_
          refine lv_iload_n hx hb dX4_isLessThan_49 rfl (lv_at hl 0 rfl) ?_
          refine m_iald X hW 3 (k := x2.toNatClampNeg) rfl g11 rfl dX4_isLessThan_50 ?_
          refine lv_icmp_eq (tgt := 75) hx hb dX4_isLessThan_51 (by decide) (fun c12 => ?_) (fun c12 => ?_)
          · have hF := if_y c12 hF
            refine lv_iinc (v := (x2 + (-1 : Int32))) (lv' := [(2, .int (x2 + (-1 : Int32))), (0, .ref a_t), (1, .ref a_p1)]) hx hb dX4_isLessThan_75 hl (k := 0) rfl rfl (by decide) rfl (fun ls hl => ?_)
            refine lv_goto (tgt := 35) hx hb dX4_isLessThan_78 (by decide) ?_
            exact ih5 (x2 + (-1 : Int32)) out9 _ _ _ hF hW (lv_sub hl [0, 1, 2] rfl) hr8 hk4
          · have hF := if_n c12 hF
            refine lv_aload_n hx hb dX4_isLessThan_54 rfl (lv_at hl 1 rfl) ?_
            refine m_get X hW fdX4_11 0 rfl rfl dX4_isLessThan_55 ?_
            refine lv_iload_n hx hb dX4_isLessThan_58 rfl (lv_at hl 0 rfl) ?_
            refine m_iald X hW 1 (k := x2.toNatClampNeg) rfl g11 rfl dX4_isLessThan_59 ?_
            refine lv_aload_n hx hb dX4_isLessThan_60 rfl (lv_at hl 2 rfl) ?_
            refine m_get X hW fdX4_11 2 rfl rfl dX4_isLessThan_61 ?_
            refine lv_iload_n hx hb dX4_isLessThan_64 rfl (lv_at hl 0 rfl) ?_
            refine m_iald X hW 3 (k := x2.toNatClampNeg) rfl g11 rfl dX4_isLessThan_65 ?_
            refine lv_icmp_ge (tgt := 73) hx hb dX4_isLessThan_66 (by decide) (fun c13 => ?_) (fun c13 => ?_)
            · have hF := if_y c13 hF
              refine lv_iconst (v := (0 : Int32)) hx hb dX4_isLessThan_73 (by decide) ?_
              have hq := (Option.some.inj hF).symm
              have hq := hr8 _ hq
              subst hq
              exact hret _ _ _ _ _ rfl hW dX4_isLessThan_74
            · have hF := if_n c13 hF
              refine lv_iconst (v := (1 : Int32)) hx hb dX4_isLessThan_69 (by decide) ?_
              refine lv_goto (tgt := 74) hx hb dX4_isLessThan_70 (by decide) ?_
              have hq := (Option.some.inj hF).symm
              have hq := hr8 _ hq
              subst hq
              exact hret _ _ _ _ _ rfl hW dX4_isLessThan_74
    refine L2 N (t_limbs - (1 : Int32)) out7 _ _ _ hX3 hW (lv_sub hl [0, 1, 2] rfl) hr6 ?_
    intro  H locs ls ho hW hl
    have hF := hF  ho
    clear L2
    refine lv_iconst (v := (0 : Int32)) hx hb dX4_isLessThan_81 (by decide) ?_
    have hq := Option.some.inj hF
    subst hq
    exact hret _ _ _ _ _ rfl hW dX4_isLessThan_82
  · have hF := if_n c1 hF
    refine lv_aload_n hx hb dX4_isLessThan_11 rfl (lv_at hl 0 rfl) ?_
    refine m_get X hW fdX4_15 0 rfl rfl dX4_isLessThan_12 ?_
    refine lv_aload_n hx hb dX4_isLessThan_15 rfl (lv_at hl 1 rfl) ?_
    refine m_get X hW fdX4_15 2 rfl rfl dX4_isLessThan_16 ?_
    refine lv_icmp_ge (tgt := 26) hx hb dX4_isLessThan_19 (by decide) (fun c14 => ?_) (fun c14 => ?_)
    · have hF := if_y c14 hF
      refine lv_iconst (v := (0 : Int32)) hx hb dX4_isLessThan_26 (by decide) ?_
      have hq := Option.some.inj hF
      subst hq
      exact hret _ _ _ _ _ rfl hW dX4_isLessThan_27
    · have hF := if_n c14 hF
      refine lv_iconst (v := (1 : Int32)) hx hb dX4_isLessThan_22 (by decide) ?_
      refine lv_goto (tgt := 27) hx hb dX4_isLessThan_23 (by decide) ?_
      have hq := Option.some.inj hF
      subst hq
      exact hret _ _ _ _ _ rfl hW dX4_isLessThan_27
abbrev wd_S_girl (E : m_E) (a_t : Nat) (a_t_draft : Nat) (a_t_firstImage : Nat) (a_t_secondImage : Nat) (a_t_news : Nat) (a_t_otherNews : Nat) (a_t_readings : Nat) (a_t_chances : Nat) (a_t_turning : Nat) (a_t_text : Nat) (a_t_fraction : Nat) (a_t_now : Nat) (a_t_now_floor : Nat) (a_t_now_sightings : Nat) (a_t_now_level : Nat) (a_t_now_loss : Nat) (a_t_now_lexicon : Nat) (a_t_now_lexicon_length : Nat) (a_t_now_lexicon_number : Nat) (a_t_now_lexicon_weight : Nat) (a_t_now_lexicon_leastLike : Nat) (a_t_now_lexicon_row : Nat) (a_t_now_lexicon_lipsOf : Nat) (a_t_now_lexicon_others : Nat) (t_now_clearness : Int32) (t_now_isKept : Int32) (t_now_lexicon_words : Int32) (t_now_lexicon_rowLips : Int32) (t_now_lexicon_girlKnows : Int32) : va_W := [(a_t, .inr (11, [.ref a_t_now, .ref a_t_draft, .ref a_t_firstImage, .ref a_t_secondImage, .ref a_t_news, .ref a_t_otherNews, .ref a_t_readings, .ref a_t_chances, .ref a_t_turning, .ref a_t_text, .ref a_t_fraction])), (a_t_now, .inr (7, [.ref a_t_now_floor, .ref a_t_now_sightings, .ref a_t_now_lexicon, .ref a_t_now_level, .ref a_t_now_loss, .int t_now_clearness, .int t_now_isKept])), (a_t_now_lexicon, .inr (3, [.int t_now_lexicon_words, .ref a_t_now_lexicon_length, .ref a_t_now_lexicon_number, .ref a_t_now_lexicon_weight, .ref a_t_now_lexicon_leastLike, .ref a_t_now_lexicon_row, .int t_now_lexicon_rowLips, .int t_now_lexicon_girlKnows, .ref a_t_now_lexicon_lipsOf, .ref a_t_now_lexicon_others]))]
def rm_S_girl : Room := { frames := 2, cells := 0, slots := 0, locals := 43 }
set_option maxHeartbeats 4000000 in
set_option maxRecDepth 100000 in
theorem c_S_girl (l : Launch) (E : m_E) (sz N : Nat) (a_t : Nat) (a_t_draft : Nat) (a_t_firstImage : Nat) (a_t_secondImage : Nat) (a_t_news : Nat) (a_t_otherNews : Nat) (a_t_readings : Nat) (a_t_chances : Nat) (a_t_turning : Nat) (a_t_text : Nat) (a_t_fraction : Nat) (a_t_now : Nat) (a_t_now_floor : Nat) (a_t_now_sightings : Nat) (a_t_now_level : Nat) (a_t_now_loss : Nat) (a_t_now_lexicon : Nat) (a_t_now_lexicon_length : Nat) (a_t_now_lexicon_number : Nat) (a_t_now_lexicon_weight : Nat) (a_t_now_lexicon_leastLike : Nat) (a_t_now_lexicon_row : Nat) (a_t_now_lexicon_lipsOf : Nat) (a_t_now_lexicon_others : Nat) (t_now_clearness : Int32) (t_now_isKept : Int32) (t_now_lexicon_words : Int32) (t_now_lexicon_rowLips : Int32) (t_now_lexicon_girlKnows : Int32) (p1 : Int32) (ures : Int32 × Int32) (hF : F_S_girl p1 t_now_lexicon_words t_now_lexicon_girlKnows = some ures) : m_Met l yX11_girl cX11_girl 3 (some .int) rm_S_girl E (wd_S_girl E a_t a_t_draft a_t_firstImage a_t_secondImage a_t_news a_t_otherNews a_t_readings a_t_chances a_t_turning a_t_text a_t_fraction a_t_now a_t_now_floor a_t_now_sightings a_t_now_level a_t_now_loss a_t_now_lexicon a_t_now_lexicon_length a_t_now_lexicon_number a_t_now_lexicon_weight a_t_now_lexicon_leastLike a_t_now_lexicon_row a_t_now_lexicon_lipsOf a_t_now_lexicon_others t_now_clearness t_now_isKept t_now_lexicon_words t_now_lexicon_rowLips t_now_lexicon_girlKnows) (wd_S_girl E a_t a_t_draft a_t_firstImage a_t_secondImage a_t_news a_t_otherNews a_t_readings a_t_chances a_t_turning a_t_text a_t_fraction a_t_now a_t_now_floor a_t_now_sightings a_t_now_level a_t_now_loss a_t_now_lexicon a_t_now_lexicon_length a_t_now_lexicon_number a_t_now_lexicon_weight a_t_now_lexicon_leastLike a_t_now_lexicon_row a_t_now_lexicon_lipsOf a_t_now_lexicon_others t_now_clearness t_now_isKept t_now_lexicon_words t_now_lexicon_rowLips ures.2) sz [.ref a_t, .int p1] (some (.int ures.1)) := by
  refine m_ofI (by decide) (Nat.le_of_ble_eq_true rfl) ?_
  intro p e s m args below meth c A Q ls X hW hA hl hret
  obtain ⟨hx, hb, -, hown, hts, hK, -, hG⟩ := id X
  have hl : lv_has ls 3 [(0, .ref a_t), (1, .int p1)] := hl
  unfold F_S_girl at hF
  refine lv_aload_n hx hb dX11_girl_0 rfl (lv_at hl 0 rfl) ?_
  refine m_get X hW fdX11_10 0 rfl rfl dX11_girl_1 ?_
  refine m_get X hW fdX11_156 1 rfl rfl dX11_girl_4 ?_
  refine lv_iload_n hx hb dX11_girl_7 rfl (lv_at hl 1 rfl) ?_
  refine m_callV X hW hA hl.1 lkX11_196 (c_Lexicon_areWords l E _ N a_t_now_lexicon a_t_now_lexicon_length a_t_now_lexicon_number a_t_now_lexicon_weight a_t_now_lexicon_leastLike a_t_now_lexicon_row a_t_now_lexicon_lipsOf a_t_now_lexicon_others t_now_lexicon_words t_now_lexicon_rowLips t_now_lexicon_girlKnows p1 (F_Lexicon_areWords p1 t_now_lexicon_words) rfl) [2] (by decide) rfl rfl (ws' := (wd_S_girl E a_t a_t_draft a_t_firstImage a_t_secondImage a_t_news a_t_otherNews a_t_readings a_t_chances a_t_turning a_t_text a_t_fraction a_t_now a_t_now_floor a_t_now_sightings a_t_now_level a_t_now_loss a_t_now_lexicon a_t_now_lexicon_length a_t_now_lexicon_number a_t_now_lexicon_weight a_t_now_lexicon_leastLike a_t_now_lexicon_row a_t_now_lexicon_lipsOf a_t_now_lexicon_others t_now_clearness t_now_isKept t_now_lexicon_words t_now_lexicon_rowLips t_now_lexicon_girlKnows)) rfl 2 rfl rfl rfl (As := [.int p1]) (rest := []) rfl rfl ⟨rfl, rfl, Nat.le_of_ble_eq_true rfl, Nat.le_of_ble_eq_true rfl⟩ (Nat.le_of_ble_eq_true rfl) (Nat.zero_le _) (Nat.zero_le _) dX11_girl_8 (fun H locs hW => ?_)
  refine lv_if_ne (tgt := 17) hx hb dX11_girl_11 (by decide) (fun c1 => ?_) (fun c1 => ?_)
  · have hF := if_n c1 hF
    refine lv_aload_n hx hb dX11_girl_17 rfl (lv_at hl 0 rfl) ?_
    refine m_get X hW fdX11_10 0 rfl rfl dX11_girl_18 ?_
    refine m_get X hW fdX11_156 1 rfl rfl dX11_girl_21 ?_
    refine m_get X hW fdX11_225 2 rfl rfl dX11_girl_24 ?_
    refine lv_istore_n (lv' := [(2, .int t_now_lexicon_girlKnows), (0, .ref a_t), (1, .int p1)]) hx hb dX11_girl_27 rfl hl (by decide) rfl (fun ls hl => ?_)
    refine lv_aload_n hx hb dX11_girl_28 rfl (lv_at hl 1 rfl) ?_
    refine m_get X hW fdX11_10 0 rfl rfl dX11_girl_29 ?_
    refine m_get X hW fdX11_156 1 rfl rfl dX11_girl_32 ?_
    refine lv_iload_n hx hb dX11_girl_35 rfl (lv_at hl 2 rfl) ?_
    refine m_putf X hW fdX11_225 2 rfl (Nat.le_of_ble_eq_true rfl) rfl rfl dX11_girl_36 (ws' := (wd_S_girl E a_t a_t_draft a_t_firstImage a_t_secondImage a_t_news a_t_otherNews a_t_readings a_t_chances a_t_turning a_t_text a_t_fraction a_t_now a_t_now_floor a_t_now_sightings a_t_now_level a_t_now_loss a_t_now_lexicon a_t_now_lexicon_length a_t_now_lexicon_number a_t_now_lexicon_weight a_t_now_lexicon_leastLike a_t_now_lexicon_row a_t_now_lexicon_lipsOf a_t_now_lexicon_others t_now_clearness t_now_isKept t_now_lexicon_words t_now_lexicon_rowLips p1)) rfl (fun H locs hW => ?_)
    refine lv_iload_n hx hb dX11_girl_39 rfl (lv_at hl 0 rfl) ?_
    have hq := Option.some.inj hF
    subst hq
    exact hret _ _ _ _ hW dX11_girl_40
  · have hF := if_y c1 hF
    refine lv_bipush (v := (-2 : Int32)) hx hb dX11_girl_14 (by decide) ?_
    have hq := Option.some.inj hF
    subst hq
    exact hret _ _ _ _ hW dX11_girl_16
abbrev wd_Lexicon_findBetterAlike (E : m_E) (a_t : Nat) (a_t_number : Nat) (a_t_row : Nat) (a_t_length : Nat) (a_t_weight : Nat) (a_t_leastLike : Nat) (a_t_lipsOf : Nat) (a_t_others : Nat) (t_words : Int32) (t_rowLips : Int32) (t_girlKnows : Int32) (t_length : Nat → Int32) (t_weight : Nat → Int32) (t_leastLike : Nat → Int32) (t_lipsOf : Nat → Int32) (t_others : Nat → Int32) : va_W := [(a_t, .inr (3, [.int t_words, .ref a_t_length, .ref a_t_number, .ref a_t_weight, .ref a_t_leastLike, .ref a_t_row, .int t_rowLips, .int t_girlKnows, .ref a_t_lipsOf, .ref a_t_others])), (a_t_length, .inl (E.2.1 0, 10, .inl t_length)), (a_t_weight, .inl (E.2.1 0, 10, .inl t_weight)), (a_t_leastLike, .inl (E.2.1 0, 6, .inl t_leastLike)), (a_t_lipsOf, .inl (E.2.1 0, 60, .inl t_lipsOf)), (a_t_others, .inl (E.2.1 0, 10, .inl t_others))]
def rm_Lexicon_findBetterAlike : Room := { frames := 3, cells := 0, slots := 0, locals := 68 }
set_option maxHeartbeats 4000000 in
set_option maxRecDepth 100000 in
theorem c_Lexicon_findBetterAlike (l : Launch) (E : m_E) (sz N : Nat) (a_t : Nat) (a_t_number : Nat) (a_t_row : Nat) (a_t_length : Nat) (a_t_weight : Nat) (a_t_leastLike : Nat) (a_t_lipsOf : Nat) (a_t_others : Nat) (t_words : Int32) (t_rowLips : Int32) (t_girlKnows : Int32) (t_length : Nat → Int32) (t_weight : Nat → Int32) (t_leastLike : Nat → Int32) (t_lipsOf : Nat → Int32) (t_others : Nat → Int32)  (ures : (Nat → Int32)) (hF : F_Lexicon_findBetterAlike N t_words t_length t_weight t_leastLike t_lipsOf t_others = some ures) : m_Met l yX3_findBetterAlike cX3_findBetterAlike 4 none rm_Lexicon_findBetterAlike E (wd_Lexicon_findBetterAlike E a_t a_t_number a_t_row a_t_length a_t_weight a_t_leastLike a_t_lipsOf a_t_others t_words t_rowLips t_girlKnows t_length t_weight t_leastLike t_lipsOf t_others) (wd_Lexicon_findBetterAlike E a_t a_t_number a_t_row a_t_length a_t_weight a_t_leastLike a_t_lipsOf a_t_others t_words t_rowLips t_girlKnows t_length t_weight t_leastLike t_lipsOf ures) sz [.ref a_t] none := by
  refine m_ofV (by decide) (Nat.le_of_ble_eq_true rfl) ?_
  intro p e s m args below meth c A Q ls X hW hA hl hret
  obtain ⟨hx, hb, -, hown, hts, hK, -, hG⟩ := id X
  have hl : lv_has ls 4 [(0, .ref a_t)] := hl
  unfold F_Lexicon_findBetterAlike at hF
  refine lv_iconst (v := (0 : Int32)) hx hb dX3_findBetterAlike_0 (by decide) ?_
  refine lv_istore_n (lv' := [(1, .int (0 : Int32)), (0, .ref a_t)]) hx hb dX3_findBetterAlike_1 rfl hl (by decide) rfl (fun ls hl => ?_)
  obtain ⟨t_others'_8, hX2, hF⟩ := bO_s1 hF
  have L1 : ∀ (k0 : Nat) (x1 : Int32) (t_others'_5 : Nat → Int32) (t_others'_8 : Nat → Int32) (H : Heap) (locs : List Loc) (ls : Array Slot), Lexicon_findBetterAlike_L2 N t_words t_weight t_length t_leastLike t_lipsOf k0 x1 t_others'_5 = some t_others'_8 → m_H E A (wd_Lexicon_findBetterAlike E a_t a_t_number a_t_row a_t_length a_t_weight a_t_leastLike a_t_lipsOf a_t_others t_words t_rowLips t_girlKnows t_length t_weight t_leastLike t_lipsOf t_others'_5) s.heap H locs → lv_has ls 4 [(1, .int x1), (0, .ref a_t)] → (∀ (H : Heap) (locs : List Loc) (ls : Array Slot), m_H E A (wd_Lexicon_findBetterAlike E a_t a_t_number a_t_row a_t_length a_t_weight a_t_leastLike a_t_lipsOf a_t_others t_words t_rowLips t_girlKnows t_length t_weight t_leastLike t_lipsOf t_others'_8) s.heap H locs → lv_has ls 4 [] → W p l e rm_Lexicon_findBetterAlike s m args below meth c H locs 0 0 Q (F0 m 105 ls [])) → W p l e rm_Lexicon_findBetterAlike s m args below meth c H locs 0 0 Q (F0 m 2 ls []) := by
    clear hF
    intro k0
    induction k0 with
    | zero =>
      intro x1 t_others'_5 t_others'_8 H locs ls hF
      cases hF
    | succ k0 ih4 =>
      intro x1 t_others'_5 t_others'_8 H locs ls hF hW hl hk3
      rw [Lexicon_findBetterAlike_L2] at hF
      refine lv_iload_n hx hb dX3_findBetterAlike_2 rfl (lv_at hl 0 rfl) ?_
      refine lv_aload_n hx hb dX3_findBetterAlike_3 rfl (lv_at hl 1 rfl) ?_
      refine m_get X hW fdX3_36 0 rfl rfl dX3_findBetterAlike_4 ?_
      refine lv_icmp_ge (tgt := 105) hx hb dX3_findBetterAlike_7 (by decide) (fun c5 => ?_) (fun c5 => ?_)
      · have hF := if_y c5 hF
        cases hF
        exact hk3 _ _ _ hW (lv_sub hl [] rfl)
      · have hF := if_n c5 hF
        refine lv_aload_n hx hb dX3_findBetterAlike_10 rfl (lv_at hl 1 rfl) ?_
        refine m_get X hW fdX3_30 0 rfl rfl dX3_findBetterAlike_11 ?_
        refine lv_iload_n hx hb dX3_findBetterAlike_14 rfl (lv_at hl 0 rfl) ?_
        refine lv_iconst (v := (0 : Int32)) hx hb dX3_findBetterAlike_15 (by decide) ?_
        obtain ⟨g6, hF⟩ := gd_some hF
        refine m_iast X hW 5 (k := x1.toNatClampNeg) rfl g6 rfl dX3_findBetterAlike_16 (ws' := (wd_Lexicon_findBetterAlike E a_t a_t_number a_t_row a_t_length a_t_weight a_t_leastLike a_t_lipsOf a_t_others t_words t_rowLips t_girlKnows t_length t_weight t_leastLike t_lipsOf (upd t_others'_5 x1.toNatClampNeg (0 : Int32)))) rfl (fun H locs hW => ?_)
        refine lv_iconst (v := (0 : Int32)) hx hb dX3_findBetterAlike_17 (by decide) ?_
        refine lv_istore_n (lv' := [(2, .int (0 : Int32)), (1, .int x1), (0, .ref a_t)]) hx hb dX3_findBetterAlike_18 rfl hl (by decide) rfl (fun ls hl => ?_)
        obtain ⟨t_others'_7, hX8, hF⟩ := bO_s1 hF
        have L7 : ∀ (k0 : Nat) (x2 : Int32) (t_others'_6 : Nat → Int32) (t_others'_7 : Nat → Int32) (H : Heap) (locs : List Loc) (ls : Array Slot), Lexicon_findBetterAlike_L19 N t_words t_weight x1 t_length t_leastLike t_lipsOf k0 x2 t_others'_6 = some t_others'_7 → m_H E A (wd_Lexicon_findBetterAlike E a_t a_t_number a_t_row a_t_length a_t_weight a_t_leastLike a_t_lipsOf a_t_others t_words t_rowLips t_girlKnows t_length t_weight t_leastLike t_lipsOf t_others'_6) s.heap H locs → lv_has ls 4 [(2, .int x2), (1, .int x1), (0, .ref a_t)] → (∀ (H : Heap) (locs : List Loc) (ls : Array Slot), m_H E A (wd_Lexicon_findBetterAlike E a_t a_t_number a_t_row a_t_length a_t_weight a_t_leastLike a_t_lipsOf a_t_others t_words t_rowLips t_girlKnows t_length t_weight t_leastLike t_lipsOf t_others'_7) s.heap H locs → lv_has ls 4 [(1, .int x1), (0, .ref a_t)] → W p l e rm_Lexicon_findBetterAlike s m args below meth c H locs 0 0 Q (F0 m 99 ls [])) → W p l e rm_Lexicon_findBetterAlike s m args below meth c H locs 0 0 Q (F0 m 19 ls []) := by
          clear hF
          intro k0
          induction k0 with
          | zero =>
            intro x2 t_others'_6 t_others'_7 H locs ls hF
            cases hF
          | succ k0 ih10 =>
            intro x2 t_others'_6 t_others'_7 H locs ls hF hW hl hk9
            rw [Lexicon_findBetterAlike_L19] at hF
            refine lv_iload_n hx hb dX3_findBetterAlike_19 rfl (lv_at hl 0 rfl) ?_
            refine lv_aload_n hx hb dX3_findBetterAlike_20 rfl (lv_at hl 2 rfl) ?_
            refine m_get X hW fdX3_36 0 rfl rfl dX3_findBetterAlike_21 ?_
            refine lv_icmp_ge (tgt := 99) hx hb dX3_findBetterAlike_24 (by decide) (fun c11 => ?_) (fun c11 => ?_)
            · have hF := if_y c11 hF
              cases hF
              exact hk9 _ _ _ hW (lv_sub hl [1, 2] rfl)
            · have hF := if_n c11 hF
              refine lv_aload_n hx hb dX3_findBetterAlike_27 rfl (lv_at hl 2 rfl) ?_
              refine m_get X hW fdX3_18 0 rfl rfl dX3_findBetterAlike_28 ?_
              refine lv_iload_n hx hb dX3_findBetterAlike_31 rfl (lv_at hl 0 rfl) ?_
              obtain ⟨g12, hF⟩ := gd_some hF
              refine m_iald X hW 2 (k := x2.toNatClampNeg) rfl g12 rfl dX3_findBetterAlike_32 ?_
              refine lv_aload_n hx hb dX3_findBetterAlike_33 rfl (lv_at hl 2 rfl) ?_
              refine m_get X hW fdX3_18 0 rfl rfl dX3_findBetterAlike_34 ?_
              refine lv_iload_n hx hb dX3_findBetterAlike_37 rfl (lv_at hl 1 rfl) ?_
              refine m_iald X hW 2 (k := x1.toNatClampNeg) rfl g6 rfl dX3_findBetterAlike_38 ?_
              obtain ⟨y0, hX14, hF⟩ := bO_s1 hF
              have J13 : ∀ (H : Heap) (locs : List Loc) (ls : Array Slot), m_H E A (wd_Lexicon_findBetterAlike E a_t a_t_number a_t_row a_t_length a_t_weight a_t_leastLike a_t_lipsOf a_t_others t_words t_rowLips t_girlKnows t_length t_weight t_leastLike t_lipsOf t_others'_6) s.heap H locs → lv_has ls 4 [(2, .int x2), (1, .int x1), (0, .ref a_t)] → W p l e rm_Lexicon_findBetterAlike s m args below meth c H locs 0 0 Q (F0 m 67 ls [.int y0]) := by
                intro H locs ls hW hl
                refine lv_istore_n (lv' := [(3, .int y0), (2, .int x2), (1, .int x1), (0, .ref a_t)]) hx hb dX3_findBetterAlike_67 rfl hl (by decide) rfl (fun ls hl => ?_)
                refine lv_iload_n hx hb dX3_findBetterAlike_68 rfl (lv_at hl 0 rfl) ?_
                refine lv_if_eq (tgt := 93) hx hb dX3_findBetterAlike_69 (by decide) (fun c15 => ?_) (fun c15 => ?_)
                · have hF := if_y c15 hF
                  refine lv_iinc (v := (x2 + (1 : Int32))) (lv' := [(2, .int (x2 + (1 : Int32))), (3, .int y0), (1, .int x1), (0, .ref a_t)]) hx hb dX3_findBetterAlike_93 hl (k := 1) rfl rfl (by decide) rfl (fun ls hl => ?_)
                  refine lv_goto (tgt := 19) hx hb dX3_findBetterAlike_96 (by decide) ?_
                  exact ih10 (x2 + (1 : Int32)) t_others'_6 t_others'_7 _ _ _ hF hW (lv_sub hl [0, 2, 3] rfl) hk9
                · have hF := if_n c15 hF
                  refine lv_aload_n hx hb dX3_findBetterAlike_72 rfl (lv_at hl 3 rfl) ?_
                  refine lv_iload_n hx hb dX3_findBetterAlike_73 rfl (lv_at hl 2 rfl) ?_
                  refine lv_iload_n hx hb dX3_findBetterAlike_74 rfl (lv_at hl 1 rfl) ?_
                  obtain ⟨r75, hC16, hF⟩ := bO_s1 hF
                  refine m_callV X hW hA hl.1 lkX3_89 (c_Lexicon_areAlike l E _ N a_t a_t_number a_t_weight a_t_row a_t_others a_t_length a_t_leastLike a_t_lipsOf t_words t_rowLips t_girlKnows t_length t_leastLike t_lipsOf x1 x2 r75 hC16) [0, 1, 3, 4] (by decide) rfl rfl (ws' := (wd_Lexicon_findBetterAlike E a_t a_t_number a_t_row a_t_length a_t_weight a_t_leastLike a_t_lipsOf a_t_others t_words t_rowLips t_girlKnows t_length t_weight t_leastLike t_lipsOf t_others'_6)) rfl 0 rfl rfl rfl (As := [.int x1, .int x2]) (rest := []) rfl rfl ⟨rfl, rfl, Nat.le_of_ble_eq_true rfl, Nat.le_of_ble_eq_true rfl⟩ (Nat.le_of_ble_eq_true rfl) (Nat.zero_le _) (Nat.zero_le _) dX3_findBetterAlike_75 (fun H locs hW => ?_)
                  clear hC16
                  refine lv_if_eq (tgt := 93) hx hb dX3_findBetterAlike_78 (by decide) (fun c17 => ?_) (fun c17 => ?_)
                  · have hF := if_y c17 hF
                    refine lv_iinc (v := (x2 + (1 : Int32))) (lv' := [(2, .int (x2 + (1 : Int32))), (3, .int y0), (1, .int x1), (0, .ref a_t)]) hx hb dX3_findBetterAlike_93 hl (k := 1) rfl rfl (by decide) rfl (fun ls hl => ?_)
                    refine lv_goto (tgt := 19) hx hb dX3_findBetterAlike_96 (by decide) ?_
                    exact ih10 (x2 + (1 : Int32)) t_others'_6 t_others'_7 _ _ _ hF hW (lv_sub hl [0, 2, 3] rfl) hk9
                  · have hF := if_n c17 hF
                    refine lv_aload_n hx hb dX3_findBetterAlike_81 rfl (lv_at hl 3 rfl) ?_
                    refine m_get X hW fdX3_30 0 rfl rfl dX3_findBetterAlike_82 ?_
                    refine lv_iload_n hx hb dX3_findBetterAlike_85 rfl (lv_at hl 2 rfl) ?_
                    refine lv_dup2_11 hx hb dX3_findBetterAlike_86 rfl rfl ?_
                    refine m_iald X hW 5 (k := x1.toNatClampNeg) rfl g6 rfl dX3_findBetterAlike_87 ?_
                    refine lv_iconst (v := (1 : Int32)) hx hb dX3_findBetterAlike_88 (by decide) ?_
                    refine lv_iload_n hx hb dX3_findBetterAlike_89 rfl (lv_at hl 1 rfl) ?_
                    refine m_ishl hx hb dX3_findBetterAlike_90 ?_
                    refine lv_ior hx hb dX3_findBetterAlike_91 ?_
                    refine m_iast X hW 5 (k := x1.toNatClampNeg) rfl g6 rfl dX3_findBetterAlike_92 (ws' := (wd_Lexicon_findBetterAlike E a_t a_t_number a_t_row a_t_length a_t_weight a_t_leastLike a_t_lipsOf a_t_others t_words t_rowLips t_girlKnows t_length t_weight t_leastLike t_lipsOf (upd t_others'_6 x1.toNatClampNeg ((t_others'_6 x1.toNatClampNeg) ||| (jshl (1 : Int32) x2))))) rfl (fun H locs hW => ?_)
                    refine lv_iinc (v := (x2 + (1 : Int32))) (lv' := [(2, .int (x2 + (1 : Int32))), (3, .int y0), (1, .int x1), (0, .ref a_t)]) hx hb dX3_findBetterAlike_93 hl (k := 1) rfl rfl (by decide) rfl (fun ls hl => ?_)
                    refine lv_goto (tgt := 19) hx hb dX3_findBetterAlike_96 (by decide) ?_
                    exact ih10 (x2 + (1 : Int32)) (upd t_others'_6 x1.toNatClampNeg ((t_others'_6 x1.toNatClampNeg) ||| (jshl (1 : Int32) x2))) t_others'_7 _ _ _ hF hW (lv_sub hl [0, 2, 3] rfl) hk9
              clear hF
              have hF := hX14
              clear hX14
              refine lv_icmp_gt (tgt := 62) hx hb dX3_findBetterAlike_39 (by decide) (fun c18 => ?_) (fun c18 => ?_)
              · have hF := if_y c18 hF
                refine lv_iconst (v := (1 : Int32)) hx hb dX3_findBetterAlike_62 (by decide) ?_
                refine lv_goto (tgt := 67) hx hb dX3_findBetterAlike_63 (by decide) ?_
                cases hF
                exact J13 _ _ _ hW (lv_sub hl [0, 1, 2] rfl)
              · have hF := if_n c18 hF
                refine lv_aload_n hx hb dX3_findBetterAlike_42 rfl (lv_at hl 2 rfl) ?_
                refine m_get X hW fdX3_18 0 rfl rfl dX3_findBetterAlike_43 ?_
                refine lv_iload_n hx hb dX3_findBetterAlike_46 rfl (lv_at hl 0 rfl) ?_
                refine m_iald X hW 2 (k := x2.toNatClampNeg) rfl g12 rfl dX3_findBetterAlike_47 ?_
                refine lv_aload_n hx hb dX3_findBetterAlike_48 rfl (lv_at hl 2 rfl) ?_
                refine m_get X hW fdX3_18 0 rfl rfl dX3_findBetterAlike_49 ?_
                refine lv_iload_n hx hb dX3_findBetterAlike_52 rfl (lv_at hl 1 rfl) ?_
                refine m_iald X hW 2 (k := x1.toNatClampNeg) rfl g6 rfl dX3_findBetterAlike_53 ?_
                refine lv_icmp_ne (tgt := 66) hx hb dX3_findBetterAlike_54 (by decide) (fun c19 => ?_) (fun c19 => ?_)
                · have hF := if_n c19 hF
                  refine lv_iconst (v := (0 : Int32)) hx hb dX3_findBetterAlike_66 (by decide) ?_
                  cases hF
                  exact J13 _ _ _ hW (lv_sub hl [0, 1, 2] rfl)
                · have hF := if_y c19 hF
                  refine lv_iload_n hx hb dX3_findBetterAlike_57 rfl (lv_at hl 0 rfl) ?_
                  refine lv_iload_n hx hb dX3_findBetterAlike_58 rfl (lv_at hl 1 rfl) ?_
                  refine lv_icmp_ge (tgt := 66) hx hb dX3_findBetterAlike_59 (by decide) (fun c20 => ?_) (fun c20 => ?_)
                  · have hF := if_y c20 hF
                    refine lv_iconst (v := (0 : Int32)) hx hb dX3_findBetterAlike_66 (by decide) ?_
                    cases hF
                    exact J13 _ _ _ hW (lv_sub hl [0, 1, 2] rfl)
                  · have hF := if_n c20 hF
                    refine lv_iconst (v := (1 : Int32)) hx hb dX3_findBetterAlike_62 (by decide) ?_
                    refine lv_goto (tgt := 67) hx hb dX3_findBetterAlike_63 (by decide) ?_
                    cases hF
                    exact J13 _ _ _ hW (lv_sub hl [0, 1, 2] rfl)
        refine L7 N (0 : Int32) (upd t_others'_5 x1.toNatClampNeg (0 : Int32)) t_others'_7 _ _ _ hX8 hW (lv_sub hl [0, 1, 2] rfl) ?_
        intro H locs ls hW hl
        clear L7
        refine lv_iinc (v := (x1 + (1 : Int32))) (lv' := [(1, .int (x1 + (1 : Int32))), (0, .ref a_t)]) hx hb dX3_findBetterAlike_99 hl (k := 0) rfl rfl (by decide) rfl (fun ls hl => ?_)
        refine lv_goto (tgt := 2) hx hb dX3_findBetterAlike_102 (by decide) ?_
        exact ih4 (x1 + (1 : Int32)) t_others'_7 t_others'_8 _ _ _ hF hW (lv_sub hl [0, 1] rfl) hk3
  refine L1 N (0 : Int32) t_others t_others'_8 _ _ _ hX2 hW (lv_sub hl [0, 1] rfl) ?_
  intro H locs ls hW hl
  clear L1
  have hq := Option.some.inj hF
  subst hq
  exact hret _ _ _ _ hW dX3_findBetterAlike_105
abbrev wd_Lexicon_gottenOf (E : m_E) (a_t : Nat) (a_t_length : Nat) (a_t_number : Nat) (a_t_weight : Nat) (a_t_leastLike : Nat) (a_t_row : Nat) (a_t_lipsOf : Nat) (a_t_others : Nat) (t_words : Int32) (t_rowLips : Int32) (t_girlKnows : Int32) (t_others : Nat → Int32) : va_W := [(a_t, .inr (3, [.int t_words, .ref a_t_length, .ref a_t_number, .ref a_t_weight, .ref a_t_leastLike, .ref a_t_row, .int t_rowLips, .int t_girlKnows, .ref a_t_lipsOf, .ref a_t_others])), (a_t_others, .inl (E.2.1 0, 10, .inl t_others))]
def rm_Lexicon_gottenOf : Room := { frames := 1, cells := 0, slots := 0, locals := 21 }
set_option maxHeartbeats 4000000 in
set_option maxRecDepth 100000 in
theorem c_Lexicon_gottenOf (l : Launch) (E : m_E) (sz N : Nat) (a_t : Nat) (a_t_length : Nat) (a_t_number : Nat) (a_t_weight : Nat) (a_t_leastLike : Nat) (a_t_row : Nat) (a_t_lipsOf : Nat) (a_t_others : Nat) (t_words : Int32) (t_rowLips : Int32) (t_girlKnows : Int32) (t_others : Nat → Int32) (p1 : Int32) (ures : Int32) (hF : F_Lexicon_gottenOf N p1 t_words t_others = some ures) : m_Met l yX3_gottenOf cX3_gottenOf 4 (some .int) rm_Lexicon_gottenOf E (wd_Lexicon_gottenOf E a_t a_t_length a_t_number a_t_weight a_t_leastLike a_t_row a_t_lipsOf a_t_others t_words t_rowLips t_girlKnows t_others) (wd_Lexicon_gottenOf E a_t a_t_length a_t_number a_t_weight a_t_leastLike a_t_row a_t_lipsOf a_t_others t_words t_rowLips t_girlKnows t_others) sz [.ref a_t, .int p1] (some (.int ures)) := by
  refine m_ofI (by decide) (Nat.le_of_ble_eq_true rfl) ?_
  intro p e s m args below meth c A Q ls X hW hA hl hret
  obtain ⟨hx, hb, -, hown, hts, hK, -, hG⟩ := id X
  have hl : lv_has ls 4 [(0, .ref a_t), (1, .int p1)] := hl
  unfold F_Lexicon_gottenOf at hF
  refine lv_iconst (v := (0 : Int32)) hx hb dX3_gottenOf_0 (by decide) ?_
  refine lv_istore_n (lv' := [(2, .int (0 : Int32)), (0, .ref a_t), (1, .int p1)]) hx hb dX3_gottenOf_1 rfl hl (by decide) rfl (fun ls hl => ?_)
  refine lv_iconst (v := (0 : Int32)) hx hb dX3_gottenOf_2 (by decide) ?_
  refine lv_istore_n (lv' := [(3, .int (0 : Int32)), (2, .int (0 : Int32)), (0, .ref a_t), (1, .int p1)]) hx hb dX3_gottenOf_3 rfl hl (by decide) rfl (fun ls hl => ?_)
  obtain ⟨x2_2, hX2, hF⟩ := bO_s1 hF
  have L1 : ∀ (k0 : Nat) (x2 : Int32) (x3 : Int32) (x2_2 : Int32) (H : Heap) (locs : List Loc) (ls : Array Slot), Lexicon_gottenOf_L4 t_words p1 t_others k0 x2 x3 = some x2_2 → m_H E A (wd_Lexicon_gottenOf E a_t a_t_length a_t_number a_t_weight a_t_leastLike a_t_row a_t_lipsOf a_t_others t_words t_rowLips t_girlKnows t_others) s.heap H locs → lv_has ls 4 [(3, .int x3), (2, .int x2), (0, .ref a_t), (1, .int p1)] → (∀ (H : Heap) (locs : List Loc) (ls : Array Slot), m_H E A (wd_Lexicon_gottenOf E a_t a_t_length a_t_number a_t_weight a_t_leastLike a_t_row a_t_lipsOf a_t_others t_words t_rowLips t_girlKnows t_others) s.heap H locs → lv_has ls 4 [(2, .int x2_2)] → W p l e rm_Lexicon_gottenOf s m args below meth c H locs 0 0 Q (F0 m 43 ls [])) → W p l e rm_Lexicon_gottenOf s m args below meth c H locs 0 0 Q (F0 m 4 ls []) := by
    clear hF
    intro k0
    induction k0 with
    | zero =>
      intro x2 x3 x2_2 H locs ls hF
      cases hF
    | succ k0 ih4 =>
      intro x2 x3 x2_2 H locs ls hF hW hl hk3
      rw [Lexicon_gottenOf_L4] at hF
      refine lv_iload_n hx hb dX3_gottenOf_4 rfl (lv_at hl 0 rfl) ?_
      refine lv_aload_n hx hb dX3_gottenOf_5 rfl (lv_at hl 2 rfl) ?_
      refine m_get X hW fdX3_36 0 rfl rfl dX3_gottenOf_6 ?_
      refine lv_icmp_ge (tgt := 43) hx hb dX3_gottenOf_9 (by decide) (fun c5 => ?_) (fun c5 => ?_)
      · have hF := if_y c5 hF
        cases hF
        exact hk3 _ _ _ hW (lv_sub hl [1] rfl)
      · have hF := if_n c5 hF
        refine lv_iload_n hx hb dX3_gottenOf_12 rfl (lv_at hl 3 rfl) ?_
        refine lv_iload_n hx hb dX3_gottenOf_13 rfl (lv_at hl 0 rfl) ?_
        refine m_callN X hW hA hl.1 lkX3_76 (c_S_hasBit l E _ N   p1 x3 (F_S_hasBit p1 x3) rfl) [] (by decide) rfl rfl (ws' := (wd_Lexicon_gottenOf E a_t a_t_length a_t_number a_t_weight a_t_leastLike a_t_row a_t_lipsOf a_t_others t_words t_rowLips t_girlKnows t_others)) rfl (As := [.int p1, .int x3]) (rest := []) rfl rfl ⟨rfl, rfl, Nat.le_of_ble_eq_true rfl, Nat.le_of_ble_eq_true rfl⟩ (Nat.le_of_ble_eq_true rfl) (Nat.zero_le _) (Nat.zero_le _) dX3_gottenOf_14 (fun H locs hW => ?_)
        refine lv_if_eq (tgt := 37) hx hb dX3_gottenOf_17 (by decide) (fun c6 => ?_) (fun c6 => ?_)
        · have hF := if_y c6 hF
          refine lv_iinc (v := (x3 + (1 : Int32))) (lv' := [(3, .int (x3 + (1 : Int32))), (2, .int x2), (0, .ref a_t), (1, .int p1)]) hx hb dX3_gottenOf_37 hl (k := 0) rfl rfl (by decide) rfl (fun ls hl => ?_)
          refine lv_goto (tgt := 4) hx hb dX3_gottenOf_40 (by decide) ?_
          exact ih4 x2 (x3 + (1 : Int32)) x2_2 _ _ _ hF hW (lv_sub hl [0, 1, 2, 3] rfl) hk3
        · have hF := if_n c6 hF
          refine lv_aload_n hx hb dX3_gottenOf_20 rfl (lv_at hl 2 rfl) ?_
          refine m_get X hW fdX3_30 0 rfl rfl dX3_gottenOf_21 ?_
          refine lv_iload_n hx hb dX3_gottenOf_24 rfl (lv_at hl 0 rfl) ?_
          obtain ⟨g7, hF⟩ := gd_some hF
          refine m_iald X hW 1 (k := x3.toNatClampNeg) rfl g7 rfl dX3_gottenOf_25 ?_
          refine lv_iload_n hx hb dX3_gottenOf_26 rfl (lv_at hl 3 rfl) ?_
          refine lv_iand hx hb dX3_gottenOf_27 ?_
          refine lv_if_ne (tgt := 37) hx hb dX3_gottenOf_28 (by decide) (fun c8 => ?_) (fun c8 => ?_)
          · have hF := if_n c8 hF
            refine lv_iinc (v := (x3 + (1 : Int32))) (lv' := [(3, .int (x3 + (1 : Int32))), (2, .int x2), (0, .ref a_t), (1, .int p1)]) hx hb dX3_gottenOf_37 hl (k := 0) rfl rfl (by decide) rfl (fun ls hl => ?_)
            refine lv_goto (tgt := 4) hx hb dX3_gottenOf_40 (by decide) ?_
            exact ih4 x2 (x3 + (1 : Int32)) x2_2 _ _ _ hF hW (lv_sub hl [0, 1, 2, 3] rfl) hk3
          · have hF := if_y c8 hF
            refine lv_iload_n hx hb dX3_gottenOf_31 rfl (lv_at hl 1 rfl) ?_
            refine lv_iconst (v := (1 : Int32)) hx hb dX3_gottenOf_32 (by decide) ?_
            refine lv_iload_n hx hb dX3_gottenOf_33 rfl (lv_at hl 0 rfl) ?_
            refine m_ishl hx hb dX3_gottenOf_34 ?_
            refine lv_ior hx hb dX3_gottenOf_35 ?_
            refine lv_istore_n (lv' := [(2, .int (x2 ||| (jshl (1 : Int32) x3))), (3, .int x3), (0, .ref a_t), (1, .int p1)]) hx hb dX3_gottenOf_36 rfl hl (by decide) rfl (fun ls hl => ?_)
            refine lv_iinc (v := (x3 + (1 : Int32))) (lv' := [(3, .int (x3 + (1 : Int32))), (2, .int (x2 ||| (jshl (1 : Int32) x3))), (0, .ref a_t), (1, .int p1)]) hx hb dX3_gottenOf_37 hl (k := 1) rfl rfl (by decide) rfl (fun ls hl => ?_)
            refine lv_goto (tgt := 4) hx hb dX3_gottenOf_40 (by decide) ?_
            exact ih4 (x2 ||| (jshl (1 : Int32) x3)) (x3 + (1 : Int32)) x2_2 _ _ _ hF hW (lv_sub hl [0, 1, 2, 3] rfl) hk3
  refine L1 N (0 : Int32) (0 : Int32) x2_2 _ _ _ hX2 hW (lv_sub hl [0, 1, 2, 3] rfl) ?_
  intro H locs ls hW hl
  clear L1
  refine lv_iload_n hx hb dX3_gottenOf_43 rfl (lv_at hl 0 rfl) ?_
  have hq := Option.some.inj hF
  subst hq
  exact hret _ _ _ _ hW dX3_gottenOf_44
abbrev wd_Lexicon_gotten (E : m_E) (a_t : Nat) (a_t_number : Nat) (a_t_row : Nat) (a_t_length : Nat) (a_t_weight : Nat) (a_t_leastLike : Nat) (a_t_lipsOf : Nat) (a_t_others : Nat) (t_words : Int32) (t_rowLips : Int32) (t_girlKnows : Int32) (t_length : Nat → Int32) (t_weight : Nat → Int32) (t_leastLike : Nat → Int32) (t_lipsOf : Nat → Int32) (t_others : Nat → Int32) : va_W := [(a_t, .inr (3, [.int t_words, .ref a_t_length, .ref a_t_number, .ref a_t_weight, .ref a_t_leastLike, .ref a_t_row, .int t_rowLips, .int t_girlKnows, .ref a_t_lipsOf, .ref a_t_others])), (a_t_length, .inl (E.2.1 0, 10, .inl t_length)), (a_t_weight, .inl (E.2.1 0, 10, .inl t_weight)), (a_t_leastLike, .inl (E.2.1 0, 6, .inl t_leastLike)), (a_t_lipsOf, .inl (E.2.1 0, 60, .inl t_lipsOf)), (a_t_others, .inl (E.2.1 0, 10, .inl t_others))]
def rm_Lexicon_gotten : Room := { frames := 4, cells := 0, slots := 0, locals := 91 }
set_option maxHeartbeats 4000000 in
set_option maxRecDepth 100000 in
theorem c_Lexicon_gotten (l : Launch) (E : m_E) (sz N : Nat) (a_t : Nat) (a_t_number : Nat) (a_t_row : Nat) (a_t_length : Nat) (a_t_weight : Nat) (a_t_leastLike : Nat) (a_t_lipsOf : Nat) (a_t_others : Nat) (t_words : Int32) (t_rowLips : Int32) (t_girlKnows : Int32) (t_length : Nat → Int32) (t_weight : Nat → Int32) (t_leastLike : Nat → Int32) (t_lipsOf : Nat → Int32) (t_others : Nat → Int32) (p1 : Int32) (ures : Int32 × (Nat → Int32)) (hF : F_Lexicon_gotten N p1 t_words t_length t_weight t_leastLike t_lipsOf t_others = some ures) : m_Met l yX3_gotten cX3_gotten 2 (some .int) rm_Lexicon_gotten E (wd_Lexicon_gotten E a_t a_t_number a_t_row a_t_length a_t_weight a_t_leastLike a_t_lipsOf a_t_others t_words t_rowLips t_girlKnows t_length t_weight t_leastLike t_lipsOf t_others) (wd_Lexicon_gotten E a_t a_t_number a_t_row a_t_length a_t_weight a_t_leastLike a_t_lipsOf a_t_others t_words t_rowLips t_girlKnows t_length t_weight t_leastLike t_lipsOf ures.2) sz [.ref a_t, .int p1] (some (.int ures.1)) := by
  refine m_ofI (by decide) (Nat.le_of_ble_eq_true rfl) ?_
  intro p e s m args below meth c A Q ls X hW hA hl hret
  obtain ⟨hx, hb, -, hown, hts, hK, -, hG⟩ := id X
  have hl : lv_has ls 2 [(0, .ref a_t), (1, .int p1)] := hl
  unfold F_Lexicon_gotten at hF
  refine lv_aload_n hx hb dX3_gotten_0 rfl (lv_at hl 0 rfl) ?_
  obtain ⟨t_others'_2, hC1, hF⟩ := bO_s1 hF
  refine m_callV X hW hA hl.1 lkX3_97 (c_Lexicon_findBetterAlike l E _ N a_t a_t_number a_t_row a_t_length a_t_weight a_t_leastLike a_t_lipsOf a_t_others t_words t_rowLips t_girlKnows t_length t_weight t_leastLike t_lipsOf t_others  t_others'_2 hC1) [0, 1, 2, 3, 4, 5] (by decide) rfl rfl (ws' := (wd_Lexicon_gotten E a_t a_t_number a_t_row a_t_length a_t_weight a_t_leastLike a_t_lipsOf a_t_others t_words t_rowLips t_girlKnows t_length t_weight t_leastLike t_lipsOf t_others'_2)) rfl 0 rfl rfl rfl (As := []) (rest := []) rfl rfl ⟨rfl, rfl, Nat.le_of_ble_eq_true rfl, Nat.le_of_ble_eq_true rfl⟩ (Nat.le_of_ble_eq_true rfl) (Nat.zero_le _) (Nat.zero_le _) dX3_gotten_1 (fun H locs hW => ?_)
  clear hC1
  refine lv_aload_n hx hb dX3_gotten_4 rfl (lv_at hl 0 rfl) ?_
  refine lv_iload_n hx hb dX3_gotten_5 rfl (lv_at hl 1 rfl) ?_
  obtain ⟨r6, hC2, hF⟩ := bO_s1 hF
  refine m_callV X hW hA hl.1 lkX3_100 (c_Lexicon_gottenOf l E _ N a_t a_t_length a_t_number a_t_weight a_t_leastLike a_t_row a_t_lipsOf a_t_others t_words t_rowLips t_girlKnows t_others'_2 p1 r6 hC2) [0, 5] (by decide) rfl rfl (ws' := (wd_Lexicon_gotten E a_t a_t_number a_t_row a_t_length a_t_weight a_t_leastLike a_t_lipsOf a_t_others t_words t_rowLips t_girlKnows t_length t_weight t_leastLike t_lipsOf t_others'_2)) rfl 0 rfl rfl rfl (As := [.int p1]) (rest := []) rfl rfl ⟨rfl, rfl, Nat.le_of_ble_eq_true rfl, Nat.le_of_ble_eq_true rfl⟩ (Nat.le_of_ble_eq_true rfl) (Nat.zero_le _) (Nat.zero_le _) dX3_gotten_6 (fun H locs hW => ?_)
  clear hC2
  have hq := Option.some.inj hF
  subst hq
  exact hret _ _ _ _ hW dX3_gotten_9
abbrev wd_S_gets (E : m_E) (a_t : Nat) (a_t_draft : Nat) (a_t_firstImage : Nat) (a_t_secondImage : Nat) (a_t_news : Nat) (a_t_otherNews : Nat) (a_t_readings : Nat) (a_t_chances : Nat) (a_t_turning : Nat) (a_t_text : Nat) (a_t_fraction : Nat) (a_t_now : Nat) (a_t_now_floor : Nat) (a_t_now_sightings : Nat) (a_t_now_level : Nat) (a_t_now_loss : Nat) (a_t_now_lexicon : Nat) (a_t_now_lexicon_number : Nat) (a_t_now_lexicon_row : Nat) (a_t_now_lexicon_length : Nat) (a_t_now_lexicon_weight : Nat) (a_t_now_lexicon_leastLike : Nat) (a_t_now_lexicon_lipsOf : Nat) (a_t_now_lexicon_others : Nat) (t_now_clearness : Int32) (t_now_isKept : Int32) (t_now_lexicon_words : Int32) (t_now_lexicon_rowLips : Int32) (t_now_lexicon_girlKnows : Int32) (t_now_lexicon_length : Nat → Int32) (t_now_lexicon_weight : Nat → Int32) (t_now_lexicon_leastLike : Nat → Int32) (t_now_lexicon_lipsOf : Nat → Int32) (t_now_lexicon_others : Nat → Int32) : va_W := [(a_t, .inr (11, [.ref a_t_now, .ref a_t_draft, .ref a_t_firstImage, .ref a_t_secondImage, .ref a_t_news, .ref a_t_otherNews, .ref a_t_readings, .ref a_t_chances, .ref a_t_turning, .ref a_t_text, .ref a_t_fraction])), (a_t_now, .inr (7, [.ref a_t_now_floor, .ref a_t_now_sightings, .ref a_t_now_lexicon, .ref a_t_now_level, .ref a_t_now_loss, .int t_now_clearness, .int t_now_isKept])), (a_t_now_lexicon, .inr (3, [.int t_now_lexicon_words, .ref a_t_now_lexicon_length, .ref a_t_now_lexicon_number, .ref a_t_now_lexicon_weight, .ref a_t_now_lexicon_leastLike, .ref a_t_now_lexicon_row, .int t_now_lexicon_rowLips, .int t_now_lexicon_girlKnows, .ref a_t_now_lexicon_lipsOf, .ref a_t_now_lexicon_others])), (a_t_now_lexicon_length, .inl (E.2.1 0, 10, .inl t_now_lexicon_length)), (a_t_now_lexicon_weight, .inl (E.2.1 0, 10, .inl t_now_lexicon_weight)), (a_t_now_lexicon_leastLike, .inl (E.2.1 0, 6, .inl t_now_lexicon_leastLike)), (a_t_now_lexicon_lipsOf, .inl (E.2.1 0, 60, .inl t_now_lexicon_lipsOf)), (a_t_now_lexicon_others, .inl (E.2.1 0, 10, .inl t_now_lexicon_others))]
def rm_S_gets : Room := { frames := 5, cells := 0, slots := 0, locals := 112 }
set_option maxHeartbeats 4000000 in
set_option maxRecDepth 100000 in
theorem c_S_gets (l : Launch) (E : m_E) (sz N : Nat) (a_t : Nat) (a_t_draft : Nat) (a_t_firstImage : Nat) (a_t_secondImage : Nat) (a_t_news : Nat) (a_t_otherNews : Nat) (a_t_readings : Nat) (a_t_chances : Nat) (a_t_turning : Nat) (a_t_text : Nat) (a_t_fraction : Nat) (a_t_now : Nat) (a_t_now_floor : Nat) (a_t_now_sightings : Nat) (a_t_now_level : Nat) (a_t_now_loss : Nat) (a_t_now_lexicon : Nat) (a_t_now_lexicon_number : Nat) (a_t_now_lexicon_row : Nat) (a_t_now_lexicon_length : Nat) (a_t_now_lexicon_weight : Nat) (a_t_now_lexicon_leastLike : Nat) (a_t_now_lexicon_lipsOf : Nat) (a_t_now_lexicon_others : Nat) (t_now_clearness : Int32) (t_now_isKept : Int32) (t_now_lexicon_words : Int32) (t_now_lexicon_rowLips : Int32) (t_now_lexicon_girlKnows : Int32) (t_now_lexicon_length : Nat → Int32) (t_now_lexicon_weight : Nat → Int32) (t_now_lexicon_leastLike : Nat → Int32) (t_now_lexicon_lipsOf : Nat → Int32) (t_now_lexicon_others : Nat → Int32)  (ures : Int32 × (Nat → Int32)) (hF : F_S_gets N t_now_lexicon_words t_now_lexicon_girlKnows t_now_lexicon_length t_now_lexicon_weight t_now_lexicon_leastLike t_now_lexicon_lipsOf t_now_lexicon_others = some ures) : m_Met l yX11_gets cX11_gets 1 (some .int) rm_S_gets E (wd_S_gets E a_t a_t_draft a_t_firstImage a_t_secondImage a_t_news a_t_otherNews a_t_readings a_t_chances a_t_turning a_t_text a_t_fraction a_t_now a_t_now_floor a_t_now_sightings a_t_now_level a_t_now_loss a_t_now_lexicon a_t_now_lexicon_number a_t_now_lexicon_row a_t_now_lexicon_length a_t_now_lexicon_weight a_t_now_lexicon_leastLike a_t_now_lexicon_lipsOf a_t_now_lexicon_others t_now_clearness t_now_isKept t_now_lexicon_words t_now_lexicon_rowLips t_now_lexicon_girlKnows t_now_lexicon_length t_now_lexicon_weight t_now_lexicon_leastLike t_now_lexicon_lipsOf t_now_lexicon_others) (wd_S_gets E a_t a_t_draft a_t_firstImage a_t_secondImage a_t_news a_t_otherNews a_t_readings a_t_chances a_t_turning a_t_text a_t_fraction a_t_now a_t_now_floor a_t_now_sightings a_t_now_level a_t_now_loss a_t_now_lexicon a_t_now_lexicon_number a_t_now_lexicon_row a_t_now_lexicon_length a_t_now_lexicon_weight a_t_now_lexicon_leastLike a_t_now_lexicon_lipsOf a_t_now_lexicon_others t_now_clearness t_now_isKept t_now_lexicon_words t_now_lexicon_rowLips t_now_lexicon_girlKnows t_now_lexicon_length t_now_lexicon_weight t_now_lexicon_leastLike t_now_lexicon_lipsOf ures.2) sz [.ref a_t] (some (.int ures.1)) := by
  refine m_ofI (by decide) (Nat.le_of_ble_eq_true rfl) ?_
  intro p e s m args below meth c A Q ls X hW hA hl hret
  obtain ⟨hx, hb, -, hown, hts, hK, -, hG⟩ := id X
  have hl : lv_has ls 1 [(0, .ref a_t)] := hl
  unfold F_S_gets at hF
  refine lv_aload_n hx hb dX11_gets_0 rfl (lv_at hl 0 rfl) ?_
  refine m_get X hW fdX11_10 0 rfl rfl dX11_gets_1 ?_
  refine m_get X hW fdX11_156 1 rfl rfl dX11_gets_4 ?_
  refine lv_aload_n hx hb dX11_gets_7 rfl (lv_at hl 0 rfl) ?_
  refine m_get X hW fdX11_10 0 rfl rfl dX11_gets_8 ?_
  refine m_get X hW fdX11_156 1 rfl rfl dX11_gets_11 ?_
  refine m_get X hW fdX11_225 2 rfl rfl dX11_gets_14 ?_
  obtain ⟨r17, t_now_lexicon_others'_2, hC1, hF⟩ := bO_s2 hF
  refine m_callV X hW hA hl.1 lkX11_228 (c_Lexicon_gotten l E _ N a_t_now_lexicon a_t_now_lexicon_number a_t_now_lexicon_row a_t_now_lexicon_length a_t_now_lexicon_weight a_t_now_lexicon_leastLike a_t_now_lexicon_lipsOf a_t_now_lexicon_others t_now_lexicon_words t_now_lexicon_rowLips t_now_lexicon_girlKnows t_now_lexicon_length t_now_lexicon_weight t_now_lexicon_leastLike t_now_lexicon_lipsOf t_now_lexicon_others t_now_lexicon_girlKnows (r17, t_now_lexicon_others'_2) hC1) [2, 3, 4, 5, 6, 7] (by decide) rfl rfl (ws' := (wd_S_gets E a_t a_t_draft a_t_firstImage a_t_secondImage a_t_news a_t_otherNews a_t_readings a_t_chances a_t_turning a_t_text a_t_fraction a_t_now a_t_now_floor a_t_now_sightings a_t_now_level a_t_now_loss a_t_now_lexicon a_t_now_lexicon_number a_t_now_lexicon_row a_t_now_lexicon_length a_t_now_lexicon_weight a_t_now_lexicon_leastLike a_t_now_lexicon_lipsOf a_t_now_lexicon_others t_now_clearness t_now_isKept t_now_lexicon_words t_now_lexicon_rowLips t_now_lexicon_girlKnows t_now_lexicon_length t_now_lexicon_weight t_now_lexicon_leastLike t_now_lexicon_lipsOf t_now_lexicon_others'_2)) rfl 2 rfl rfl rfl (As := [.int t_now_lexicon_girlKnows]) (rest := []) rfl rfl ⟨rfl, rfl, Nat.le_of_ble_eq_true rfl, Nat.le_of_ble_eq_true rfl⟩ (Nat.le_of_ble_eq_true rfl) (Nat.zero_le _) (Nat.zero_le _) dX11_gets_17 (fun H locs hW => ?_)
  clear hC1
  have hq := Option.some.inj hF
  subst hq
  exact hret _ _ _ _ hW dX11_gets_20
abbrev wd_Fraction_put0 (E : m_E) (a_t : Nat) (a_t_above : Nat) (a_t_above_limb : Nat) (a_t_below : Nat) (a_t_below_limb : Nat) (t_above_limbs : Int32) (t_above_limb : Nat → Int32) (t_below_limbs : Int32) (t_below_limb : Nat → Int32) : va_W := [(a_t, .inr (2, [.ref a_t_above, .ref a_t_below])), (a_t_above, .inr (4, [.ref a_t_above_limb, .int t_above_limbs])), (a_t_above_limb, .inl (E.2.1 0, 40, .inl t_above_limb)), (a_t_below, .inr (4, [.ref a_t_below_limb, .int t_below_limbs])), (a_t_below_limb, .inl (E.2.1 0, 40, .inl t_below_limb))]
def rm_Fraction_put0 : Room := { frames := 3, cells := 0, slots := 0, locals := 67 }
set_option maxHeartbeats 4000000 in
set_option maxRecDepth 100000 in
theorem c_Fraction_put0 (l : Launch) (E : m_E) (sz N : Nat) (a_t : Nat) (a_t_above : Nat) (a_t_above_limb : Nat) (a_t_below : Nat) (a_t_below_limb : Nat) (t_above_limbs : Int32) (t_above_limb : Nat → Int32) (t_below_limbs : Int32) (t_below_limb : Nat → Int32) (p1 : Int32) (p2 : Int32) (ures : Int32 × (Nat → Int32) × Int32 × (Nat → Int32)) (hF : F_Fraction_put0 N p1 p2 t_above_limb t_below_limb = some ures) : m_Met l yX2_put cX2_put 3 none rm_Fraction_put0 E (wd_Fraction_put0 E a_t a_t_above a_t_above_limb a_t_below a_t_below_limb t_above_limbs t_above_limb t_below_limbs t_below_limb) (wd_Fraction_put0 E a_t a_t_above a_t_above_limb a_t_below a_t_below_limb ures.1 ures.2.1 ures.2.2.1 ures.2.2.2) sz [.ref a_t, .int p1, .int p2] none := by
  refine m_ofV (by decide) (Nat.le_of_ble_eq_true rfl) ?_
  intro p e s m args below meth c A Q ls X hW hA hl hret
  obtain ⟨hx, hb, -, hown, hts, hK, -, hG⟩ := id X
  have hl : lv_has ls 3 [(0, .ref a_t), (1, .int p1), (2, .int p2)] := hl
  unfold F_Fraction_put0 at hF
  refine lv_aload_n hx hb dX2_put_0 rfl (lv_at hl 0 rfl) ?_
  refine m_get X hW fdX2_10 0 rfl rfl dX2_put_1 ?_
  refine lv_iload_n hx hb dX2_put_4 rfl (lv_at hl 1 rfl) ?_
  obtain ⟨t_above_limbs'_3, t_above_limb'_3, hC1, hF⟩ := bO_s2 hF
  refine m_callV X hW hA hl.1 lkX2_19 (c_Natural_put l E _ N a_t_above a_t_above_limb t_above_limbs t_above_limb p1 (t_above_limbs'_3, t_above_limb'_3) hC1) [1, 2] (by decide) rfl rfl (ws' := (wd_Fraction_put0 E a_t a_t_above a_t_above_limb a_t_below a_t_below_limb t_above_limbs'_3 t_above_limb'_3 t_below_limbs t_below_limb)) rfl 1 rfl rfl rfl (As := [.int p1]) (rest := []) rfl rfl ⟨rfl, rfl, Nat.le_of_ble_eq_true rfl, Nat.le_of_ble_eq_true rfl⟩ (Nat.le_of_ble_eq_true rfl) (Nat.zero_le _) (Nat.zero_le _) dX2_put_5 (fun H locs hW => ?_)
  clear hC1
  refine lv_aload_n hx hb dX2_put_8 rfl (lv_at hl 0 rfl) ?_
  refine m_get X hW fdX2_16 0 rfl rfl dX2_put_9 ?_
  refine lv_iload_n hx hb dX2_put_12 rfl (lv_at hl 2 rfl) ?_
  obtain ⟨t_below_limbs'_3, t_below_limb'_3, hC2, hF⟩ := bO_s2 hF
  refine m_callV X hW hA hl.1 lkX2_19 (c_Natural_put l E _ N a_t_below a_t_below_limb t_below_limbs t_below_limb p2 (t_below_limbs'_3, t_below_limb'_3) hC2) [3, 4] (by decide) rfl rfl (ws' := (wd_Fraction_put0 E a_t a_t_above a_t_above_limb a_t_below a_t_below_limb t_above_limbs'_3 t_above_limb'_3 t_below_limbs'_3 t_below_limb'_3)) rfl 3 rfl rfl rfl (As := [.int p2]) (rest := []) rfl rfl ⟨rfl, rfl, Nat.le_of_ble_eq_true rfl, Nat.le_of_ble_eq_true rfl⟩ (Nat.le_of_ble_eq_true rfl) (Nat.zero_le _) (Nat.zero_le _) dX2_put_13 (fun H locs hW => ?_)
  clear hC2
  refine lv_aload_n hx hb dX2_put_16 rfl (lv_at hl 0 rfl) ?_
  obtain ⟨t_above_limbs'_4, t_above_limb'_4, t_below_limbs'_4, t_below_limb'_4, hC3, hF⟩ := bO_s4 hF
  refine m_callV X hW hA hl.1 lkX2_27 (c_Fraction_toLowestTerms l E _ N a_t a_t_above a_t_above_limb a_t_below a_t_below_limb t_above_limbs'_3 t_above_limb'_3 t_below_limbs'_3 t_below_limb'_3  (t_above_limbs'_4, t_above_limb'_4, t_below_limbs'_4, t_below_limb'_4) hC3) [0, 1, 2, 3, 4] (by decide) rfl rfl (ws' := (wd_Fraction_put0 E a_t a_t_above a_t_above_limb a_t_below a_t_below_limb t_above_limbs'_4 t_above_limb'_4 t_below_limbs'_4 t_below_limb'_4)) rfl 0 rfl rfl rfl (As := []) (rest := []) rfl rfl ⟨rfl, rfl, Nat.le_of_ble_eq_true rfl, Nat.le_of_ble_eq_true rfl⟩ (Nat.le_of_ble_eq_true rfl) (Nat.zero_le _) (Nat.zero_le _) dX2_put_17 (fun H locs hW => ?_)
  clear hC3
  have hq := Option.some.inj hF
  subst hq
  exact hret _ _ _ _ hW dX2_put_20
abbrev wd_S_share (E : m_E) (a_t : Nat) (a_t_draft : Nat) (a_t_firstImage : Nat) (a_t_secondImage : Nat) (a_t_news : Nat) (a_t_otherNews : Nat) (a_t_readings : Nat) (a_t_chances : Nat) (a_t_turning : Nat) (a_t_text : Nat) (a_t_now : Nat) (a_t_now_floor : Nat) (a_t_now_sightings : Nat) (a_t_now_level : Nat) (a_t_now_loss : Nat) (a_t_now_lexicon : Nat) (a_t_now_lexicon_number : Nat) (a_t_now_lexicon_row : Nat) (a_t_now_lexicon_length : Nat) (a_t_now_lexicon_weight : Nat) (a_t_now_lexicon_leastLike : Nat) (a_t_now_lexicon_lipsOf : Nat) (a_t_now_lexicon_others : Nat) (a_t_fraction : Nat) (a_t_fraction_above : Nat) (a_t_fraction_above_limb : Nat) (a_t_fraction_below : Nat) (a_t_fraction_below_limb : Nat) (t_now_clearness : Int32) (t_now_isKept : Int32) (t_now_lexicon_words : Int32) (t_now_lexicon_rowLips : Int32) (t_now_lexicon_girlKnows : Int32) (t_now_lexicon_length : Nat → Int32) (t_now_lexicon_weight : Nat → Int32) (t_now_lexicon_leastLike : Nat → Int32) (t_now_lexicon_lipsOf : Nat → Int32) (t_now_lexicon_others : Nat → Int32) (t_fraction_above_limbs : Int32) (t_fraction_above_limb : Nat → Int32) (t_fraction_below_limbs : Int32) (t_fraction_below_limb : Nat → Int32) : va_W := [(a_t, .inr (11, [.ref a_t_now, .ref a_t_draft, .ref a_t_firstImage, .ref a_t_secondImage, .ref a_t_news, .ref a_t_otherNews, .ref a_t_readings, .ref a_t_chances, .ref a_t_turning, .ref a_t_text, .ref a_t_fraction])), (a_t_now, .inr (7, [.ref a_t_now_floor, .ref a_t_now_sightings, .ref a_t_now_lexicon, .ref a_t_now_level, .ref a_t_now_loss, .int t_now_clearness, .int t_now_isKept])), (a_t_now_lexicon, .inr (3, [.int t_now_lexicon_words, .ref a_t_now_lexicon_length, .ref a_t_now_lexicon_number, .ref a_t_now_lexicon_weight, .ref a_t_now_lexicon_leastLike, .ref a_t_now_lexicon_row, .int t_now_lexicon_rowLips, .int t_now_lexicon_girlKnows, .ref a_t_now_lexicon_lipsOf, .ref a_t_now_lexicon_others])), (a_t_now_lexicon_length, .inl (E.2.1 0, 10, .inl t_now_lexicon_length)), (a_t_now_lexicon_weight, .inl (E.2.1 0, 10, .inl t_now_lexicon_weight)), (a_t_now_lexicon_leastLike, .inl (E.2.1 0, 6, .inl t_now_lexicon_leastLike)), (a_t_now_lexicon_lipsOf, .inl (E.2.1 0, 60, .inl t_now_lexicon_lipsOf)), (a_t_now_lexicon_others, .inl (E.2.1 0, 10, .inl t_now_lexicon_others)), (a_t_fraction, .inr (2, [.ref a_t_fraction_above, .ref a_t_fraction_below])), (a_t_fraction_above, .inr (4, [.ref a_t_fraction_above_limb, .int t_fraction_above_limbs])), (a_t_fraction_above_limb, .inl (E.2.1 0, 40, .inl t_fraction_above_limb)), (a_t_fraction_below, .inr (4, [.ref a_t_fraction_below_limb, .int t_fraction_below_limbs])), (a_t_fraction_below_limb, .inl (E.2.1 0, 40, .inl t_fraction_below_limb))]
def rm_S_share : Room := { frames := 5, cells := 0, slots := 0, locals := 112 }
set_option maxHeartbeats 4000000 in
set_option maxRecDepth 100000 in
theorem c_S_share (l : Launch) (E : m_E) (sz N : Nat) (a_t : Nat) (a_t_draft : Nat) (a_t_firstImage : Nat) (a_t_secondImage : Nat) (a_t_news : Nat) (a_t_otherNews : Nat) (a_t_readings : Nat) (a_t_chances : Nat) (a_t_turning : Nat) (a_t_text : Nat) (a_t_now : Nat) (a_t_now_floor : Nat) (a_t_now_sightings : Nat) (a_t_now_level : Nat) (a_t_now_loss : Nat) (a_t_now_lexicon : Nat) (a_t_now_lexicon_number : Nat) (a_t_now_lexicon_row : Nat) (a_t_now_lexicon_length : Nat) (a_t_now_lexicon_weight : Nat) (a_t_now_lexicon_leastLike : Nat) (a_t_now_lexicon_lipsOf : Nat) (a_t_now_lexicon_others : Nat) (a_t_fraction : Nat) (a_t_fraction_above : Nat) (a_t_fraction_above_limb : Nat) (a_t_fraction_below : Nat) (a_t_fraction_below_limb : Nat) (t_now_clearness : Int32) (t_now_isKept : Int32) (t_now_lexicon_words : Int32) (t_now_lexicon_rowLips : Int32) (t_now_lexicon_girlKnows : Int32) (t_now_lexicon_length : Nat → Int32) (t_now_lexicon_weight : Nat → Int32) (t_now_lexicon_leastLike : Nat → Int32) (t_now_lexicon_lipsOf : Nat → Int32) (t_now_lexicon_others : Nat → Int32) (t_fraction_above_limbs : Int32) (t_fraction_above_limb : Nat → Int32) (t_fraction_below_limbs : Int32) (t_fraction_below_limb : Nat → Int32)  (ures : Int32 × (Nat → Int32) × Int32 × (Nat → Int32) × Int32 × (Nat → Int32)) (hF : F_S_share N t_now_lexicon_words t_now_lexicon_girlKnows t_now_lexicon_length t_now_lexicon_weight t_now_lexicon_leastLike t_now_lexicon_lipsOf t_now_lexicon_others t_fraction_above_limbs t_fraction_above_limb t_fraction_below_limbs t_fraction_below_limb = some ures) : m_Met l yX11_share cX11_share 2 (some .int) rm_S_share E (wd_S_share E a_t a_t_draft a_t_firstImage a_t_secondImage a_t_news a_t_otherNews a_t_readings a_t_chances a_t_turning a_t_text a_t_now a_t_now_floor a_t_now_sightings a_t_now_level a_t_now_loss a_t_now_lexicon a_t_now_lexicon_number a_t_now_lexicon_row a_t_now_lexicon_length a_t_now_lexicon_weight a_t_now_lexicon_leastLike a_t_now_lexicon_lipsOf a_t_now_lexicon_others a_t_fraction a_t_fraction_above a_t_fraction_above_limb a_t_fraction_below a_t_fraction_below_limb t_now_clearness t_now_isKept t_now_lexicon_words t_now_lexicon_rowLips t_now_lexicon_girlKnows t_now_lexicon_length t_now_lexicon_weight t_now_lexicon_leastLike t_now_lexicon_lipsOf t_now_lexicon_others t_fraction_above_limbs t_fraction_above_limb t_fraction_below_limbs t_fraction_below_limb) (wd_S_share E a_t a_t_draft a_t_firstImage a_t_secondImage a_t_news a_t_otherNews a_t_readings a_t_chances a_t_turning a_t_text a_t_now a_t_now_floor a_t_now_sightings a_t_now_level a_t_now_loss a_t_now_lexicon a_t_now_lexicon_number a_t_now_lexicon_row a_t_now_lexicon_length a_t_now_lexicon_weight a_t_now_lexicon_leastLike a_t_now_lexicon_lipsOf a_t_now_lexicon_others a_t_fraction a_t_fraction_above a_t_fraction_above_limb a_t_fraction_below a_t_fraction_below_limb t_now_clearness t_now_isKept t_now_lexicon_words t_now_lexicon_rowLips t_now_lexicon_girlKnows t_now_lexicon_length t_now_lexicon_weight t_now_lexicon_leastLike t_now_lexicon_lipsOf ures.2.1 ures.2.2.1 ures.2.2.2.1 ures.2.2.2.2.1 ures.2.2.2.2.2) sz [.ref a_t] (some (.int ures.1)) := by
  refine m_ofI (by decide) (Nat.le_of_ble_eq_true rfl) ?_
  intro p e s m args below meth c A Q ls X hW hA hl hret
  obtain ⟨hx, hb, -, hown, hts, hK, -, hG⟩ := id X
  have hl : lv_has ls 2 [(0, .ref a_t)] := hl
  unfold F_S_share at hF
  refine lv_aload_n hx hb dX11_share_0 rfl (lv_at hl 0 rfl) ?_
  refine m_get X hW fdX11_10 0 rfl rfl dX11_share_1 ?_
  refine m_get X hW fdX11_156 1 rfl rfl dX11_share_4 ?_
  refine lv_astore_n (lv' := [(1, .ref a_t_now_lexicon), (0, .ref a_t)]) hx hb dX11_share_7 rfl hl (by decide) rfl (fun ls hl => ?_)
  refine lv_aload_n hx hb dX11_share_8 rfl (lv_at hl 0 rfl) ?_
  refine m_get X hW fdX11_202 2 rfl rfl dX11_share_9 ?_
  refine lv_if_ne (tgt := 18) hx hb dX11_share_12 (by decide) (fun c1 => ?_) (fun c1 => ?_)
  · have hF := if_n c1 hF
    refine lv_aload_n hx hb dX11_share_18 rfl (lv_at hl 1 rfl) ?_
    refine m_get X hW fdX11_66 0 rfl rfl dX11_share_19 ?_
    refine lv_aload_n hx hb dX11_share_22 rfl (lv_at hl 0 rfl) ?_
    refine lv_aload_n hx hb dX11_share_23 rfl (lv_at hl 0 rfl) ?_
    refine lv_aload_n hx hb dX11_share_24 rfl (lv_at hl 0 rfl) ?_
    refine m_get X hW fdX11_225 2 rfl rfl dX11_share_25 ?_
    obtain ⟨r28, t_now_lexicon_others'_2, hC2, hF⟩ := bO_s2 hF
    refine m_callV X hW hA hl.1 lkX11_228 (c_Lexicon_gotten l E _ N a_t_now_lexicon a_t_now_lexicon_number a_t_now_lexicon_row a_t_now_lexicon_length a_t_now_lexicon_weight a_t_now_lexicon_leastLike a_t_now_lexicon_lipsOf a_t_now_lexicon_others t_now_lexicon_words t_now_lexicon_rowLips t_now_lexicon_girlKnows t_now_lexicon_length t_now_lexicon_weight t_now_lexicon_leastLike t_now_lexicon_lipsOf t_now_lexicon_others t_now_lexicon_girlKnows (r28, t_now_lexicon_others'_2) hC2) [2, 3, 4, 5, 6, 7] (by decide) rfl rfl (ws' := (wd_S_share E a_t a_t_draft a_t_firstImage a_t_secondImage a_t_news a_t_otherNews a_t_readings a_t_chances a_t_turning a_t_text a_t_now a_t_now_floor a_t_now_sightings a_t_now_level a_t_now_loss a_t_now_lexicon a_t_now_lexicon_number a_t_now_lexicon_row a_t_now_lexicon_length a_t_now_lexicon_weight a_t_now_lexicon_leastLike a_t_now_lexicon_lipsOf a_t_now_lexicon_others a_t_fraction a_t_fraction_above a_t_fraction_above_limb a_t_fraction_below a_t_fraction_below_limb t_now_clearness t_now_isKept t_now_lexicon_words t_now_lexicon_rowLips t_now_lexicon_girlKnows t_now_lexicon_length t_now_lexicon_weight t_now_lexicon_leastLike t_now_lexicon_lipsOf t_now_lexicon_others'_2 t_fraction_above_limbs t_fraction_above_limb t_fraction_below_limbs t_fraction_below_limb)) rfl 2 rfl rfl rfl (As := [.int t_now_lexicon_girlKnows]) (rest := [.ref a_t_now_lexicon, .ref a_t_fraction]) rfl rfl ⟨rfl, rfl, Nat.le_of_ble_eq_true rfl, Nat.le_of_ble_eq_true rfl⟩ (Nat.le_of_ble_eq_true rfl) (Nat.zero_le _) (Nat.zero_le _) dX11_share_28 (fun H locs hW => ?_)
    clear hC2
    obtain ⟨r31, hC3, hF⟩ := bO_s1 hF
    refine m_callV X hW hA hl.1 lkX11_231 (c_Lexicon_weightOf l E _ N a_t_now_lexicon a_t_now_lexicon_length a_t_now_lexicon_number a_t_now_lexicon_leastLike a_t_now_lexicon_row a_t_now_lexicon_lipsOf a_t_now_lexicon_others a_t_now_lexicon_weight t_now_lexicon_words t_now_lexicon_rowLips t_now_lexicon_girlKnows t_now_lexicon_weight r28 r31 hC3) [2, 4] (by decide) rfl rfl (ws' := (wd_S_share E a_t a_t_draft a_t_firstImage a_t_secondImage a_t_news a_t_otherNews a_t_readings a_t_chances a_t_turning a_t_text a_t_now a_t_now_floor a_t_now_sightings a_t_now_level a_t_now_loss a_t_now_lexicon a_t_now_lexicon_number a_t_now_lexicon_row a_t_now_lexicon_length a_t_now_lexicon_weight a_t_now_lexicon_leastLike a_t_now_lexicon_lipsOf a_t_now_lexicon_others a_t_fraction a_t_fraction_above a_t_fraction_above_limb a_t_fraction_below a_t_fraction_below_limb t_now_clearness t_now_isKept t_now_lexicon_words t_now_lexicon_rowLips t_now_lexicon_girlKnows t_now_lexicon_length t_now_lexicon_weight t_now_lexicon_leastLike t_now_lexicon_lipsOf t_now_lexicon_others'_2 t_fraction_above_limbs t_fraction_above_limb t_fraction_below_limbs t_fraction_below_limb)) rfl 2 rfl rfl rfl (As := [.int r28]) (rest := [.ref a_t_fraction]) rfl rfl ⟨rfl, rfl, Nat.le_of_ble_eq_true rfl, Nat.le_of_ble_eq_true rfl⟩ (Nat.le_of_ble_eq_true rfl) (Nat.zero_le _) (Nat.zero_le _) dX11_share_31 (fun H locs hW => ?_)
    clear hC3
    refine lv_aload_n hx hb dX11_share_34 rfl (lv_at hl 0 rfl) ?_
    refine lv_aload_n hx hb dX11_share_35 rfl (lv_at hl 0 rfl) ?_
    refine m_callV X hW hA hl.1 lkX11_234 (c_Lexicon_allWords l E _ N a_t_now_lexicon a_t_now_lexicon_length a_t_now_lexicon_number a_t_now_lexicon_weight a_t_now_lexicon_leastLike a_t_now_lexicon_row a_t_now_lexicon_lipsOf a_t_now_lexicon_others t_now_lexicon_words t_now_lexicon_rowLips t_now_lexicon_girlKnows  (F_Lexicon_allWords t_now_lexicon_words) rfl) [2] (by decide) rfl rfl (ws' := (wd_S_share E a_t a_t_draft a_t_firstImage a_t_secondImage a_t_news a_t_otherNews a_t_readings a_t_chances a_t_turning a_t_text a_t_now a_t_now_floor a_t_now_sightings a_t_now_level a_t_now_loss a_t_now_lexicon a_t_now_lexicon_number a_t_now_lexicon_row a_t_now_lexicon_length a_t_now_lexicon_weight a_t_now_lexicon_leastLike a_t_now_lexicon_lipsOf a_t_now_lexicon_others a_t_fraction a_t_fraction_above a_t_fraction_above_limb a_t_fraction_below a_t_fraction_below_limb t_now_clearness t_now_isKept t_now_lexicon_words t_now_lexicon_rowLips t_now_lexicon_girlKnows t_now_lexicon_length t_now_lexicon_weight t_now_lexicon_leastLike t_now_lexicon_lipsOf t_now_lexicon_others'_2 t_fraction_above_limbs t_fraction_above_limb t_fraction_below_limbs t_fraction_below_limb)) rfl 2 rfl rfl rfl (As := []) (rest := [.ref a_t_now_lexicon, .int r31, .ref a_t_fraction]) rfl rfl ⟨rfl, rfl, Nat.le_of_ble_eq_true rfl, Nat.le_of_ble_eq_true rfl⟩ (Nat.le_of_ble_eq_true rfl) (Nat.zero_le _) (Nat.zero_le _) dX11_share_36 (fun H locs hW => ?_)
    obtain ⟨r39, hC4, hF⟩ := bO_s1 hF
    refine m_callV X hW hA hl.1 lkX11_231 (c_Lexicon_weightOf l E _ N a_t_now_lexicon a_t_now_lexicon_length a_t_now_lexicon_number a_t_now_lexicon_leastLike a_t_now_lexicon_row a_t_now_lexicon_lipsOf a_t_now_lexicon_others a_t_now_lexicon_weight t_now_lexicon_words t_now_lexicon_rowLips t_now_lexicon_girlKnows t_now_lexicon_weight (F_Lexicon_allWords t_now_lexicon_words) r39 hC4) [2, 4] (by decide) rfl rfl (ws' := (wd_S_share E a_t a_t_draft a_t_firstImage a_t_secondImage a_t_news a_t_otherNews a_t_readings a_t_chances a_t_turning a_t_text a_t_now a_t_now_floor a_t_now_sightings a_t_now_level a_t_now_loss a_t_now_lexicon a_t_now_lexicon_number a_t_now_lexicon_row a_t_now_lexicon_length a_t_now_lexicon_weight a_t_now_lexicon_leastLike a_t_now_lexicon_lipsOf a_t_now_lexicon_others a_t_fraction a_t_fraction_above a_t_fraction_above_limb a_t_fraction_below a_t_fraction_below_limb t_now_clearness t_now_isKept t_now_lexicon_words t_now_lexicon_rowLips t_now_lexicon_girlKnows t_now_lexicon_length t_now_lexicon_weight t_now_lexicon_leastLike t_now_lexicon_lipsOf t_now_lexicon_others'_2 t_fraction_above_limbs t_fraction_above_limb t_fraction_below_limbs t_fraction_below_limb)) rfl 2 rfl rfl rfl (As := [.int (F_Lexicon_allWords t_now_lexicon_words)]) (rest := [.int r31, .ref a_t_fraction]) rfl rfl ⟨rfl, rfl, Nat.le_of_ble_eq_true rfl, Nat.le_of_ble_eq_true rfl⟩ (Nat.le_of_ble_eq_true rfl) (Nat.zero_le _) (Nat.zero_le _) dX11_share_39 (fun H locs hW => ?_)
    clear hC4
    obtain ⟨t_fraction_above_limbs'_2, t_fraction_above_limb'_2, t_fraction_below_limbs'_2, t_fraction_below_limb'_2, hC5, hF⟩ := bO_s4 hF
    refine m_callV X hW hA hl.1 lkX11_237 (c_Fraction_put0 l E _ N a_t_fraction a_t_fraction_above a_t_fraction_above_limb a_t_fraction_below a_t_fraction_below_limb t_fraction_above_limbs t_fraction_above_limb t_fraction_below_limbs t_fraction_below_limb r31 r39 (t_fraction_above_limbs'_2, t_fraction_above_limb'_2, t_fraction_below_limbs'_2, t_fraction_below_limb'_2) hC5) [8, 9, 10, 11, 12] (by decide) rfl rfl (ws' := (wd_S_share E a_t a_t_draft a_t_firstImage a_t_secondImage a_t_news a_t_otherNews a_t_readings a_t_chances a_t_turning a_t_text a_t_now a_t_now_floor a_t_now_sightings a_t_now_level a_t_now_loss a_t_now_lexicon a_t_now_lexicon_number a_t_now_lexicon_row a_t_now_lexicon_length a_t_now_lexicon_weight a_t_now_lexicon_leastLike a_t_now_lexicon_lipsOf a_t_now_lexicon_others a_t_fraction a_t_fraction_above a_t_fraction_above_limb a_t_fraction_below a_t_fraction_below_limb t_now_clearness t_now_isKept t_now_lexicon_words t_now_lexicon_rowLips t_now_lexicon_girlKnows t_now_lexicon_length t_now_lexicon_weight t_now_lexicon_leastLike t_now_lexicon_lipsOf t_now_lexicon_others'_2 t_fraction_above_limbs'_2 t_fraction_above_limb'_2 t_fraction_below_limbs'_2 t_fraction_below_limb'_2)) rfl 8 rfl rfl rfl (As := [.int r31, .int r39]) (rest := []) rfl rfl ⟨rfl, rfl, Nat.le_of_ble_eq_true rfl, Nat.le_of_ble_eq_true rfl⟩ (Nat.le_of_ble_eq_true rfl) (Nat.zero_le _) (Nat.zero_le _) dX11_share_42 (fun H locs hW => ?_)
    clear hC5
    refine lv_iconst (v := (1 : Int32)) hx hb dX11_share_45 (by decide) ?_
    have hq := Option.some.inj hF
    subst hq
    exact hret _ _ _ _ hW dX11_share_46
  · have hF := if_y c1 hF
    refine lv_bipush (v := (-3 : Int32)) hx hb dX11_share_15 (by decide) ?_
    have hq := Option.some.inj hF
    subst hq
    exact hret _ _ _ _ hW dX11_share_17
abbrev wd_Lexicon_bestTaught (E : m_E) (a_t : Nat) (a_t_number : Nat) (a_t_row : Nat) (a_t_length : Nat) (a_t_weight : Nat) (a_t_leastLike : Nat) (a_t_lipsOf : Nat) (a_t_others : Nat) (t_words : Int32) (t_rowLips : Int32) (t_girlKnows : Int32) (t_length : Nat → Int32) (t_weight : Nat → Int32) (t_leastLike : Nat → Int32) (t_lipsOf : Nat → Int32) (t_others : Nat → Int32) : va_W := [(a_t, .inr (3, [.int t_words, .ref a_t_length, .ref a_t_number, .ref a_t_weight, .ref a_t_leastLike, .ref a_t_row, .int t_rowLips, .int t_girlKnows, .ref a_t_lipsOf, .ref a_t_others])), (a_t_length, .inl (E.2.1 0, 10, .inl t_length)), (a_t_weight, .inl (E.2.1 0, 10, .inl t_weight)), (a_t_leastLike, .inl (E.2.1 0, 6, .inl t_leastLike)), (a_t_lipsOf, .inl (E.2.1 0, 60, .inl t_lipsOf)), (a_t_others, .inl (E.2.1 0, 10, .inl t_others))]
def rm_Lexicon_bestTaught : Room := { frames := 4, cells := 0, slots := 0, locals := 91 }
set_option maxHeartbeats 4000000 in
set_option maxRecDepth 100000 in
theorem c_Lexicon_bestTaught (l : Launch) (E : m_E) (sz N : Nat) (a_t : Nat) (a_t_number : Nat) (a_t_row : Nat) (a_t_length : Nat) (a_t_weight : Nat) (a_t_leastLike : Nat) (a_t_lipsOf : Nat) (a_t_others : Nat) (t_words : Int32) (t_rowLips : Int32) (t_girlKnows : Int32) (t_length : Nat → Int32) (t_weight : Nat → Int32) (t_leastLike : Nat → Int32) (t_lipsOf : Nat → Int32) (t_others : Nat → Int32) (p1 : Int32) (ures : Int32 × (Nat → Int32)) (hF : F_Lexicon_bestTaught N p1 t_words t_girlKnows t_length t_weight t_leastLike t_lipsOf t_others = some ures) : m_Met l yX3_bestTaught cX3_bestTaught 6 (some .int) rm_Lexicon_bestTaught E (wd_Lexicon_bestTaught E a_t a_t_number a_t_row a_t_length a_t_weight a_t_leastLike a_t_lipsOf a_t_others t_words t_rowLips t_girlKnows t_length t_weight t_leastLike t_lipsOf t_others) (wd_Lexicon_bestTaught E a_t a_t_number a_t_row a_t_length a_t_weight a_t_leastLike a_t_lipsOf a_t_others t_words t_rowLips t_girlKnows t_length t_weight t_leastLike t_lipsOf ures.2) sz [.ref a_t, .int p1] (some (.int ures.1)) := by
  refine m_ofI (by decide) (Nat.le_of_ble_eq_true rfl) ?_
  intro p e s m args below meth c A Q ls X hW hA hl hret
  obtain ⟨hx, hb, -, hown, hts, hK, -, hG⟩ := id X
  have hl : lv_has ls 6 [(0, .ref a_t), (1, .int p1)] := hl
  unfold F_Lexicon_bestTaught at hF
  refine lv_aload_n hx hb dX3_bestTaught_0 rfl (lv_at hl 0 rfl) ?_
  obtain ⟨t_others'_2, hC1, hF⟩ := bO_s1 hF
  refine m_callV X hW hA hl.1 lkX3_97 (c_Lexicon_findBetterAlike l E _ N a_t a_t_number a_t_row a_t_length a_t_weight a_t_leastLike a_t_lipsOf a_t_others t_words t_rowLips t_girlKnows t_length t_weight t_leastLike t_lipsOf t_others  t_others'_2 hC1) [0, 1, 2, 3, 4, 5] (by decide) rfl rfl (ws' := (wd_Lexicon_bestTaught E a_t a_t_number a_t_row a_t_length a_t_weight a_t_leastLike a_t_lipsOf a_t_others t_words t_rowLips t_girlKnows t_length t_weight t_leastLike t_lipsOf t_others'_2)) rfl 0 rfl rfl rfl (As := []) (rest := []) rfl rfl ⟨rfl, rfl, Nat.le_of_ble_eq_true rfl, Nat.le_of_ble_eq_true rfl⟩ (Nat.le_of_ble_eq_true rfl) (Nat.zero_le _) (Nat.zero_le _) dX3_bestTaught_1 (fun H locs hW => ?_)
  clear hC1
  refine lv_iconst (v := (-1 : Int32)) hx hb dX3_bestTaught_4 (by decide) ?_
  refine lv_istore_n (lv' := [(2, .int (-1 : Int32)), (0, .ref a_t), (1, .int p1)]) hx hb dX3_bestTaught_5 rfl hl (by decide) rfl (fun ls hl => ?_)
  refine lv_iconst (v := (0 : Int32)) hx hb dX3_bestTaught_6 (by decide) ?_
  refine lv_istore_n (lv' := [(3, .int (0 : Int32)), (2, .int (-1 : Int32)), (0, .ref a_t), (1, .int p1)]) hx hb dX3_bestTaught_7 rfl hl (by decide) rfl (fun ls hl => ?_)
  refine lv_iconst (v := (0 : Int32)) hx hb dX3_bestTaught_8 (by decide) ?_
  refine lv_istore (lv' := [(4, .int (0 : Int32)), (3, .int (0 : Int32)), (2, .int (-1 : Int32)), (0, .ref a_t), (1, .int p1)]) hx hb dX3_bestTaught_9 hl (by decide) rfl (fun ls hl => ?_)
  obtain ⟨x2_2, hX3, hF⟩ := bO_s1 hF
  have L2 : ∀ (k0 : Nat) (x2 : Int32) (x3 : Int32) (x4 : Int32) (x2_2 : Int32) (H : Heap) (locs : List Loc) (ls : Array Slot), Lexicon_bestTaught_L11 N t_words t_girlKnows p1 t_others'_2 t_weight k0 x2 x3 x4 = some x2_2 → m_H E A (wd_Lexicon_bestTaught E a_t a_t_number a_t_row a_t_length a_t_weight a_t_leastLike a_t_lipsOf a_t_others t_words t_rowLips t_girlKnows t_length t_weight t_leastLike t_lipsOf t_others'_2) s.heap H locs → lv_has ls 6 [(4, .int x4), (3, .int x3), (2, .int x2), (0, .ref a_t), (1, .int p1)] → (∀ (H : Heap) (locs : List Loc) (ls : Array Slot), m_H E A (wd_Lexicon_bestTaught E a_t a_t_number a_t_row a_t_length a_t_weight a_t_leastLike a_t_lipsOf a_t_others t_words t_rowLips t_girlKnows t_length t_weight t_leastLike t_lipsOf t_others'_2) s.heap H locs → lv_has ls 6 [(2, .int x2_2)] → W p l e rm_Lexicon_bestTaught s m args below meth c H locs 0 0 Q (F0 m 82 ls [])) → W p l e rm_Lexicon_bestTaught s m args below meth c H locs 0 0 Q (F0 m 11 ls []) := by
    clear hF
    intro k0
    induction k0 with
    | zero =>
      intro x2 x3 x4 x2_2 H locs ls hF
      cases hF
    | succ k0 ih5 =>
      intro x2 x3 x4 x2_2 H locs ls hF hW hl hk4
      rw [Lexicon_bestTaught_L11] at hF
      refine lv_iload hx hb dX3_bestTaught_11 (lv_at hl 0 rfl) ?_
      refine lv_aload_n hx hb dX3_bestTaught_13 rfl (lv_at hl 3 rfl) ?_
      refine m_callV X hW hA hl.1 lkX3_56 (c_Lexicon_allWords l E _ N a_t a_t_length a_t_number a_t_weight a_t_leastLike a_t_row a_t_lipsOf a_t_others t_words t_rowLips t_girlKnows  (F_Lexicon_allWords t_words) rfl) [0] (by decide) rfl rfl (ws' := (wd_Lexicon_bestTaught E a_t a_t_number a_t_row a_t_length a_t_weight a_t_leastLike a_t_lipsOf a_t_others t_words t_rowLips t_girlKnows t_length t_weight t_leastLike t_lipsOf t_others'_2)) rfl 0 rfl rfl rfl (As := []) (rest := [.int x4]) rfl rfl ⟨rfl, rfl, Nat.le_of_ble_eq_true rfl, Nat.le_of_ble_eq_true rfl⟩ (Nat.le_of_ble_eq_true rfl) (Nat.zero_le _) (Nat.zero_le _) dX3_bestTaught_14 (fun H locs hW => ?_)
      refine lv_icmp_gt (tgt := 82) hx hb dX3_bestTaught_17 (by decide) (fun c6 => ?_) (fun c6 => ?_)
      · have hF := if_y c6 hF
        cases hF
        exact hk4 _ _ _ hW (lv_sub hl [2] rfl)
      · have hF := if_n c6 hF
        refine lv_iload hx hb dX3_bestTaught_20 (lv_at hl 0 rfl) ?_
        refine lv_aload_n hx hb dX3_bestTaught_22 rfl (lv_at hl 3 rfl) ?_
        refine m_get X hW fdX3_43 0 rfl rfl dX3_bestTaught_23 ?_
        refine lv_iand hx hb dX3_bestTaught_26 ?_
        refine lv_if_ne (tgt := 76) hx hb dX3_bestTaught_27 (by decide) (fun c7 => ?_) (fun c7 => ?_)
        · have hF := if_n c7 hF
          refine lv_iinc (v := (x4 + (1 : Int32))) (lv' := [(4, .int (x4 + (1 : Int32))), (3, .int x3), (2, .int x2), (0, .ref a_t), (1, .int p1)]) hx hb dX3_bestTaught_76 hl (k := 0) rfl rfl (by decide) rfl (fun ls hl => ?_)
          refine lv_goto (tgt := 11) hx hb dX3_bestTaught_79 (by decide) ?_
          exact ih5 x2 x3 (x4 + (1 : Int32)) x2_2 _ _ _ hF hW (lv_sub hl [0, 1, 2, 3, 4] rfl) hk4
        · have hF := if_y c7 hF
          refine lv_iload hx hb dX3_bestTaught_30 (lv_at hl 0 rfl) ?_
          refine m_callS X hW hA hl.1 lkX3_92 (c_Integer_bitCount l E _ N   x4 (F_Integer_bitCount x4) rfl) [] (by decide) rfl rfl (ws' := (wd_Lexicon_bestTaught E a_t a_t_number a_t_row a_t_length a_t_weight a_t_leastLike a_t_lipsOf a_t_others t_words t_rowLips t_girlKnows t_length t_weight t_leastLike t_lipsOf t_others'_2)) rfl (As := [.int x4]) (rest := []) rfl rfl ⟨rfl, rfl, Nat.le_of_ble_eq_true rfl, Nat.le_of_ble_eq_true rfl⟩ (Nat.le_of_ble_eq_true rfl) (Nat.zero_le _) (Nat.zero_le _) dX3_bestTaught_32 (fun H locs hW => ?_)
          refine lv_iload_n hx hb dX3_bestTaught_35 rfl (lv_at hl 4 rfl) ?_
          refine lv_icmp_eq (tgt := 42) hx hb dX3_bestTaught_36 (by decide) (fun c8 => ?_) (fun c8 => ?_)
          · have hF := if_y c8 hF
            refine lv_aload_n hx hb dX3_bestTaught_42 rfl (lv_at hl 3 rfl) ?_
            refine lv_aload_n hx hb dX3_bestTaught_43 rfl (lv_at hl 3 rfl) ?_
            refine lv_aload_n hx hb dX3_bestTaught_44 rfl (lv_at hl 3 rfl) ?_
            refine m_get X hW fdX3_43 0 rfl rfl dX3_bestTaught_45 ?_
            refine lv_iload hx hb dX3_bestTaught_48 (lv_at hl 0 rfl) ?_
            refine lv_ior hx hb dX3_bestTaught_50 ?_
            obtain ⟨r51, hC9, hF⟩ := bO_s1 hF
            refine m_callV X hW hA hl.1 lkX3_100 (c_Lexicon_gottenOf l E _ N a_t a_t_length a_t_number a_t_weight a_t_leastLike a_t_row a_t_lipsOf a_t_others t_words t_rowLips t_girlKnows t_others'_2 (t_girlKnows ||| x4) r51 hC9) [0, 5] (by decide) rfl rfl (ws' := (wd_Lexicon_bestTaught E a_t a_t_number a_t_row a_t_length a_t_weight a_t_leastLike a_t_lipsOf a_t_others t_words t_rowLips t_girlKnows t_length t_weight t_leastLike t_lipsOf t_others'_2)) rfl 0 rfl rfl rfl (As := [.int (t_girlKnows ||| x4)]) (rest := [.ref a_t]) rfl rfl ⟨rfl, rfl, Nat.le_of_ble_eq_true rfl, Nat.le_of_ble_eq_true rfl⟩ (Nat.le_of_ble_eq_true rfl) (Nat.zero_le _) (Nat.zero_le _) dX3_bestTaught_51 (fun H locs hW => ?_)
            clear hC9
            obtain ⟨r54, hC10, hF⟩ := bO_s1 hF
            refine m_callV X hW hA hl.1 lkX3_86 (c_Lexicon_weightOf l E _ N a_t a_t_length a_t_number a_t_leastLike a_t_row a_t_lipsOf a_t_others a_t_weight t_words t_rowLips t_girlKnows t_weight r51 r54 hC10) [0, 2] (by decide) rfl rfl (ws' := (wd_Lexicon_bestTaught E a_t a_t_number a_t_row a_t_length a_t_weight a_t_leastLike a_t_lipsOf a_t_others t_words t_rowLips t_girlKnows t_length t_weight t_leastLike t_lipsOf t_others'_2)) rfl 0 rfl rfl rfl (As := [.int r51]) (rest := []) rfl rfl ⟨rfl, rfl, Nat.le_of_ble_eq_true rfl, Nat.le_of_ble_eq_true rfl⟩ (Nat.le_of_ble_eq_true rfl) (Nat.zero_le _) (Nat.zero_le _) dX3_bestTaught_54 (fun H locs hW => ?_)
            clear hC10
            refine lv_istore (lv' := [(5, .int r54), (4, .int x4), (3, .int x3), (2, .int x2), (0, .ref a_t), (1, .int p1)]) hx hb dX3_bestTaught_57 hl (by decide) rfl (fun ls hl => ?_)
            refine lv_iload_n hx hb dX3_bestTaught_59 rfl (lv_at hl 3 rfl) ?_
            refine lv_iconst (v := (-1 : Int32)) hx hb dX3_bestTaught_60 (by decide) ?_
            refine lv_icmp_eq (tgt := 70) hx hb dX3_bestTaught_61 (by decide) (fun c11 => ?_) (fun c11 => ?_)
            · have hF := if_y c11 hF
              refine lv_iload hx hb dX3_bestTaught_70 (lv_at hl 1 rfl) ?_
              refine lv_istore_n (lv' := [(2, .int x4), (5, .int r54), (4, .int x4), (3, .int x3), (0, .ref a_t), (1, .int p1)]) hx hb dX3_bestTaught_72 rfl hl (by decide) rfl (fun ls hl => ?_)
              refine lv_iload hx hb dX3_bestTaught_73 (lv_at hl 1 rfl) ?_
              refine lv_istore_n (lv' := [(3, .int r54), (2, .int x4), (5, .int r54), (4, .int x4), (0, .ref a_t), (1, .int p1)]) hx hb dX3_bestTaught_75 rfl hl (by decide) rfl (fun ls hl => ?_)
              refine lv_iinc (v := (x4 + (1 : Int32))) (lv' := [(4, .int (x4 + (1 : Int32))), (3, .int r54), (2, .int x4), (5, .int r54), (0, .ref a_t), (1, .int p1)]) hx hb dX3_bestTaught_76 hl (k := 3) rfl rfl (by decide) rfl (fun ls hl => ?_)
              refine lv_goto (tgt := 11) hx hb dX3_bestTaught_79 (by decide) ?_
              exact ih5 x4 r54 (x4 + (1 : Int32)) x2_2 _ _ _ hF hW (lv_sub hl [0, 1, 2, 4, 5] rfl) hk4
            · have hF := if_n c11 hF
              refine lv_iload hx hb dX3_bestTaught_64 (lv_at hl 0 rfl) ?_
              refine lv_iload_n hx hb dX3_bestTaught_66 rfl (lv_at hl 2 rfl) ?_
              refine lv_icmp_le (tgt := 76) hx hb dX3_bestTaught_67 (by decide) (fun c12 => ?_) (fun c12 => ?_)
              · have hF := if_y c12 hF
                refine lv_iinc (v := (x4 + (1 : Int32))) (lv' := [(4, .int (x4 + (1 : Int32))), (5, .int r54), (3, .int x3), (2, .int x2), (0, .ref a_t), (1, .int p1)]) hx hb dX3_bestTaught_76 hl (k := 1) rfl rfl (by decide) rfl (fun ls hl => ?_)
                refine lv_goto (tgt := 11) hx hb dX3_bestTaught_79 (by decide) ?_
                exact ih5 x2 x3 (x4 + (1 : Int32)) x2_2 _ _ _ hF hW (lv_sub hl [0, 2, 3, 4, 5] rfl) hk4
              · have hF := if_n c12 hF
                refine lv_iload hx hb dX3_bestTaught_70 (lv_at hl 1 rfl) ?_
                refine lv_istore_n (lv' := [(2, .int x4), (5, .int r54), (4, .int x4), (3, .int x3), (0, .ref a_t), (1, .int p1)]) hx hb dX3_bestTaught_72 rfl hl (by decide) rfl (fun ls hl => ?_)
                refine lv_iload hx hb dX3_bestTaught_73 (lv_at hl 1 rfl) ?_
                refine lv_istore_n (lv' := [(3, .int r54), (2, .int x4), (5, .int r54), (4, .int x4), (0, .ref a_t), (1, .int p1)]) hx hb dX3_bestTaught_75 rfl hl (by decide) rfl (fun ls hl => ?_)
                refine lv_iinc (v := (x4 + (1 : Int32))) (lv' := [(4, .int (x4 + (1 : Int32))), (3, .int r54), (2, .int x4), (5, .int r54), (0, .ref a_t), (1, .int p1)]) hx hb dX3_bestTaught_76 hl (k := 3) rfl rfl (by decide) rfl (fun ls hl => ?_)
                refine lv_goto (tgt := 11) hx hb dX3_bestTaught_79 (by decide) ?_
                exact ih5 x4 r54 (x4 + (1 : Int32)) x2_2 _ _ _ hF hW (lv_sub hl [0, 1, 2, 4, 5] rfl) hk4
          · have hF := if_n c8 hF
            refine lv_goto (tgt := 76) hx hb dX3_bestTaught_39 (by decide) ?_
            refine lv_iinc (v := (x4 + (1 : Int32))) (lv' := [(4, .int (x4 + (1 : Int32))), (3, .int x3), (2, .int x2), (0, .ref a_t), (1, .int p1)]) hx hb dX3_bestTaught_76 hl (k := 0) rfl rfl (by decide) rfl (fun ls hl => ?_)
            refine lv_goto (tgt := 11) hx hb dX3_bestTaught_79 (by decide) ?_
            exact ih5 x2 x3 (x4 + (1 : Int32)) x2_2 _ _ _ hF hW (lv_sub hl [0, 1, 2, 3, 4] rfl) hk4
  refine L2 N (-1 : Int32) (0 : Int32) (0 : Int32) x2_2 _ _ _ hX3 hW (lv_sub hl [0, 1, 2, 3, 4] rfl) ?_
  intro H locs ls hW hl
  clear L2
  refine lv_iload_n hx hb dX3_bestTaught_82 rfl (lv_at hl 0 rfl) ?_
  have hq := Option.some.inj hF
  subst hq
  exact hret _ _ _ _ hW dX3_bestTaught_83
abbrev wd_S_teach (E : m_E) (a_t : Nat) (a_t_draft : Nat) (a_t_firstImage : Nat) (a_t_secondImage : Nat) (a_t_news : Nat) (a_t_otherNews : Nat) (a_t_readings : Nat) (a_t_chances : Nat) (a_t_turning : Nat) (a_t_text : Nat) (a_t_fraction : Nat) (a_t_now : Nat) (a_t_now_floor : Nat) (a_t_now_sightings : Nat) (a_t_now_level : Nat) (a_t_now_loss : Nat) (a_t_now_lexicon : Nat) (a_t_now_lexicon_number : Nat) (a_t_now_lexicon_row : Nat) (a_t_now_lexicon_length : Nat) (a_t_now_lexicon_weight : Nat) (a_t_now_lexicon_leastLike : Nat) (a_t_now_lexicon_lipsOf : Nat) (a_t_now_lexicon_others : Nat) (t_now_clearness : Int32) (t_now_isKept : Int32) (t_now_lexicon_words : Int32) (t_now_lexicon_rowLips : Int32) (t_now_lexicon_girlKnows : Int32) (t_now_lexicon_length : Nat → Int32) (t_now_lexicon_weight : Nat → Int32) (t_now_lexicon_leastLike : Nat → Int32) (t_now_lexicon_lipsOf : Nat → Int32) (t_now_lexicon_others : Nat → Int32) : va_W := [(a_t, .inr (11, [.ref a_t_now, .ref a_t_draft, .ref a_t_firstImage, .ref a_t_secondImage, .ref a_t_news, .ref a_t_otherNews, .ref a_t_readings, .ref a_t_chances, .ref a_t_turning, .ref a_t_text, .ref a_t_fraction])), (a_t_now, .inr (7, [.ref a_t_now_floor, .ref a_t_now_sightings, .ref a_t_now_lexicon, .ref a_t_now_level, .ref a_t_now_loss, .int t_now_clearness, .int t_now_isKept])), (a_t_now_lexicon, .inr (3, [.int t_now_lexicon_words, .ref a_t_now_lexicon_length, .ref a_t_now_lexicon_number, .ref a_t_now_lexicon_weight, .ref a_t_now_lexicon_leastLike, .ref a_t_now_lexicon_row, .int t_now_lexicon_rowLips, .int t_now_lexicon_girlKnows, .ref a_t_now_lexicon_lipsOf, .ref a_t_now_lexicon_others])), (a_t_now_lexicon_length, .inl (E.2.1 0, 10, .inl t_now_lexicon_length)), (a_t_now_lexicon_weight, .inl (E.2.1 0, 10, .inl t_now_lexicon_weight)), (a_t_now_lexicon_leastLike, .inl (E.2.1 0, 6, .inl t_now_lexicon_leastLike)), (a_t_now_lexicon_lipsOf, .inl (E.2.1 0, 60, .inl t_now_lexicon_lipsOf)), (a_t_now_lexicon_others, .inl (E.2.1 0, 10, .inl t_now_lexicon_others))]
def rm_S_teach : Room := { frames := 5, cells := 0, slots := 0, locals := 116 }
set_option maxHeartbeats 4000000 in
set_option maxRecDepth 100000 in
theorem c_S_teach (l : Launch) (E : m_E) (sz N : Nat) (a_t : Nat) (a_t_draft : Nat) (a_t_firstImage : Nat) (a_t_secondImage : Nat) (a_t_news : Nat) (a_t_otherNews : Nat) (a_t_readings : Nat) (a_t_chances : Nat) (a_t_turning : Nat) (a_t_text : Nat) (a_t_fraction : Nat) (a_t_now : Nat) (a_t_now_floor : Nat) (a_t_now_sightings : Nat) (a_t_now_level : Nat) (a_t_now_loss : Nat) (a_t_now_lexicon : Nat) (a_t_now_lexicon_number : Nat) (a_t_now_lexicon_row : Nat) (a_t_now_lexicon_length : Nat) (a_t_now_lexicon_weight : Nat) (a_t_now_lexicon_leastLike : Nat) (a_t_now_lexicon_lipsOf : Nat) (a_t_now_lexicon_others : Nat) (t_now_clearness : Int32) (t_now_isKept : Int32) (t_now_lexicon_words : Int32) (t_now_lexicon_rowLips : Int32) (t_now_lexicon_girlKnows : Int32) (t_now_lexicon_length : Nat → Int32) (t_now_lexicon_weight : Nat → Int32) (t_now_lexicon_leastLike : Nat → Int32) (t_now_lexicon_lipsOf : Nat → Int32) (t_now_lexicon_others : Nat → Int32) (p1 : Int32) (ures : Int32 × (Nat → Int32)) (hF : F_S_teach N p1 t_now_lexicon_words t_now_lexicon_girlKnows t_now_lexicon_length t_now_lexicon_weight t_now_lexicon_leastLike t_now_lexicon_lipsOf t_now_lexicon_others = some ures) : m_Met l yX11_teach cX11_teach 2 (some .int) rm_S_teach E (wd_S_teach E a_t a_t_draft a_t_firstImage a_t_secondImage a_t_news a_t_otherNews a_t_readings a_t_chances a_t_turning a_t_text a_t_fraction a_t_now a_t_now_floor a_t_now_sightings a_t_now_level a_t_now_loss a_t_now_lexicon a_t_now_lexicon_number a_t_now_lexicon_row a_t_now_lexicon_length a_t_now_lexicon_weight a_t_now_lexicon_leastLike a_t_now_lexicon_lipsOf a_t_now_lexicon_others t_now_clearness t_now_isKept t_now_lexicon_words t_now_lexicon_rowLips t_now_lexicon_girlKnows t_now_lexicon_length t_now_lexicon_weight t_now_lexicon_leastLike t_now_lexicon_lipsOf t_now_lexicon_others) (wd_S_teach E a_t a_t_draft a_t_firstImage a_t_secondImage a_t_news a_t_otherNews a_t_readings a_t_chances a_t_turning a_t_text a_t_fraction a_t_now a_t_now_floor a_t_now_sightings a_t_now_level a_t_now_loss a_t_now_lexicon a_t_now_lexicon_number a_t_now_lexicon_row a_t_now_lexicon_length a_t_now_lexicon_weight a_t_now_lexicon_leastLike a_t_now_lexicon_lipsOf a_t_now_lexicon_others t_now_clearness t_now_isKept t_now_lexicon_words t_now_lexicon_rowLips t_now_lexicon_girlKnows t_now_lexicon_length t_now_lexicon_weight t_now_lexicon_leastLike t_now_lexicon_lipsOf ures.2) sz [.ref a_t, .int p1] (some (.int ures.1)) := by
  refine m_ofI (by decide) (Nat.le_of_ble_eq_true rfl) ?_
  intro p e s m args below meth c A Q ls X hW hA hl hret
  obtain ⟨hx, hb, -, hown, hts, hK, -, hG⟩ := id X
  have hl : lv_has ls 2 [(0, .ref a_t), (1, .int p1)] := hl
  unfold F_S_teach at hF
  refine lv_iload_n hx hb dX11_teach_0 rfl (lv_at hl 1 rfl) ?_
  refine lv_iconst (v := (0 : Int32)) hx hb dX11_teach_1 (by decide) ?_
  refine lv_aload_n hx hb dX11_teach_2 rfl (lv_at hl 0 rfl) ?_
  refine m_get X hW fdX11_10 0 rfl rfl dX11_teach_3 ?_
  refine m_get X hW fdX11_156 1 rfl rfl dX11_teach_6 ?_
  refine m_get X hW fdX11_202 2 rfl rfl dX11_teach_9 ?_
  refine lv_aload_n hx hb dX11_teach_12 rfl (lv_at hl 0 rfl) ?_
  refine m_get X hW fdX11_10 0 rfl rfl dX11_teach_13 ?_
  refine m_get X hW fdX11_156 1 rfl rfl dX11_teach_16 ?_
  refine m_get X hW fdX11_225 2 rfl rfl dX11_teach_19 ?_
  refine m_callS X hW hA hl.1 lkX11_241 (c_Integer_bitCount l E _ N   t_now_lexicon_girlKnows (F_Integer_bitCount t_now_lexicon_girlKnows) rfl) [] (by decide) rfl rfl (ws' := (wd_S_teach E a_t a_t_draft a_t_firstImage a_t_secondImage a_t_news a_t_otherNews a_t_readings a_t_chances a_t_turning a_t_text a_t_fraction a_t_now a_t_now_floor a_t_now_sightings a_t_now_level a_t_now_loss a_t_now_lexicon a_t_now_lexicon_number a_t_now_lexicon_row a_t_now_lexicon_length a_t_now_lexicon_weight a_t_now_lexicon_leastLike a_t_now_lexicon_lipsOf a_t_now_lexicon_others t_now_clearness t_now_isKept t_now_lexicon_words t_now_lexicon_rowLips t_now_lexicon_girlKnows t_now_lexicon_length t_now_lexicon_weight t_now_lexicon_leastLike t_now_lexicon_lipsOf t_now_lexicon_others)) rfl (As := [.int t_now_lexicon_girlKnows]) (rest := [.int t_now_lexicon_words, .int (0 : Int32), .int p1]) rfl rfl ⟨rfl, rfl, Nat.le_of_ble_eq_true rfl, Nat.le_of_ble_eq_true rfl⟩ (Nat.le_of_ble_eq_true rfl) (Nat.zero_le _) (Nat.zero_le _) dX11_teach_22 (fun H locs hW => ?_)
  refine lv_isub hx hb dX11_teach_25 ?_
  refine m_callS X hW hA hl.1 lkX11_98 (c_S_within l E _ N   p1 (0 : Int32) (t_now_lexicon_words - (F_Integer_bitCount t_now_lexicon_girlKnows)) (F_S_within p1 (0 : Int32) (t_now_lexicon_words - (F_Integer_bitCount t_now_lexicon_girlKnows))) rfl) [] (by decide) rfl rfl (ws' := (wd_S_teach E a_t a_t_draft a_t_firstImage a_t_secondImage a_t_news a_t_otherNews a_t_readings a_t_chances a_t_turning a_t_text a_t_fraction a_t_now a_t_now_floor a_t_now_sightings a_t_now_level a_t_now_loss a_t_now_lexicon a_t_now_lexicon_number a_t_now_lexicon_row a_t_now_lexicon_length a_t_now_lexicon_weight a_t_now_lexicon_leastLike a_t_now_lexicon_lipsOf a_t_now_lexicon_others t_now_clearness t_now_isKept t_now_lexicon_words t_now_lexicon_rowLips t_now_lexicon_girlKnows t_now_lexicon_length t_now_lexicon_weight t_now_lexicon_leastLike t_now_lexicon_lipsOf t_now_lexicon_others)) rfl (As := [.int p1, .int (0 : Int32), .int (t_now_lexicon_words - (F_Integer_bitCount t_now_lexicon_girlKnows))]) (rest := []) rfl rfl ⟨rfl, rfl, Nat.le_of_ble_eq_true rfl, Nat.le_of_ble_eq_true rfl⟩ (Nat.le_of_ble_eq_true rfl) (Nat.zero_le _) (Nat.zero_le _) dX11_teach_26 (fun H locs hW => ?_)
  refine lv_if_ne (tgt := 35) hx hb dX11_teach_29 (by decide) (fun c1 => ?_) (fun c1 => ?_)
  · have hF := if_n c1 hF
    refine lv_aload_n hx hb dX11_teach_35 rfl (lv_at hl 0 rfl) ?_
    refine m_get X hW fdX11_10 0 rfl rfl dX11_teach_36 ?_
    refine m_get X hW fdX11_156 1 rfl rfl dX11_teach_39 ?_
    refine lv_iload_n hx hb dX11_teach_42 rfl (lv_at hl 1 rfl) ?_
    obtain ⟨r43, t_now_lexicon_others'_2, hC2, hF⟩ := bO_s2 hF
    refine m_callV X hW hA hl.1 lkX11_246 (c_Lexicon_bestTaught l E _ N a_t_now_lexicon a_t_now_lexicon_number a_t_now_lexicon_row a_t_now_lexicon_length a_t_now_lexicon_weight a_t_now_lexicon_leastLike a_t_now_lexicon_lipsOf a_t_now_lexicon_others t_now_lexicon_words t_now_lexicon_rowLips t_now_lexicon_girlKnows t_now_lexicon_length t_now_lexicon_weight t_now_lexicon_leastLike t_now_lexicon_lipsOf t_now_lexicon_others p1 (r43, t_now_lexicon_others'_2) hC2) [2, 3, 4, 5, 6, 7] (by decide) rfl rfl (ws' := (wd_S_teach E a_t a_t_draft a_t_firstImage a_t_secondImage a_t_news a_t_otherNews a_t_readings a_t_chances a_t_turning a_t_text a_t_fraction a_t_now a_t_now_floor a_t_now_sightings a_t_now_level a_t_now_loss a_t_now_lexicon a_t_now_lexicon_number a_t_now_lexicon_row a_t_now_lexicon_length a_t_now_lexicon_weight a_t_now_lexicon_leastLike a_t_now_lexicon_lipsOf a_t_now_lexicon_others t_now_clearness t_now_isKept t_now_lexicon_words t_now_lexicon_rowLips t_now_lexicon_girlKnows t_now_lexicon_length t_now_lexicon_weight t_now_lexicon_leastLike t_now_lexicon_lipsOf t_now_lexicon_others'_2)) rfl 2 rfl rfl rfl (As := [.int p1]) (rest := []) rfl rfl ⟨rfl, rfl, Nat.le_of_ble_eq_true rfl, Nat.le_of_ble_eq_true rfl⟩ (Nat.le_of_ble_eq_true rfl) (Nat.zero_le _) (Nat.zero_le _) dX11_teach_43 (fun H locs hW => ?_)
    clear hC2
    have hq := Option.some.inj hF
    subst hq
    exact hret _ _ _ _ hW dX11_teach_46
  · have hF := if_y c1 hF
    refine lv_bipush (v := (-2 : Int32)) hx hb dX11_teach_32 (by decide) ?_
    have hq := Option.some.inj hF
    subst hq
    exact hret _ _ _ _ hW dX11_teach_34
abbrev wd_S_band (E : m_E) (a_t : Nat) (a_t_draft : Nat) (a_t_firstImage : Nat) (a_t_secondImage : Nat) (a_t_news : Nat) (a_t_otherNews : Nat) (a_t_readings : Nat) (a_t_chances : Nat) (a_t_turning : Nat) (a_t_text : Nat) (a_t_fraction : Nat) (a_t_now : Nat) (a_t_now_floor : Nat) (a_t_now_sightings : Nat) (a_t_now_lexicon : Nat) (a_t_now_level : Nat) (a_t_now_loss : Nat) (t_now_clearness : Int32) (t_now_isKept : Int32) (t_now_level : Nat → Int32) (t_now_loss : Nat → Int32) : va_W := [(a_t, .inr (11, [.ref a_t_now, .ref a_t_draft, .ref a_t_firstImage, .ref a_t_secondImage, .ref a_t_news, .ref a_t_otherNews, .ref a_t_readings, .ref a_t_chances, .ref a_t_turning, .ref a_t_text, .ref a_t_fraction])), (a_t_now, .inr (7, [.ref a_t_now_floor, .ref a_t_now_sightings, .ref a_t_now_lexicon, .ref a_t_now_level, .ref a_t_now_loss, .int t_now_clearness, .int t_now_isKept])), (a_t_now_level, .inl (E.2.1 0, 6, .inl t_now_level)), (a_t_now_loss, .inl (E.2.1 0, 6, .inl t_now_loss))]
def rm_S_band : Room := { frames := 1, cells := 0, slots := 0, locals := 22 }
set_option maxHeartbeats 4000000 in
set_option maxRecDepth 100000 in
theorem c_S_band (l : Launch) (E : m_E) (sz N : Nat) (a_t : Nat) (a_t_draft : Nat) (a_t_firstImage : Nat) (a_t_secondImage : Nat) (a_t_news : Nat) (a_t_otherNews : Nat) (a_t_readings : Nat) (a_t_chances : Nat) (a_t_turning : Nat) (a_t_text : Nat) (a_t_fraction : Nat) (a_t_now : Nat) (a_t_now_floor : Nat) (a_t_now_sightings : Nat) (a_t_now_lexicon : Nat) (a_t_now_level : Nat) (a_t_now_loss : Nat) (t_now_clearness : Int32) (t_now_isKept : Int32) (t_now_level : Nat → Int32) (t_now_loss : Nat → Int32) (p1 : Int32) (p2 : Int32) (p3 : Int32) (ures : Int32 × (Nat → Int32) × (Nat → Int32)) (hF : F_S_band p1 p2 p3 t_now_level t_now_loss = some ures) : m_Met l yX11_band cX11_band 4 (some .int) rm_S_band E (wd_S_band E a_t a_t_draft a_t_firstImage a_t_secondImage a_t_news a_t_otherNews a_t_readings a_t_chances a_t_turning a_t_text a_t_fraction a_t_now a_t_now_floor a_t_now_sightings a_t_now_lexicon a_t_now_level a_t_now_loss t_now_clearness t_now_isKept t_now_level t_now_loss) (wd_S_band E a_t a_t_draft a_t_firstImage a_t_secondImage a_t_news a_t_otherNews a_t_readings a_t_chances a_t_turning a_t_text a_t_fraction a_t_now a_t_now_floor a_t_now_sightings a_t_now_lexicon a_t_now_level a_t_now_loss t_now_clearness t_now_isKept ures.2.1 ures.2.2) sz [.ref a_t, .int p1, .int p2, .int p3] (some (.int ures.1)) := by
  refine m_ofI (by decide) (Nat.le_of_ble_eq_true rfl) ?_
  intro p e s m args below meth c A Q ls X hW hA hl hret
  obtain ⟨hx, hb, -, hown, hts, hK, -, hG⟩ := id X
  have hl : lv_has ls 4 [(0, .ref a_t), (1, .int p1), (2, .int p2), (3, .int p3)] := hl
  unfold F_S_band at hF
  refine lv_iload_n hx hb dX11_band_0 rfl (lv_at hl 1 rfl) ?_
  refine lv_iconst (v := (0 : Int32)) hx hb dX11_band_1 (by decide) ?_
  refine lv_iconst (v := (5 : Int32)) hx hb dX11_band_2 (by decide) ?_
  refine m_callS X hW hA hl.1 lkX11_98 (c_S_within l E _ N   p1 (0 : Int32) (5 : Int32) (F_S_within p1 (0 : Int32) (5 : Int32)) rfl) [] (by decide) rfl rfl (ws' := (wd_S_band E a_t a_t_draft a_t_firstImage a_t_secondImage a_t_news a_t_otherNews a_t_readings a_t_chances a_t_turning a_t_text a_t_fraction a_t_now a_t_now_floor a_t_now_sightings a_t_now_lexicon a_t_now_level a_t_now_loss t_now_clearness t_now_isKept t_now_level t_now_loss)) rfl (As := [.int p1, .int (0 : Int32), .int (5 : Int32)]) (rest := []) rfl rfl ⟨rfl, rfl, Nat.le_of_ble_eq_true rfl, Nat.le_of_ble_eq_true rfl⟩ (Nat.le_of_ble_eq_true rfl) (Nat.zero_le _) (Nat.zero_le _) dX11_band_3 (fun H locs hW => ?_)
  refine lv_if_eq (tgt := 29) hx hb dX11_band_6 (by decide) (fun c1 => ?_) (fun c1 => ?_)
  · have hF := if_y c1 hF
    refine lv_bipush (v := (-2 : Int32)) hx hb dX11_band_29 (by decide) ?_
    have hq := Option.some.inj hF
    subst hq
    exact hret _ _ _ _ hW dX11_band_31
  · have hF := if_n c1 hF
    refine lv_iload_n hx hb dX11_band_9 rfl (lv_at hl 2 rfl) ?_
    refine lv_iconst (v := (0 : Int32)) hx hb dX11_band_10 (by decide) ?_
    refine lv_bipush (v := (99 : Int32)) hx hb dX11_band_11 (by decide) ?_
    refine m_callS X hW hA hl.1 lkX11_98 (c_S_within l E _ N   p2 (0 : Int32) (99 : Int32) (F_S_within p2 (0 : Int32) (99 : Int32)) rfl) [] (by decide) rfl rfl (ws' := (wd_S_band E a_t a_t_draft a_t_firstImage a_t_secondImage a_t_news a_t_otherNews a_t_readings a_t_chances a_t_turning a_t_text a_t_fraction a_t_now a_t_now_floor a_t_now_sightings a_t_now_lexicon a_t_now_level a_t_now_loss t_now_clearness t_now_isKept t_now_level t_now_loss)) rfl (As := [.int p2, .int (0 : Int32), .int (99 : Int32)]) (rest := []) rfl rfl ⟨rfl, rfl, Nat.le_of_ble_eq_true rfl, Nat.le_of_ble_eq_true rfl⟩ (Nat.le_of_ble_eq_true rfl) (Nat.zero_le _) (Nat.zero_le _) dX11_band_13 (fun H locs hW => ?_)
    refine lv_if_eq (tgt := 29) hx hb dX11_band_16 (by decide) (fun c2 => ?_) (fun c2 => ?_)
    · have hF := if_y c2 hF
      refine lv_bipush (v := (-2 : Int32)) hx hb dX11_band_29 (by decide) ?_
      have hq := Option.some.inj hF
      subst hq
      exact hret _ _ _ _ hW dX11_band_31
    · have hF := if_n c2 hF
      refine lv_iload_n hx hb dX11_band_19 rfl (lv_at hl 3 rfl) ?_
      refine lv_iconst (v := (0 : Int32)) hx hb dX11_band_20 (by decide) ?_
      refine lv_bipush (v := (9 : Int32)) hx hb dX11_band_21 (by decide) ?_
      refine m_callS X hW hA hl.1 lkX11_98 (c_S_within l E _ N   p3 (0 : Int32) (9 : Int32) (F_S_within p3 (0 : Int32) (9 : Int32)) rfl) [] (by decide) rfl rfl (ws' := (wd_S_band E a_t a_t_draft a_t_firstImage a_t_secondImage a_t_news a_t_otherNews a_t_readings a_t_chances a_t_turning a_t_text a_t_fraction a_t_now a_t_now_floor a_t_now_sightings a_t_now_lexicon a_t_now_level a_t_now_loss t_now_clearness t_now_isKept t_now_level t_now_loss)) rfl (As := [.int p3, .int (0 : Int32), .int (9 : Int32)]) (rest := []) rfl rfl ⟨rfl, rfl, Nat.le_of_ble_eq_true rfl, Nat.le_of_ble_eq_true rfl⟩ (Nat.le_of_ble_eq_true rfl) (Nat.zero_le _) (Nat.zero_le _) dX11_band_23 (fun H locs hW => ?_)
      refine lv_if_ne (tgt := 32) hx hb dX11_band_26 (by decide) (fun c3 => ?_) (fun c3 => ?_)
      · have hF := if_n c3 hF
        refine lv_aload_n hx hb dX11_band_32 rfl (lv_at hl 0 rfl) ?_
        refine m_get X hW fdX11_10 0 rfl rfl dX11_band_33 ?_
        refine m_get X hW fdX11_249 1 rfl rfl dX11_band_36 ?_
        refine lv_iload_n hx hb dX11_band_39 rfl (lv_at hl 1 rfl) ?_
        refine lv_iload_n hx hb dX11_band_40 rfl (lv_at hl 2 rfl) ?_
        obtain ⟨g4, hF⟩ := gd_some hF
        refine m_iast X hW 2 (k := p1.toNatClampNeg) rfl g4 rfl dX11_band_41 (ws' := (wd_S_band E a_t a_t_draft a_t_firstImage a_t_secondImage a_t_news a_t_otherNews a_t_readings a_t_chances a_t_turning a_t_text a_t_fraction a_t_now a_t_now_floor a_t_now_sightings a_t_now_lexicon a_t_now_level a_t_now_loss t_now_clearness t_now_isKept (upd t_now_level p1.toNatClampNeg p2) t_now_loss)) rfl (fun H locs hW => ?_)
        refine lv_aload_n hx hb dX11_band_42 rfl (lv_at hl 0 rfl) ?_
        refine m_get X hW fdX11_10 0 rfl rfl dX11_band_43 ?_
        refine m_get X hW fdX11_252 1 rfl rfl dX11_band_46 ?_
        refine lv_iload_n hx hb dX11_band_49 rfl (lv_at hl 1 rfl) ?_
        refine lv_iload_n hx hb dX11_band_50 rfl (lv_at hl 3 rfl) ?_
        refine m_iast X hW 3 (k := p1.toNatClampNeg) rfl g4 rfl dX11_band_51 (ws' := (wd_S_band E a_t a_t_draft a_t_firstImage a_t_secondImage a_t_news a_t_otherNews a_t_readings a_t_chances a_t_turning a_t_text a_t_fraction a_t_now a_t_now_floor a_t_now_sightings a_t_now_lexicon a_t_now_level a_t_now_loss t_now_clearness t_now_isKept (upd t_now_level p1.toNatClampNeg p2) (upd t_now_loss p1.toNatClampNeg p3))) rfl (fun H locs hW => ?_)
        refine lv_iconst (v := (1 : Int32)) hx hb dX11_band_52 (by decide) ?_
        have hq := Option.some.inj hF
        subst hq
        exact hret _ _ _ _ hW dX11_band_53
      · have hF := if_y c3 hF
        refine lv_bipush (v := (-2 : Int32)) hx hb dX11_band_29 (by decide) ?_
        have hq := Option.some.inj hF
        subst hq
        exact hret _ _ _ _ hW dX11_band_31
