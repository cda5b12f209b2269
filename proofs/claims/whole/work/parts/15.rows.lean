abbrev wd_Fraction_signNumber (E : m_E) (a_t : Nat) (a_t_below : Nat) (a_t_above : Nat) (a_t_above_limb : Nat) (t_above_limbs : Int32) : va_W := [(a_t, .inr (2, [.ref a_t_above, .ref a_t_below])), (a_t_above, .inr (4, [.ref a_t_above_limb, .int t_above_limbs]))]
def rm_Fraction_signNumber : Room := { frames := 0, cells := 0, slots := 0, locals := 0 }
set_option maxHeartbeats 4000000 in
set_option maxRecDepth 100000 in
theorem c_Fraction_signNumber (l : Launch) (E : m_E) (sz N : Nat) (a_t : Nat) (a_t_below : Nat) (a_t_above : Nat) (a_t_above_limb : Nat) (t_above_limbs : Int32)  (ures : Int32) (hF : F_Fraction_signNumber t_above_limbs = ures) : m_Met l yX2_signNumber cX2_signNumber 1 (some .int) rm_Fraction_signNumber E (wd_Fraction_signNumber E a_t a_t_below a_t_above a_t_above_limb t_above_limbs) (wd_Fraction_signNumber E a_t a_t_below a_t_above a_t_above_limb t_above_limbs) sz [.ref a_t] (some (.int ures)) := by
  refine m_ofI (by decide) (Nat.le_of_ble_eq_true rfl) ?_
  intro p e s m args below meth c A Q ls X hW hA hl hret
  obtain ⟨hx, hb, -, hown, hts, hK, -, hG⟩ := id X
  have hl : lv_has ls 1 [(0, .ref a_t)] := hl
  unfold F_Fraction_signNumber at hF
  refine lv_aload_n hx hb dX2_signNumber_0 rfl (lv_at hl 0 rfl) ?_
  refine m_get X hW fdX2_10 0 rfl rfl dX2_signNumber_1 ?_
  refine m_get X hW fdX2_23 1 rfl rfl dX2_signNumber_4 ?_
  refine lv_if_ne (tgt := 14) hx hb dX2_signNumber_7 (by decide) (fun c1 => ?_) (fun c1 => ?_)
  · have hF := if_n c1 hF
    refine lv_iconst (v := (1 : Int32)) hx hb dX2_signNumber_14 (by decide) ?_
    have hq := hF
    subst hq
    exact hret _ _ _ _ hW dX2_signNumber_15
  · have hF := if_y c1 hF
    refine lv_iconst (v := (0 : Int32)) hx hb dX2_signNumber_10 (by decide) ?_
    refine lv_goto (tgt := 15) hx hb dX2_signNumber_11 (by decide) ?_
    have hq := hF
    subst hq
    exact hret _ _ _ _ hW dX2_signNumber_15
abbrev wd_S_sign (E : m_E) (a_t : Nat) (a_t_now : Nat) (a_t_draft : Nat) (a_t_firstImage : Nat) (a_t_secondImage : Nat) (a_t_news : Nat) (a_t_otherNews : Nat) (a_t_readings : Nat) (a_t_chances : Nat) (a_t_turning : Nat) (a_t_text : Nat) (a_t_fraction : Nat) (a_t_fraction_above : Nat) (a_t_fraction_above_limb : Nat) (a_t_fraction_below : Nat) (a_t_fraction_below_limb : Nat) (t_fraction_above_limbs : Int32) (t_fraction_below_limbs : Int32) : va_W := [(a_t, .inr (11, [.ref a_t_now, .ref a_t_draft, .ref a_t_firstImage, .ref a_t_secondImage, .ref a_t_news, .ref a_t_otherNews, .ref a_t_readings, .ref a_t_chances, .ref a_t_turning, .ref a_t_text, .ref a_t_fraction])), (a_t_fraction, .inr (2, [.ref a_t_fraction_above, .ref a_t_fraction_below])), (a_t_fraction_above, .inr (4, [.ref a_t_fraction_above_limb, .int t_fraction_above_limbs])), (a_t_fraction_below, .inr (4, [.ref a_t_fraction_below_limb, .int t_fraction_below_limbs]))]
def rm_S_sign : Room := { frames := 1, cells := 0, slots := 0, locals := 20 }
set_option maxHeartbeats 4000000 in
set_option maxRecDepth 100000 in
theorem c_S_sign (l : Launch) (E : m_E) (sz N : Nat) (a_t : Nat) (a_t_now : Nat) (a_t_draft : Nat) (a_t_firstImage : Nat) (a_t_secondImage : Nat) (a_t_news : Nat) (a_t_otherNews : Nat) (a_t_readings : Nat) (a_t_chances : Nat) (a_t_turning : Nat) (a_t_text : Nat) (a_t_fraction : Nat) (a_t_fraction_above : Nat) (a_t_fraction_above_limb : Nat) (a_t_fraction_below : Nat) (a_t_fraction_below_limb : Nat) (t_fraction_above_limbs : Int32) (t_fraction_below_limbs : Int32) (p1 : Int32) (ures : Int32) (hF : F_S_sign p1 t_fraction_above_limbs t_fraction_below_limbs = ures) : m_Met l yX11_sign cX11_sign 2 (some .int) rm_S_sign E (wd_S_sign E a_t a_t_now a_t_draft a_t_firstImage a_t_secondImage a_t_news a_t_otherNews a_t_readings a_t_chances a_t_turning a_t_text a_t_fraction a_t_fraction_above a_t_fraction_above_limb a_t_fraction_below a_t_fraction_below_limb t_fraction_above_limbs t_fraction_below_limbs) (wd_S_sign E a_t a_t_now a_t_draft a_t_firstImage a_t_secondImage a_t_news a_t_otherNews a_t_readings a_t_chances a_t_turning a_t_text a_t_fraction a_t_fraction_above a_t_fraction_above_limb a_t_fraction_below a_t_fraction_below_limb t_fraction_above_limbs t_fraction_below_limbs) sz [.ref a_t, .int p1] (some (.int ures)) := by
  refine m_ofI (by decide) (Nat.le_of_ble_eq_true rfl) ?_
  intro p e s m args below meth c A Q ls X hW hA hl hret
  obtain ⟨hx, hb, -, hown, hts, hK, -, hG⟩ := id X
  have hl : lv_has ls 2 [(0, .ref a_t), (1, .int p1)] := hl
  unfold F_S_sign at hF
  refine lv_iload_n hx hb dX11_sign_0 rfl (lv_at hl 1 rfl) ?_
  by_cases c1 : p1 = (0 : Int32)
  · have hF := if_y c1 hF
    refine lv_tableIn (tgt := 28) hx hb dX11_sign_1 (by rw [c1]; decide) (by rw [c1]; decide) (by rw [c1]; rfl) (by decide) ?_
    refine lv_aload_n hx hb dX11_sign_28 rfl (lv_at hl 0 rfl) ?_
    refine m_get X hW fdX11_66 0 rfl rfl dX11_sign_29 ?_
    refine m_callV X hW hA hl.1 lkX11_288 (c_Fraction_signNumber l E _ N a_t_fraction a_t_fraction_below a_t_fraction_above a_t_fraction_above_limb t_fraction_above_limbs  (F_Fraction_signNumber t_fraction_above_limbs) rfl) [1, 2] (by decide) rfl rfl (ws' := (wd_S_sign E a_t a_t_now a_t_draft a_t_firstImage a_t_secondImage a_t_news a_t_otherNews a_t_readings a_t_chances a_t_turning a_t_text a_t_fraction a_t_fraction_above a_t_fraction_above_limb a_t_fraction_below a_t_fraction_below_limb t_fraction_above_limbs t_fraction_below_limbs)) rfl 1 rfl rfl rfl (As := []) (rest := []) rfl rfl ⟨rfl, rfl, Nat.le_of_ble_eq_true rfl, Nat.le_of_ble_eq_true rfl⟩ (Nat.le_of_ble_eq_true rfl) (Nat.zero_le _) (Nat.zero_le _) dX11_sign_32 (fun H locs hW => ?_)
    have hq := hF
    subst hq
    exact hret _ _ _ _ hW dX11_sign_35
  · have hF := if_n c1 hF
    by_cases c2 : p1 = (1 : Int32)
    · have hF := if_y c2 hF
      refine lv_tableIn (tgt := 36) hx hb dX11_sign_1 (by rw [c2]; decide) (by rw [c2]; decide) (by rw [c2]; rfl) (by decide) ?_
      refine lv_aload_n hx hb dX11_sign_36 rfl (lv_at hl 0 rfl) ?_
      refine m_get X hW fdX11_66 0 rfl rfl dX11_sign_37 ?_
      refine m_get X hW fdX11_291 1 rfl rfl dX11_sign_40 ?_
      refine m_get X hW fdX11_295 2 rfl rfl dX11_sign_43 ?_
      have hq := hF
      subst hq
      exact hret _ _ _ _ hW dX11_sign_46
    · have hF := if_n c2 hF
      by_cases c3 : p1 = (2 : Int32)
      · have hF := if_y c3 hF
        refine lv_tableIn (tgt := 47) hx hb dX11_sign_1 (by rw [c3]; decide) (by rw [c3]; decide) (by rw [c3]; rfl) (by decide) ?_
        refine lv_aload_n hx hb dX11_sign_47 rfl (lv_at hl 0 rfl) ?_
        refine m_get X hW fdX11_66 0 rfl rfl dX11_sign_48 ?_
        refine m_get X hW fdX11_300 1 rfl rfl dX11_sign_51 ?_
        refine m_get X hW fdX11_295 3 rfl rfl dX11_sign_54 ?_
        have hq := hF
        subst hq
        exact hret _ _ _ _ hW dX11_sign_57
      · have hF := if_n c3 hF
        refine lv_tableOut (tgt := 58) hx hb dX11_sign_1 (m_sw_0_2 c1 c2 c3) (by decide) ?_
        refine lv_bipush (v := (-2 : Int32)) hx hb dX11_sign_58 (by decide) ?_
        have hq := hF
        subst hq
        exact hret _ _ _ _ hW dX11_sign_60
abbrev wd_Natural_limbAt (E : m_E) (a_t : Nat) (a_t_limb : Nat) (t_limbs : Int32) (t_limb : Nat → Int32) : va_W := [(a_t, .inr (4, [.ref a_t_limb, .int t_limbs])), (a_t_limb, .inl (E.2.1 0, 40, .inl t_limb))]
def rm_Natural_limbAt : Room := { frames := 1, cells := 0, slots := 0, locals := 22 }
set_option maxHeartbeats 4000000 in
set_option maxRecDepth 100000 in
theorem c_Natural_limbAt (l : Launch) (E : m_E) (sz N : Nat) (a_t : Nat) (a_t_limb : Nat) (t_limbs : Int32) (t_limb : Nat → Int32) (p1 : Int32) (ures : Int32) (hF : F_Natural_limbAt p1 t_limbs t_limb = some ures) : m_Met l yX4_limbAt cX4_limbAt 2 (some .int) rm_Natural_limbAt E (wd_Natural_limbAt E a_t a_t_limb t_limbs t_limb) (wd_Natural_limbAt E a_t a_t_limb t_limbs t_limb) sz [.ref a_t, .int p1] (some (.int ures)) := by
  refine m_ofI (by decide) (Nat.le_of_ble_eq_true rfl) ?_
  intro p e s m args below meth c A Q ls X hW hA hl hret
  obtain ⟨hx, hb, -, hown, hts, hK, -, hG⟩ := id X
  have hl : lv_has ls 2 [(0, .ref a_t), (1, .int p1)] := hl
  unfold F_Natural_limbAt at hF
  refine lv_iload_n hx hb dX4_limbAt_0 rfl (lv_at hl 1 rfl) ?_
  refine lv_iconst (v := (0 : Int32)) hx hb dX4_limbAt_1 (by decide) ?_
  refine lv_aload_n hx hb dX4_limbAt_2 rfl (lv_at hl 0 rfl) ?_
  refine m_get X hW fdX4_15 0 rfl rfl dX4_limbAt_3 ?_
  refine lv_iconst (v := (1 : Int32)) hx hb dX4_limbAt_6 (by decide) ?_
  refine lv_isub hx hb dX4_limbAt_7 ?_
  refine m_callN X hW hA hl.1 lkX4_19 (c_S_within l E _ N   p1 (0 : Int32) (t_limbs - (1 : Int32)) (F_S_within p1 (0 : Int32) (t_limbs - (1 : Int32))) rfl) [] (by decide) rfl rfl (ws' := (wd_Natural_limbAt E a_t a_t_limb t_limbs t_limb)) rfl (As := [.int p1, .int (0 : Int32), .int (t_limbs - (1 : Int32))]) (rest := []) rfl rfl ⟨rfl, rfl, Nat.le_of_ble_eq_true rfl, Nat.le_of_ble_eq_true rfl⟩ (Nat.le_of_ble_eq_true rfl) (Nat.zero_le _) (Nat.zero_le _) dX4_limbAt_8 (fun H locs hW => ?_)
  refine lv_if_eq (tgt := 23) hx hb dX4_limbAt_11 (by decide) (fun c1 => ?_) (fun c1 => ?_)
  · have hF := if_y c1 hF
    refine lv_iconst (v := (-1 : Int32)) hx hb dX4_limbAt_23 (by decide) ?_
    have hq := Option.some.inj hF
    subst hq
    exact hret _ _ _ _ hW dX4_limbAt_24
  · have hF := if_n c1 hF
    refine lv_aload_n hx hb dX4_limbAt_14 rfl (lv_at hl 0 rfl) ?_
    refine m_get X hW fdX4_11 0 rfl rfl dX4_limbAt_15 ?_
    refine lv_iload_n hx hb dX4_limbAt_18 rfl (lv_at hl 1 rfl) ?_
    obtain ⟨g2, hF⟩ := gd_some hF
    refine m_iald X hW 1 (k := p1.toNatClampNeg) rfl g2 rfl dX4_limbAt_19 ?_
    refine lv_goto (tgt := 24) hx hb dX4_limbAt_20 (by decide) ?_
    have hq := Option.some.inj hF
    subst hq
    exact hret _ _ _ _ hW dX4_limbAt_24
abbrev wd_S_limb (E : m_E) (a_t : Nat) (a_t_now : Nat) (a_t_draft : Nat) (a_t_firstImage : Nat) (a_t_secondImage : Nat) (a_t_news : Nat) (a_t_otherNews : Nat) (a_t_readings : Nat) (a_t_chances : Nat) (a_t_turning : Nat) (a_t_text : Nat) (a_t_fraction : Nat) (a_t_fraction_above : Nat) (a_t_fraction_above_limb : Nat) (a_t_fraction_below : Nat) (a_t_fraction_below_limb : Nat) (t_fraction_above_limbs : Int32) (t_fraction_above_limb : Nat → Int32) (t_fraction_below_limbs : Int32) (t_fraction_below_limb : Nat → Int32) : va_W := [(a_t, .inr (11, [.ref a_t_now, .ref a_t_draft, .ref a_t_firstImage, .ref a_t_secondImage, .ref a_t_news, .ref a_t_otherNews, .ref a_t_readings, .ref a_t_chances, .ref a_t_turning, .ref a_t_text, .ref a_t_fraction])), (a_t_fraction, .inr (2, [.ref a_t_fraction_above, .ref a_t_fraction_below])), (a_t_fraction_above, .inr (4, [.ref a_t_fraction_above_limb, .int t_fraction_above_limbs])), (a_t_fraction_above_limb, .inl (E.2.1 0, 40, .inl t_fraction_above_limb)), (a_t_fraction_below, .inr (4, [.ref a_t_fraction_below_limb, .int t_fraction_below_limbs])), (a_t_fraction_below_limb, .inl (E.2.1 0, 40, .inl t_fraction_below_limb))]
def rm_S_limb : Room := { frames := 2, cells := 0, slots := 0, locals := 43 }
set_option maxHeartbeats 4000000 in
set_option maxRecDepth 100000 in
theorem c_S_limb (l : Launch) (E : m_E) (sz N : Nat) (a_t : Nat) (a_t_now : Nat) (a_t_draft : Nat) (a_t_firstImage : Nat) (a_t_secondImage : Nat) (a_t_news : Nat) (a_t_otherNews : Nat) (a_t_readings : Nat) (a_t_chances : Nat) (a_t_turning : Nat) (a_t_text : Nat) (a_t_fraction : Nat) (a_t_fraction_above : Nat) (a_t_fraction_above_limb : Nat) (a_t_fraction_below : Nat) (a_t_fraction_below_limb : Nat) (t_fraction_above_limbs : Int32) (t_fraction_above_limb : Nat → Int32) (t_fraction_below_limbs : Int32) (t_fraction_below_limb : Nat → Int32) (p1 : Int32) (p2 : Int32) (ures : Int32) (hF : F_S_limb p1 p2 t_fraction_above_limbs t_fraction_above_limb t_fraction_below_limbs t_fraction_below_limb = some ures) : m_Met l yX11_limb cX11_limb 3 (some .int) rm_S_limb E (wd_S_limb E a_t a_t_now a_t_draft a_t_firstImage a_t_secondImage a_t_news a_t_otherNews a_t_readings a_t_chances a_t_turning a_t_text a_t_fraction a_t_fraction_above a_t_fraction_above_limb a_t_fraction_below a_t_fraction_below_limb t_fraction_above_limbs t_fraction_above_limb t_fraction_below_limbs t_fraction_below_limb) (wd_S_limb E a_t a_t_now a_t_draft a_t_firstImage a_t_secondImage a_t_news a_t_otherNews a_t_readings a_t_chances a_t_turning a_t_text a_t_fraction a_t_fraction_above a_t_fraction_above_limb a_t_fraction_below a_t_fraction_below_limb t_fraction_above_limbs t_fraction_above_limb t_fraction_below_limbs t_fraction_below_limb) sz [.ref a_t, .int p1, .int p2] (some (.int ures)) := by
  refine m_ofI (by decide) (Nat.le_of_ble_eq_true rfl) ?_
  intro p e s m args below meth c A Q ls X hW hA hl hret
  obtain ⟨hx, hb, -, hown, hts, hK, -, hG⟩ := id X
  have hl : lv_has ls 3 [(0, .ref a_t), (1, .int p1), (2, .int p2)] := hl
  unfold F_S_limb at hF
  refine lv_iload_n hx hb dX11_limb_0 rfl (lv_at hl 1 rfl) ?_
  refine lv_iconst (v := (0 : Int32)) hx hb dX11_limb_1 (by decide) ?_
  refine lv_iconst (v := (1 : Int32)) hx hb dX11_limb_2 (by decide) ?_
  refine m_callS X hW hA hl.1 lkX11_98 (c_S_within l E _ N   p1 (0 : Int32) (1 : Int32) (F_S_within p1 (0 : Int32) (1 : Int32)) rfl) [] (by decide) rfl rfl (ws' := (wd_S_limb E a_t a_t_now a_t_draft a_t_firstImage a_t_secondImage a_t_news a_t_otherNews a_t_readings a_t_chances a_t_turning a_t_text a_t_fraction a_t_fraction_above a_t_fraction_above_limb a_t_fraction_below a_t_fraction_below_limb t_fraction_above_limbs t_fraction_above_limb t_fraction_below_limbs t_fraction_below_limb)) rfl (As := [.int p1, .int (0 : Int32), .int (1 : Int32)]) (rest := []) rfl rfl ⟨rfl, rfl, Nat.le_of_ble_eq_true rfl, Nat.le_of_ble_eq_true rfl⟩ (Nat.le_of_ble_eq_true rfl) (Nat.zero_le _) (Nat.zero_le _) dX11_limb_3 (fun H locs hW => ?_)
  refine lv_if_eq (tgt := 13) hx hb dX11_limb_6 (by decide) (fun c1 => ?_) (fun c1 => ?_)
  · have hF := if_y c1 hF
    refine lv_bipush (v := (-2 : Int32)) hx hb dX11_limb_13 (by decide) ?_
    have hq := Option.some.inj hF
    subst hq
    exact hret _ _ _ _ hW dX11_limb_15
  · have hF := if_n c1 hF
    refine lv_iload_n hx hb dX11_limb_9 rfl (lv_at hl 2 rfl) ?_
    refine lv_if_ge (tgt := 16) hx hb dX11_limb_10 (by decide) (fun c2 => ?_) (fun c2 => ?_)
    · have hF := if_y c2 hF
      refine lv_iload_n hx hb dX11_limb_16 rfl (lv_at hl 1 rfl) ?_
      refine lv_if_ne (tgt := 34) hx hb dX11_limb_17 (by decide) (fun c3 => ?_) (fun c3 => ?_)
      · have hF := if_n c3 hF
        refine lv_aload_n hx hb dX11_limb_34 rfl (lv_at hl 0 rfl) ?_
        refine m_get X hW fdX11_66 0 rfl rfl dX11_limb_35 ?_
        refine m_get X hW fdX11_300 1 rfl rfl dX11_limb_38 ?_
        refine lv_iload_n hx hb dX11_limb_41 rfl (lv_at hl 2 rfl) ?_
        obtain ⟨r42, hC4, hF⟩ := bO_s1 hF
        refine m_callV X hW hA hl.1 lkX11_303 (c_Natural_limbAt l E _ N a_t_fraction_below a_t_fraction_below_limb t_fraction_below_limbs t_fraction_below_limb p2 r42 hC4) [4, 5] (by decide) rfl rfl (ws' := (wd_S_limb E a_t a_t_now a_t_draft a_t_firstImage a_t_secondImage a_t_news a_t_otherNews a_t_readings a_t_chances a_t_turning a_t_text a_t_fraction a_t_fraction_above a_t_fraction_above_limb a_t_fraction_below a_t_fraction_below_limb t_fraction_above_limbs t_fraction_above_limb t_fraction_below_limbs t_fraction_below_limb)) rfl 4 rfl rfl rfl (As := [.int p2]) (rest := []) rfl rfl ⟨rfl, rfl, Nat.le_of_ble_eq_true rfl, Nat.le_of_ble_eq_true rfl⟩ (Nat.le_of_ble_eq_true rfl) (Nat.zero_le _) (Nat.zero_le _) dX11_limb_42 (fun H locs hW => ?_)
        clear hC4
        have hq := Option.some.inj hF
        subst hq
        exact hret _ _ _ _ hW dX11_limb_45
      · have hF := if_y c3 hF
        refine lv_aload_n hx hb dX11_limb_20 rfl (lv_at hl 0 rfl) ?_
        refine m_get X hW fdX11_66 0 rfl rfl dX11_limb_21 ?_
        refine m_get X hW fdX11_291 1 rfl rfl dX11_limb_24 ?_
        refine lv_iload_n hx hb dX11_limb_27 rfl (lv_at hl 2 rfl) ?_
        obtain ⟨r28, hC5, hF⟩ := bO_s1 hF
        refine m_callV X hW hA hl.1 lkX11_303 (c_Natural_limbAt l E _ N a_t_fraction_above a_t_fraction_above_limb t_fraction_above_limbs t_fraction_above_limb p2 r28 hC5) [2, 3] (by decide) rfl rfl (ws' := (wd_S_limb E a_t a_t_now a_t_draft a_t_firstImage a_t_secondImage a_t_news a_t_otherNews a_t_readings a_t_chances a_t_turning a_t_text a_t_fraction a_t_fraction_above a_t_fraction_above_limb a_t_fraction_below a_t_fraction_below_limb t_fraction_above_limbs t_fraction_above_limb t_fraction_below_limbs t_fraction_below_limb)) rfl 2 rfl rfl rfl (As := [.int p2]) (rest := []) rfl rfl ⟨rfl, rfl, Nat.le_of_ble_eq_true rfl, Nat.le_of_ble_eq_true rfl⟩ (Nat.le_of_ble_eq_true rfl) (Nat.zero_le _) (Nat.zero_le _) dX11_limb_28 (fun H locs hW => ?_)
        clear hC5
        refine lv_goto (tgt := 45) hx hb dX11_limb_31 (by decide) ?_
        have hq := Option.some.inj hF
        subst hq
        exact hret _ _ _ _ hW dX11_limb_45
    · have hF := if_n c2 hF
      refine lv_bipush (v := (-2 : Int32)) hx hb dX11_limb_13 (by decide) ?_
      have hq := Option.some.inj hF
      subst hq
      exact hret _ _ _ _ hW dX11_limb_15
abbrev wd_Long_bitCount (E : m_E)   : va_W := []
def rm_Long_bitCount : Room := { frames := 0, cells := 0, slots := 0, locals := 0 }
set_option maxHeartbeats 4000000 in
set_option maxRecDepth 100000 in
theorem c_Long_bitCount (l : Launch) (E : m_E) (sz N : Nat)   (p1 : Int64) (ures : Int32) (hF : F_Long_bitCount p1 = ures) : m_Met l yJ13_bitCount_95d88 cJ13_bitCount_95d88 2 (some .int) rm_Long_bitCount E (wd_Long_bitCount E) (wd_Long_bitCount E) sz [.long p1] (some (.int ures)) := by
  refine m_ofI (by decide) (Nat.le_of_ble_eq_true rfl) ?_
  intro p e s m args below meth c A Q ls X hW hA hl hret
  obtain ⟨hx, hb, -, hown, hts, hK, -, hG⟩ := id X
  have hl : lv_has ls 2 [(0, .long p1)] := hl
  unfold F_Long_bitCount at hF
  refine lv_lload_n hx hb dJ13_bitCount_95d88_0 rfl (lv_at hl 0 rfl) ?_
  refine lv_lload_n hx hb dJ13_bitCount_95d88_1 rfl (lv_at hl 0 rfl) ?_
  refine lv_iconst (v := (1 : Int32)) hx hb dJ13_bitCount_95d88_2 (by decide) ?_
  refine m_lushr hx hb dJ13_bitCount_95d88_3 ?_
  refine lv_ldc2 (v := (6148914691236517205 : Int64)) hx hb hown (hts _ wk_1065) dJ13_bitCount_95d88_4 ?_
  refine lv_land hx hb dJ13_bitCount_95d88_7 ?_
  refine lv_lsub hx hb dJ13_bitCount_95d88_8 ?_
  refine lv_lstore_n (lv' := [(0, .long (p1 - ((jushrL p1 (1 : Int32)) &&& (6148914691236517205 : Int64))))]) hx hb dJ13_bitCount_95d88_9 rfl hl (by decide) rfl (fun ls hl => ?_)
  refine lv_lload_n hx hb dJ13_bitCount_95d88_10 rfl (lv_at hl 0 rfl) ?_
  refine lv_ldc2 (v := (3689348814741910323 : Int64)) hx hb hown (hts _ wk_1066) dJ13_bitCount_95d88_11 ?_
  refine lv_land hx hb dJ13_bitCount_95d88_14 ?_
  refine lv_lload_n hx hb dJ13_bitCount_95d88_15 rfl (lv_at hl 0 rfl) ?_
  refine lv_iconst (v := (2 : Int32)) hx hb dJ13_bitCount_95d88_16 (by decide) ?_
  refine m_lushr hx hb dJ13_bitCount_95d88_17 ?_
  refine lv_ldc2 (v := (3689348814741910323 : Int64)) hx hb hown (hts _ wk_1066) dJ13_bitCount_95d88_18 ?_
  refine lv_land hx hb dJ13_bitCount_95d88_21 ?_
  refine lv_ladd hx hb dJ13_bitCount_95d88_22 ?_
  refine lv_lstore_n (lv' := [(0, .long (((p1 - ((jushrL p1 (1 : Int32)) &&& (6148914691236517205 : Int64))) &&& (3689348814741910323 : Int64)) + ((jushrL (p1 - ((jushrL p1 (1 : Int32)) &&& (6148914691236517205 : Int64))) (2 : Int32)) &&& (3689348814741910323 : Int64))))]) hx hb dJ13_bitCount_95d88_23 rfl hl (by decide) rfl (fun ls hl => ?_)
  refine lv_lload_n hx hb dJ13_bitCount_95d88_24 rfl (lv_at hl 0 rfl) ?_
  refine lv_lload_n hx hb dJ13_bitCount_95d88_25 rfl (lv_at hl 0 rfl) ?_
  refine lv_iconst (v := (4 : Int32)) hx hb dJ13_bitCount_95d88_26 (by decide) ?_
  refine m_lushr hx hb dJ13_bitCount_95d88_27 ?_
  refine lv_ladd hx hb dJ13_bitCount_95d88_28 ?_
  refine lv_ldc2 (v := (1085102592571150095 : Int64)) hx hb hown (hts _ wk_1067) dJ13_bitCount_95d88_29 ?_
  refine lv_land hx hb dJ13_bitCount_95d88_32 ?_
  refine lv_lstore_n (lv' := [(0, .long (((((p1 - ((jushrL p1 (1 : Int32)) &&& (6148914691236517205 : Int64))) &&& (3689348814741910323 : Int64)) + ((jushrL (p1 - ((jushrL p1 (1 : Int32)) &&& (6148914691236517205 : Int64))) (2 : Int32)) &&& (3689348814741910323 : Int64))) + (jushrL (((p1 - ((jushrL p1 (1 : Int32)) &&& (6148914691236517205 : Int64))) &&& (3689348814741910323 : Int64)) + ((jushrL (p1 - ((jushrL p1 (1 : Int32)) &&& (6148914691236517205 : Int64))) (2 : Int32)) &&& (3689348814741910323 : Int64))) (4 : Int32))) &&& (1085102592571150095 : Int64)))]) hx hb dJ13_bitCount_95d88_33 rfl hl (by decide) rfl (fun ls hl => ?_)
  refine lv_lload_n hx hb dJ13_bitCount_95d88_34 rfl (lv_at hl 0 rfl) ?_
  refine lv_lload_n hx hb dJ13_bitCount_95d88_35 rfl (lv_at hl 0 rfl) ?_
  refine lv_bipush (v := (8 : Int32)) hx hb dJ13_bitCount_95d88_36 (by decide) ?_
  refine m_lushr hx hb dJ13_bitCount_95d88_38 ?_
  refine lv_ladd hx hb dJ13_bitCount_95d88_39 ?_
  refine lv_lstore_n (lv' := [(0, .long ((((((p1 - ((jushrL p1 (1 : Int32)) &&& (6148914691236517205 : Int64))) &&& (3689348814741910323 : Int64)) + ((jushrL (p1 - ((jushrL p1 (1 : Int32)) &&& (6148914691236517205 : Int64))) (2 : Int32)) &&& (3689348814741910323 : Int64))) + (jushrL (((p1 - ((jushrL p1 (1 : Int32)) &&& (6148914691236517205 : Int64))) &&& (3689348814741910323 : Int64)) + ((jushrL (p1 - ((jushrL p1 (1 : Int32)) &&& (6148914691236517205 : Int64))) (2 : Int32)) &&& (3689348814741910323 : Int64))) (4 : Int32))) &&& (1085102592571150095 : Int64)) + (jushrL (((((p1 - ((jushrL p1 (1 : Int32)) &&& (6148914691236517205 : Int64))) &&& (3689348814741910323 : Int64)) + ((jushrL (p1 - ((jushrL p1 (1 : Int32)) &&& (6148914691236517205 : Int64))) (2 : Int32)) &&& (3689348814741910323 : Int64))) + (jushrL (((p1 - ((jushrL p1 (1 : Int32)) &&& (6148914691236517205 : Int64))) &&& (3689348814741910323 : Int64)) + ((jushrL (p1 - ((jushrL p1 (1 : Int32)) &&& (6148914691236517205 : Int64))) (2 : Int32)) &&& (3689348814741910323 : Int64))) (4 : Int32))) &&& (1085102592571150095 : Int64)) (8 : Int32))))]) hx hb dJ13_bitCount_95d88_40 rfl hl (by decide) rfl (fun ls hl => ?_)
  refine lv_lload_n hx hb dJ13_bitCount_95d88_41 rfl (lv_at hl 0 rfl) ?_
  refine lv_lload_n hx hb dJ13_bitCount_95d88_42 rfl (lv_at hl 0 rfl) ?_
  refine lv_bipush (v := (16 : Int32)) hx hb dJ13_bitCount_95d88_43 (by decide) ?_
  refine m_lushr hx hb dJ13_bitCount_95d88_45 ?_
  refine lv_ladd hx hb dJ13_bitCount_95d88_46 ?_
  refine lv_lstore_n (lv' := [(0, .long (((((((p1 - ((jushrL p1 (1 : Int32)) &&& (6148914691236517205 : Int64))) &&& (3689348814741910323 : Int64)) + ((jushrL (p1 - ((jushrL p1 (1 : Int32)) &&& (6148914691236517205 : Int64))) (2 : Int32)) &&& (3689348814741910323 : Int64))) + (jushrL (((p1 - ((jushrL p1 (1 : Int32)) &&& (6148914691236517205 : Int64))) &&& (3689348814741910323 : Int64)) + ((jushrL (p1 - ((jushrL p1 (1 : Int32)) &&& (6148914691236517205 : Int64))) (2 : Int32)) &&& (3689348814741910323 : Int64))) (4 : Int32))) &&& (1085102592571150095 : Int64)) + (jushrL (((((p1 - ((jushrL p1 (1 : Int32)) &&& (6148914691236517205 : Int64))) &&& (3689348814741910323 : Int64)) + ((jushrL (p1 - ((jushrL p1 (1 : Int32)) &&& (6148914691236517205 : Int64))) (2 : Int32)) &&& (3689348814741910323 : Int64))) + (jushrL (((p1 - ((jushrL p1 (1 : Int32)) &&& (6148914691236517205 : Int64))) &&& (3689348814741910323 : Int64)) + ((jushrL (p1 - ((jushrL p1 (1 : Int32)) &&& (6148914691236517205 : Int64))) (2 : Int32)) &&& (3689348814741910323 : Int64))) (4 : Int32))) &&& (1085102592571150095 : Int64)) (8 : Int32))) + (jushrL ((((((p1 - ((jushrL p1 (1 : Int32)) &&& (6148914691236517205 : Int64))) &&& (3689348814741910323 : Int64)) + ((jushrL (p1 - ((jushrL p1 (1 : Int32)) &&& (6148914691236517205 : Int64))) (2 : Int32)) &&& (3689348814741910323 : Int64))) + (jushrL (((p1 - ((jushrL p1 (1 : Int32)) &&& (6148914691236517205 : Int64))) &&& (3689348814741910323 : Int64)) + ((jushrL (p1 - ((jushrL p1 (1 : Int32)) &&& (6148914691236517205 : Int64))) (2 : Int32)) &&& (3689348814741910323 : Int64))) (4 : Int32))) &&& (1085102592571150095 : Int64)) + (jushrL (((((p1 - ((jushrL p1 (1 : Int32)) &&& (6148914691236517205 : Int64))) &&& (3689348814741910323 : Int64)) + ((jushrL (p1 - ((jushrL p1 (1 : Int32)) &&& (6148914691236517205 : Int64))) (2 : Int32)) &&& (3689348814741910323 : Int64))) + (jushrL (((p1 - ((jushrL p1 (1 : Int32)) &&& (6148914691236517205 : Int64))) &&& (3689348814741910323 : Int64)) + ((jushrL (p1 - ((jushrL p1 (1 : Int32)) &&& (6148914691236517205 : Int64))) (2 : Int32)) &&& (3689348814741910323 : Int64))) (4 : Int32))) &&& (1085102592571150095 : Int64)) (8 : Int32))) (16 : Int32))))]) hx hb dJ13_bitCount_95d88_47 rfl hl (by decide) rfl (fun ls hl => ?_)
  refine lv_lload_n hx hb dJ13_bitCount_95d88_48 rfl (lv_at hl 0 rfl) ?_
  refine lv_lload_n hx hb dJ13_bitCount_95d88_49 rfl (lv_at hl 0 rfl) ?_
  refine lv_bipush (v := (32 : Int32)) hx hb dJ13_bitCount_95d88_50 (by decide) ?_
  refine m_lushr hx hb dJ13_bitCount_95d88_52 ?_
  refine lv_ladd hx hb dJ13_bitCount_95d88_53 ?_
  refine lv_lstore_n (lv' := [(0, .long ((((((((p1 - ((jushrL p1 (1 : Int32)) &&& (6148914691236517205 : Int64))) &&& (3689348814741910323 : Int64)) + ((jushrL (p1 - ((jushrL p1 (1 : Int32)) &&& (6148914691236517205 : Int64))) (2 : Int32)) &&& (3689348814741910323 : Int64))) + (jushrL (((p1 - ((jushrL p1 (1 : Int32)) &&& (6148914691236517205 : Int64))) &&& (3689348814741910323 : Int64)) + ((jushrL (p1 - ((jushrL p1 (1 : Int32)) &&& (6148914691236517205 : Int64))) (2 : Int32)) &&& (3689348814741910323 : Int64))) (4 : Int32))) &&& (1085102592571150095 : Int64)) + (jushrL (((((p1 - ((jushrL p1 (1 : Int32)) &&& (6148914691236517205 : Int64))) &&& (3689348814741910323 : Int64)) + ((jushrL (p1 - ((jushrL p1 (1 : Int32)) &&& (6148914691236517205 : Int64))) (2 : Int32)) &&& (3689348814741910323 : Int64))) + (jushrL (((p1 - ((jushrL p1 (1 : Int32)) &&& (6148914691236517205 : Int64))) &&& (3689348814741910323 : Int64)) + ((jushrL (p1 - ((jushrL p1 (1 : Int32)) &&& (6148914691236517205 : Int64))) (2 : Int32)) &&& (3689348814741910323 : Int64))) (4 : Int32))) &&& (1085102592571150095 : Int64)) (8 : Int32))) + (jushrL ((((((p1 - ((jushrL p1 (1 : Int32)) &&& (6148914691236517205 : Int64))) &&& (3689348814741910323 : Int64)) + ((jushrL (p1 - ((jushrL p1 (1 : Int32)) &&& (6148914691236517205 : Int64))) (2 : Int32)) &&& (3689348814741910323 : Int64))) + (jushrL (((p1 - ((jushrL p1 (1 : Int32)) &&& (6148914691236517205 : Int64))) &&& (3689348814741910323 : Int64)) + ((jushrL (p1 - ((jushrL p1 (1 : Int32)) &&& (6148914691236517205 : Int64))) (2 : Int32)) &&& (3689348814741910323 : Int64))) (4 : Int32))) &&& (1085102592571150095 : Int64)) + (jushrL (((((p1 - ((jushrL p1 (1 : Int32)) &&& (6148914691236517205 : Int64))) &&& (3689348814741910323 : Int64)) + ((jushrL (p1 - ((jushrL p1 (1 : Int32)) &&& (6148914691236517205 : Int64))) (2 : Int32)) &&& (3689348814741910323 : Int64))) + (jushrL (((p1 - ((jushrL p1 (1 : Int32)) &&& (6148914691236517205 : Int64))) &&& (3689348814741910323 : Int64)) + ((jushrL (p1 - ((jushrL p1 (1 : Int32)) &&& (6148914691236517205 : Int64))) (2 : Int32)) &&& (3689348814741910323 : Int64))) (4 : Int32))) &&& (1085102592571150095 : Int64)) (8 : Int32))) (16 : Int32))) + (jushrL (((((((p1 - ((jushrL p1 (1 : Int32)) &&& (6148914691236517205 : Int64))) &&& (3689348814741910323 : Int64)) + ((jushrL (p1 - ((jushrL p1 (1 : Int32)) &&& (6148914691236517205 : Int64))) (2 : Int32)) &&& (3689348814741910323 : Int64))) + (jushrL (((p1 - ((jushrL p1 (1 : Int32)) &&& (6148914691236517205 : Int64))) &&& (3689348814741910323 : Int64)) + ((jushrL (p1 - ((jushrL p1 (1 : Int32)) &&& (6148914691236517205 : Int64))) (2 : Int32)) &&& (3689348814741910323 : Int64))) (4 : Int32))) &&& (1085102592571150095 : Int64)) + (jushrL (((((p1 - ((jushrL p1 (1 : Int32)) &&& (6148914691236517205 : Int64))) &&& (3689348814741910323 : Int64)) + ((jushrL (p1 - ((jushrL p1 (1 : Int32)) &&& (6148914691236517205 : Int64))) (2 : Int32)) &&& (3689348814741910323 : Int64))) + (jushrL (((p1 - ((jushrL p1 (1 : Int32)) &&& (6148914691236517205 : Int64))) &&& (3689348814741910323 : Int64)) + ((jushrL (p1 - ((jushrL p1 (1 : Int32)) &&& (6148914691236517205 : Int64))) (2 : Int32)) &&& (3689348814741910323 : Int64))) (4 : Int32))) &&& (1085102592571150095 : Int64)) (8 : Int32))) + (jushrL ((((((p1 - ((jushrL p1 (1 : Int32)) &&& (6148914691236517205 : Int64))) &&& (3689348814741910323 : Int64)) + ((jushrL (p1 - ((jushrL p1 (1 : Int32)) &&& (6148914691236517205 : Int64))) (2 : Int32)) &&& (3689348814741910323 : Int64))) + (jushrL (((p1 - ((jushrL p1 (1 : Int32)) &&& (6148914691236517205 : Int64))) &&& (3689348814741910323 : Int64)) + ((jushrL (p1 - ((jushrL p1 (1 : Int32)) &&& (6148914691236517205 : Int64))) (2 : Int32)) &&& (3689348814741910323 : Int64))) (4 : Int32))) &&& (1085102592571150095 : Int64)) + (jushrL (((((p1 - ((jushrL p1 (1 : Int32)) &&& (6148914691236517205 : Int64))) &&& (3689348814741910323 : Int64)) + ((jushrL (p1 - ((jushrL p1 (1 : Int32)) &&& (6148914691236517205 : Int64))) (2 : Int32)) &&& (3689348814741910323 : Int64))) + (jushrL (((p1 - ((jushrL p1 (1 : Int32)) &&& (6148914691236517205 : Int64))) &&& (3689348814741910323 : Int64)) + ((jushrL (p1 - ((jushrL p1 (1 : Int32)) &&& (6148914691236517205 : Int64))) (2 : Int32)) &&& (3689348814741910323 : Int64))) (4 : Int32))) &&& (1085102592571150095 : Int64)) (8 : Int32))) (16 : Int32))) (32 : Int32))))]) hx hb dJ13_bitCount_95d88_54 rfl hl (by decide) rfl (fun ls hl => ?_)
  refine lv_lload_n hx hb dJ13_bitCount_95d88_55 rfl (lv_at hl 0 rfl) ?_
  refine lv_l2i (v := ((((((((p1 - ((jushrL p1 (1 : Int32)) &&& (6148914691236517205 : Int64))) &&& (3689348814741910323 : Int64)) + ((jushrL (p1 - ((jushrL p1 (1 : Int32)) &&& (6148914691236517205 : Int64))) (2 : Int32)) &&& (3689348814741910323 : Int64))) + (jushrL (((p1 - ((jushrL p1 (1 : Int32)) &&& (6148914691236517205 : Int64))) &&& (3689348814741910323 : Int64)) + ((jushrL (p1 - ((jushrL p1 (1 : Int32)) &&& (6148914691236517205 : Int64))) (2 : Int32)) &&& (3689348814741910323 : Int64))) (4 : Int32))) &&& (1085102592571150095 : Int64)) + (jushrL (((((p1 - ((jushrL p1 (1 : Int32)) &&& (6148914691236517205 : Int64))) &&& (3689348814741910323 : Int64)) + ((jushrL (p1 - ((jushrL p1 (1 : Int32)) &&& (6148914691236517205 : Int64))) (2 : Int32)) &&& (3689348814741910323 : Int64))) + (jushrL (((p1 - ((jushrL p1 (1 : Int32)) &&& (6148914691236517205 : Int64))) &&& (3689348814741910323 : Int64)) + ((jushrL (p1 - ((jushrL p1 (1 : Int32)) &&& (6148914691236517205 : Int64))) (2 : Int32)) &&& (3689348814741910323 : Int64))) (4 : Int32))) &&& (1085102592571150095 : Int64)) (8 : Int32))) + (jushrL ((((((p1 - ((jushrL p1 (1 : Int32)) &&& (6148914691236517205 : Int64))) &&& (3689348814741910323 : Int64)) + ((jushrL (p1 - ((jushrL p1 (1 : Int32)) &&& (6148914691236517205 : Int64))) (2 : Int32)) &&& (3689348814741910323 : Int64))) + (jushrL (((p1 - ((jushrL p1 (1 : Int32)) &&& (6148914691236517205 : Int64))) &&& (3689348814741910323 : Int64)) + ((jushrL (p1 - ((jushrL p1 (1 : Int32)) &&& (6148914691236517205 : Int64))) (2 : Int32)) &&& (3689348814741910323 : Int64))) (4 : Int32))) &&& (1085102592571150095 : Int64)) + (jushrL (((((p1 - ((jushrL p1 (1 : Int32)) &&& (6148914691236517205 : Int64))) &&& (3689348814741910323 : Int64)) + ((jushrL (p1 - ((jushrL p1 (1 : Int32)) &&& (6148914691236517205 : Int64))) (2 : Int32)) &&& (3689348814741910323 : Int64))) + (jushrL (((p1 - ((jushrL p1 (1 : Int32)) &&& (6148914691236517205 : Int64))) &&& (3689348814741910323 : Int64)) + ((jushrL (p1 - ((jushrL p1 (1 : Int32)) &&& (6148914691236517205 : Int64))) (2 : Int32)) &&& (3689348814741910323 : Int64))) (4 : Int32))) &&& (1085102592571150095 : Int64)) (8 : Int32))) (16 : Int32))) + (jushrL (((((((p1 - ((jushrL p1 (1 : Int32)) &&& (6148914691236517205 : Int64))) &&& (3689348814741910323 : Int64)) + ((jushrL (p1 - ((jushrL p1 (1 : Int32)) &&& (6148914691236517205 : Int64))) (2 : Int32)) &&& (3689348814741910323 : Int64))) + (jushrL (((p1 - ((jushrL p1 (1 : Int32)) &&& (6148914691236517205 : Int64))) &&& (3689348814741910323 : Int64)) + ((jushrL (p1 - ((jushrL p1 (1 : Int32)) &&& (6148914691236517205 : Int64))) (2 : Int32)) &&& (3689348814741910323 : Int64))) (4 : Int32))) &&& (1085102592571150095 : Int64)) + (jushrL (((((p1 - ((jushrL p1 (1 : Int32)) &&& (6148914691236517205 : Int64))) &&& (3689348814741910323 : Int64)) + ((jushrL (p1 - ((jushrL p1 (1 : Int32)) &&& (6148914691236517205 : Int64))) (2 : Int32)) &&& (3689348814741910323 : Int64))) + (jushrL (((p1 - ((jushrL p1 (1 : Int32)) &&& (6148914691236517205 : Int64))) &&& (3689348814741910323 : Int64)) + ((jushrL (p1 - ((jushrL p1 (1 : Int32)) &&& (6148914691236517205 : Int64))) (2 : Int32)) &&& (3689348814741910323 : Int64))) (4 : Int32))) &&& (1085102592571150095 : Int64)) (8 : Int32))) + (jushrL ((((((p1 - ((jushrL p1 (1 : Int32)) &&& (6148914691236517205 : Int64))) &&& (3689348814741910323 : Int64)) + ((jushrL (p1 - ((jushrL p1 (1 : Int32)) &&& (6148914691236517205 : Int64))) (2 : Int32)) &&& (3689348814741910323 : Int64))) + (jushrL (((p1 - ((jushrL p1 (1 : Int32)) &&& (6148914691236517205 : Int64))) &&& (3689348814741910323 : Int64)) + ((jushrL (p1 - ((jushrL p1 (1 : Int32)) &&& (6148914691236517205 : Int64))) (2 : Int32)) &&& (3689348814741910323 : Int64))) (4 : Int32))) &&& (1085102592571150095 : Int64)) + (jushrL (((((p1 - ((jushrL p1 (1 : Int32)) &&& (6148914691236517205 : Int64))) &&& (3689348814741910323 : Int64)) + ((jushrL (p1 - ((jushrL p1 (1 : Int32)) &&& (6148914691236517205 : Int64))) (2 : Int32)) &&& (3689348814741910323 : Int64))) + (jushrL (((p1 - ((jushrL p1 (1 : Int32)) &&& (6148914691236517205 : Int64))) &&& (3689348814741910323 : Int64)) + ((jushrL (p1 - ((jushrL p1 (1 : Int32)) &&& (6148914691236517205 : Int64))) (2 : Int32)) &&& (3689348814741910323 : Int64))) (4 : Int32))) &&& (1085102592571150095 : Int64)) (8 : Int32))) (16 : Int32))) (32 : Int32))).toInt32) hx hb dJ13_bitCount_95d88_56 rfl ?_
  refine lv_bipush (v := (127 : Int32)) hx hb dJ13_bitCount_95d88_57 (by decide) ?_
  refine lv_iand hx hb dJ13_bitCount_95d88_59 ?_
  have hq := hF
  subst hq
  exact hret _ _ _ _ hW dJ13_bitCount_95d88_60
abbrev wd_S_count (E : m_E) (a_t : Nat) (a_t_draft : Nat) (a_t_firstImage : Nat) (a_t_secondImage : Nat) (a_t_news : Nat) (a_t_otherNews : Nat) (a_t_readings : Nat) (a_t_chances : Nat) (a_t_turning : Nat) (a_t_fraction : Nat) (a_t_now : Nat) (a_t_now_level : Nat) (a_t_now_loss : Nat) (a_t_now_floor : Nat) (a_t_now_floor_place : Nat) (a_t_now_floor_way : Nat) (a_t_now_floor_tell : Nat) (a_t_now_floor_look : Nat) (a_t_now_floor_farSquare : Nat) (a_t_now_sightings : Nat) (a_t_now_sightings_weaver : Nat) (a_t_now_sightings_second : Nat) (a_t_now_sightings_knew : Nat) (a_t_now_lexicon : Nat) (a_t_now_lexicon_length : Nat) (a_t_now_lexicon_number : Nat) (a_t_now_lexicon_weight : Nat) (a_t_now_lexicon_leastLike : Nat) (a_t_now_lexicon_row : Nat) (a_t_now_lexicon_lipsOf : Nat) (a_t_now_lexicon_others : Nat) (a_t_text : Nat) (a_t_text_row : Nat) (a_t_text_itemKind : Nat) (a_t_text_numbersOf : Nat) (a_t_text_number : Nat) (t_now_clearness : Int32) (t_now_isKept : Int32) (t_now_floor_pillars : Int64) (t_now_floor_weavers : Int32) (t_now_sightings_many : Int32) (t_now_lexicon_words : Int32) (t_now_lexicon_rowLips : Int32) (t_now_lexicon_girlKnows : Int32) (t_text_bytes : Int32) (t_text_items : Int32) (t_text_at : Int32) (t_text_token : Int32) (t_text_tokenAt : Int32) (t_text_tokenNumber : Int32) : va_W := [(a_t, .inr (11, [.ref a_t_now, .ref a_t_draft, .ref a_t_firstImage, .ref a_t_secondImage, .ref a_t_news, .ref a_t_otherNews, .ref a_t_readings, .ref a_t_chances, .ref a_t_turning, .ref a_t_text, .ref a_t_fraction])), (a_t_now, .inr (7, [.ref a_t_now_floor, .ref a_t_now_sightings, .ref a_t_now_lexicon, .ref a_t_now_level, .ref a_t_now_loss, .int t_now_clearness, .int t_now_isKept])), (a_t_now_floor, .inr (1, [.long t_now_floor_pillars, .int t_now_floor_weavers, .ref a_t_now_floor_place, .ref a_t_now_floor_way, .ref a_t_now_floor_tell, .ref a_t_now_floor_look, .ref a_t_now_floor_farSquare])), (a_t_now_sightings, .inr (8, [.int t_now_sightings_many, .ref a_t_now_sightings_weaver, .ref a_t_now_sightings_second, .ref a_t_now_sightings_knew])), (a_t_now_lexicon, .inr (3, [.int t_now_lexicon_words, .ref a_t_now_lexicon_length, .ref a_t_now_lexicon_number, .ref a_t_now_lexicon_weight, .ref a_t_now_lexicon_leastLike, .ref a_t_now_lexicon_row, .int t_now_lexicon_rowLips, .int t_now_lexicon_girlKnows, .ref a_t_now_lexicon_lipsOf, .ref a_t_now_lexicon_others])), (a_t_text, .inr (9, [.int t_text_bytes, .int t_text_items, .ref a_t_text_row, .ref a_t_text_itemKind, .ref a_t_text_numbersOf, .ref a_t_text_number, .int t_text_at, .int t_text_token, .int t_text_tokenAt, .int t_text_tokenNumber]))]
def rm_S_count : Room := { frames := 1, cells := 0, slots := 0, locals := 21 }
set_option maxHeartbeats 4000000 in
set_option maxRecDepth 100000 in
theorem c_S_count (l : Launch) (E : m_E) (sz N : Nat) (a_t : Nat) (a_t_draft : Nat) (a_t_firstImage : Nat) (a_t_secondImage : Nat) (a_t_news : Nat) (a_t_otherNews : Nat) (a_t_readings : Nat) (a_t_chances : Nat) (a_t_turning : Nat) (a_t_fraction : Nat) (a_t_now : Nat) (a_t_now_level : Nat) (a_t_now_loss : Nat) (a_t_now_floor : Nat) (a_t_now_floor_place : Nat) (a_t_now_floor_way : Nat) (a_t_now_floor_tell : Nat) (a_t_now_floor_look : Nat) (a_t_now_floor_farSquare : Nat) (a_t_now_sightings : Nat) (a_t_now_sightings_weaver : Nat) (a_t_now_sightings_second : Nat) (a_t_now_sightings_knew : Nat) (a_t_now_lexicon : Nat) (a_t_now_lexicon_length : Nat) (a_t_now_lexicon_number : Nat) (a_t_now_lexicon_weight : Nat) (a_t_now_lexicon_leastLike : Nat) (a_t_now_lexicon_row : Nat) (a_t_now_lexicon_lipsOf : Nat) (a_t_now_lexicon_others : Nat) (a_t_text : Nat) (a_t_text_row : Nat) (a_t_text_itemKind : Nat) (a_t_text_numbersOf : Nat) (a_t_text_number : Nat) (t_now_clearness : Int32) (t_now_isKept : Int32) (t_now_floor_pillars : Int64) (t_now_floor_weavers : Int32) (t_now_sightings_many : Int32) (t_now_lexicon_words : Int32) (t_now_lexicon_rowLips : Int32) (t_now_lexicon_girlKnows : Int32) (t_text_bytes : Int32) (t_text_items : Int32) (t_text_at : Int32) (t_text_token : Int32) (t_text_tokenAt : Int32) (t_text_tokenNumber : Int32) (p1 : Int32) (ures : Int32) (hF : F_S_count p1 t_now_floor_pillars t_now_floor_weavers t_now_sightings_many t_now_lexicon_words t_now_lexicon_rowLips t_text_bytes = ures) : m_Met l yX11_count cX11_count 2 (some .int) rm_S_count E (wd_S_count E a_t a_t_draft a_t_firstImage a_t_secondImage a_t_news a_t_otherNews a_t_readings a_t_chances a_t_turning a_t_fraction a_t_now a_t_now_level a_t_now_loss a_t_now_floor a_t_now_floor_place a_t_now_floor_way a_t_now_floor_tell a_t_now_floor_look a_t_now_floor_farSquare a_t_now_sightings a_t_now_sightings_weaver a_t_now_sightings_second a_t_now_sightings_knew a_t_now_lexicon a_t_now_lexicon_length a_t_now_lexicon_number a_t_now_lexicon_weight a_t_now_lexicon_leastLike a_t_now_lexicon_row a_t_now_lexicon_lipsOf a_t_now_lexicon_others a_t_text a_t_text_row a_t_text_itemKind a_t_text_numbersOf a_t_text_number t_now_clearness t_now_isKept t_now_floor_pillars t_now_floor_weavers t_now_sightings_many t_now_lexicon_words t_now_lexicon_rowLips t_now_lexicon_girlKnows t_text_bytes t_text_items t_text_at t_text_token t_text_tokenAt t_text_tokenNumber) (wd_S_count E a_t a_t_draft a_t_firstImage a_t_secondImage a_t_news a_t_otherNews a_t_readings a_t_chances a_t_turning a_t_fraction a_t_now a_t_now_level a_t_now_loss a_t_now_floor a_t_now_floor_place a_t_now_floor_way a_t_now_floor_tell a_t_now_floor_look a_t_now_floor_farSquare a_t_now_sightings a_t_now_sightings_weaver a_t_now_sightings_second a_t_now_sightings_knew a_t_now_lexicon a_t_now_lexicon_length a_t_now_lexicon_number a_t_now_lexicon_weight a_t_now_lexicon_leastLike a_t_now_lexicon_row a_t_now_lexicon_lipsOf a_t_now_lexicon_others a_t_text a_t_text_row a_t_text_itemKind a_t_text_numbersOf a_t_text_number t_now_clearness t_now_isKept t_now_floor_pillars t_now_floor_weavers t_now_sightings_many t_now_lexicon_words t_now_lexicon_rowLips t_now_lexicon_girlKnows t_text_bytes t_text_items t_text_at t_text_token t_text_tokenAt t_text_tokenNumber) sz [.ref a_t, .int p1] (some (.int ures)) := by
  refine m_ofI (by decide) (Nat.le_of_ble_eq_true rfl) ?_
  intro p e s m args below meth c A Q ls X hW hA hl hret
  obtain ⟨hx, hb, -, hown, hts, hK, -, hG⟩ := id X
  have hl : lv_has ls 2 [(0, .ref a_t), (1, .int p1)] := hl
  unfold F_S_count at hF
  refine lv_iload_n hx hb dX11_count_0 rfl (lv_at hl 1 rfl) ?_
  by_cases c1 : p1 = (0 : Int32)
  · have hF := if_y c1 hF
    refine lv_tableIn (tgt := 40) hx hb dX11_count_1 (by rw [c1]; decide) (by rw [c1]; decide) (by rw [c1]; rfl) (by decide) ?_
    refine lv_aload_n hx hb dX11_count_40 rfl (lv_at hl 0 rfl) ?_
    refine m_get X hW fdX11_10 0 rfl rfl dX11_count_41 ?_
    refine m_get X hW fdX11_70 1 rfl rfl dX11_count_44 ?_
    refine m_get X hW fdX11_314 2 rfl rfl dX11_count_47 ?_
    refine m_callS X hW hA hl.1 lkX11_318 (c_Long_bitCount l E _ N   t_now_floor_pillars (F_Long_bitCount t_now_floor_pillars) rfl) [] (by decide) rfl rfl (ws' := (wd_S_count E a_t a_t_draft a_t_firstImage a_t_secondImage a_t_news a_t_otherNews a_t_readings a_t_chances a_t_turning a_t_fraction a_t_now a_t_now_level a_t_now_loss a_t_now_floor a_t_now_floor_place a_t_now_floor_way a_t_now_floor_tell a_t_now_floor_look a_t_now_floor_farSquare a_t_now_sightings a_t_now_sightings_weaver a_t_now_sightings_second a_t_now_sightings_knew a_t_now_lexicon a_t_now_lexicon_length a_t_now_lexicon_number a_t_now_lexicon_weight a_t_now_lexicon_leastLike a_t_now_lexicon_row a_t_now_lexicon_lipsOf a_t_now_lexicon_others a_t_text a_t_text_row a_t_text_itemKind a_t_text_numbersOf a_t_text_number t_now_clearness t_now_isKept t_now_floor_pillars t_now_floor_weavers t_now_sightings_many t_now_lexicon_words t_now_lexicon_rowLips t_now_lexicon_girlKnows t_text_bytes t_text_items t_text_at t_text_token t_text_tokenAt t_text_tokenNumber)) rfl (As := [.long t_now_floor_pillars]) (rest := []) rfl rfl ⟨rfl, rfl, Nat.le_of_ble_eq_true rfl, Nat.le_of_ble_eq_true rfl⟩ (Nat.le_of_ble_eq_true rfl) (Nat.zero_le _) (Nat.zero_le _) dX11_count_50 (fun H locs hW => ?_)
    have hq := hF
    subst hq
    exact hret _ _ _ _ hW dX11_count_53
  · have hF := if_n c1 hF
    by_cases c2 : p1 = (1 : Int32)
    · have hF := if_y c2 hF
      refine lv_tableIn (tgt := 54) hx hb dX11_count_1 (by rw [c2]; decide) (by rw [c2]; decide) (by rw [c2]; rfl) (by decide) ?_
      refine lv_aload_n hx hb dX11_count_54 rfl (lv_at hl 0 rfl) ?_
      refine m_get X hW fdX11_10 0 rfl rfl dX11_count_55 ?_
      refine m_get X hW fdX11_70 1 rfl rfl dX11_count_58 ?_
      refine m_get X hW fdX11_144 2 rfl rfl dX11_count_61 ?_
      have hq := hF
      subst hq
      exact hret _ _ _ _ hW dX11_count_64
    · have hF := if_n c2 hF
      by_cases c3 : p1 = (2 : Int32)
      · have hF := if_y c3 hF
        refine lv_tableIn (tgt := 65) hx hb dX11_count_1 (by rw [c3]; decide) (by rw [c3]; decide) (by rw [c3]; rfl) (by decide) ?_
        refine lv_aload_n hx hb dX11_count_65 rfl (lv_at hl 0 rfl) ?_
        refine m_get X hW fdX11_10 0 rfl rfl dX11_count_66 ?_
        refine m_get X hW fdX11_134 1 rfl rfl dX11_count_69 ?_
        refine m_get X hW fdX11_323 3 rfl rfl dX11_count_72 ?_
        have hq := hF
        subst hq
        exact hret _ _ _ _ hW dX11_count_75
      · have hF := if_n c3 hF
        by_cases c4 : p1 = (3 : Int32)
        · have hF := if_y c4 hF
          refine lv_tableIn (tgt := 76) hx hb dX11_count_1 (by rw [c4]; decide) (by rw [c4]; decide) (by rw [c4]; rfl) (by decide) ?_
          refine lv_aload_n hx hb dX11_count_76 rfl (lv_at hl 0 rfl) ?_
          refine m_get X hW fdX11_10 0 rfl rfl dX11_count_77 ?_
          refine m_get X hW fdX11_156 1 rfl rfl dX11_count_80 ?_
          refine m_get X hW fdX11_202 4 rfl rfl dX11_count_83 ?_
          have hq := hF
          subst hq
          exact hret _ _ _ _ hW dX11_count_86
        · have hF := if_n c4 hF
          by_cases c5 : p1 = (4 : Int32)
          · have hF := if_y c5 hF
            refine lv_tableIn (tgt := 87) hx hb dX11_count_1 (by rw [c5]; decide) (by rw [c5]; decide) (by rw [c5]; rfl) (by decide) ?_
            refine lv_aload_n hx hb dX11_count_87 rfl (lv_at hl 0 rfl) ?_
            refine m_get X hW fdX11_10 0 rfl rfl dX11_count_88 ?_
            refine m_get X hW fdX11_156 1 rfl rfl dX11_count_91 ?_
            refine m_get X hW fdX11_178 4 rfl rfl dX11_count_94 ?_
            have hq := hF
            subst hq
            exact hret _ _ _ _ hW dX11_count_97
          · have hF := if_n c5 hF
            by_cases c6 : p1 = (5 : Int32)
            · have hF := if_y c6 hF
              refine lv_tableIn (tgt := 98) hx hb dX11_count_1 (by rw [c6]; decide) (by rw [c6]; decide) (by rw [c6]; rfl) (by decide) ?_
              refine lv_aload_n hx hb dX11_count_98 rfl (lv_at hl 0 rfl) ?_
              refine m_get X hW fdX11_59 0 rfl rfl dX11_count_99 ?_
              refine m_get X hW fdX11_268 5 rfl rfl dX11_count_102 ?_
              have hq := hF
              subst hq
              exact hret _ _ _ _ hW dX11_count_105
            · have hF := if_n c6 hF
              refine lv_tableOut (tgt := 106) hx hb dX11_count_1 (m_sw_0_5 c1 c2 c3 c4 c5 c6) (by decide) ?_
              refine lv_bipush (v := (-2 : Int32)) hx hb dX11_count_106 (by decide) ?_
              have hq := hF
              subst hq
              exact hret _ _ _ _ hW dX11_count_108
abbrev wd_S_mixed (E : m_E)   : va_W := []
def rm_S_mixed : Room := { frames := 0, cells := 0, slots := 0, locals := 0 }
set_option maxHeartbeats 4000000 in
set_option maxRecDepth 100000 in
theorem c_S_mixed (l : Launch) (E : m_E) (sz N : Nat)   (p1 : Int64) (p2 : Int32) (ures : Int64) (hF : F_S_mixed p1 p2 = ures) : m_Met l yX11_mixed cX11_mixed 3 (some .long) rm_S_mixed E (wd_S_mixed E) (wd_S_mixed E) sz [.long p1, .int p2] (some (.long ures)) := by
  refine m_ofJ (by decide) (Nat.le_of_ble_eq_true rfl) ?_
  intro p e s m args below meth c A Q ls X hW hA hl hret
  obtain ⟨hx, hb, -, hown, hts, hK, -, hG⟩ := id X
  have hl : lv_has ls 3 [(0, .long p1), (2, .int p2)] := hl
  unfold F_S_mixed at hF
  refine lv_ldc2 (v := (31 : Int64)) hx hb hown (hts _ wk_1077) dX11_mixed_0 ?_
  refine lv_lload_n hx hb dX11_mixed_3 rfl (lv_at hl 0 rfl) ?_
  refine lv_lmul hx hb dX11_mixed_4 ?_
  refine lv_iload_n hx hb dX11_mixed_5 rfl (lv_at hl 1 rfl) ?_
  refine lv_i2l (v := p2.toInt64) hx hb dX11_mixed_6 rfl ?_
  refine lv_ladd hx hb dX11_mixed_7 ?_
  have hq := hF
  subst hq
  exact hret _ _ _ _ hW dX11_mixed_8
abbrev wd_Floor_digestOnto (E : m_E) (a_t : Nat) (a_t_place : Nat) (a_t_way : Nat) (a_t_tell : Nat) (a_t_look : Nat) (a_t_farSquare : Nat) (t_pillars : Int64) (t_weavers : Int32) (t_place : Nat → Int32) (t_way : Nat → Int32) (t_tell : Nat → Int32) (t_look : Nat → Int32) (t_farSquare : Nat → Int32) : va_W := [(a_t, .inr (1, [.long t_pillars, .int t_weavers, .ref a_t_place, .ref a_t_way, .ref a_t_tell, .ref a_t_look, .ref a_t_farSquare])), (a_t_place, .inl (E.2.1 0, 8, .inl t_place)), (a_t_way, .inl (E.2.1 0, 8, .inl t_way)), (a_t_tell, .inl (E.2.1 0, 8, .inl t_tell)), (a_t_look, .inl (E.2.1 0, 8, .inl t_look)), (a_t_farSquare, .inl (E.2.1 0, 2, .inl t_farSquare))]
def rm_Floor_digestOnto : Room := { frames := 1, cells := 0, slots := 0, locals := 22 }
set_option maxHeartbeats 4000000 in
set_option maxRecDepth 100000 in
theorem c_Floor_digestOnto (l : Launch) (E : m_E) (sz N : Nat) (a_t : Nat) (a_t_place : Nat) (a_t_way : Nat) (a_t_tell : Nat) (a_t_look : Nat) (a_t_farSquare : Nat) (t_pillars : Int64) (t_weavers : Int32) (t_place : Nat → Int32) (t_way : Nat → Int32) (t_tell : Nat → Int32) (t_look : Nat → Int32) (t_farSquare : Nat → Int32) (p1 : Int64) (ures : Int64) (hF : F_Floor_digestOnto N p1 t_pillars t_weavers t_place t_way t_tell t_look t_farSquare = some ures) : m_Met l yX1_digestOnto cX1_digestOnto 6 (some .long) rm_Floor_digestOnto E (wd_Floor_digestOnto E a_t a_t_place a_t_way a_t_tell a_t_look a_t_farSquare t_pillars t_weavers t_place t_way t_tell t_look t_farSquare) (wd_Floor_digestOnto E a_t a_t_place a_t_way a_t_tell a_t_look a_t_farSquare t_pillars t_weavers t_place t_way t_tell t_look t_farSquare) sz [.ref a_t, .long p1] (some (.long ures)) := by
  refine m_ofJ (by decide) (Nat.le_of_ble_eq_true rfl) ?_
  intro p e s m args below meth c A Q ls X hW hA hl hret
  obtain ⟨hx, hb, -, hown, hts, hK, -, hG⟩ := id X
  have hl : lv_has ls 6 [(0, .ref a_t), (1, .long p1)] := hl
  unfold F_Floor_digestOnto at hF
  refine lv_lload_n hx hb dX1_digestOnto_0 rfl (lv_at hl 1 rfl) ?_
  refine lv_lstore_n (lv' := [(3, .long p1), (0, .ref a_t), (1, .long p1)]) hx hb dX1_digestOnto_1 rfl hl (by decide) rfl (fun ls hl => ?_)
  refine lv_iconst (v := (0 : Int32)) hx hb dX1_digestOnto_2 (by decide) ?_
  refine lv_istore (lv' := [(5, .int (0 : Int32)), (3, .long p1), (0, .ref a_t), (1, .long p1)]) hx hb dX1_digestOnto_3 hl (by decide) rfl (fun ls hl => ?_)
  obtain ⟨x3_2, hX2, hF⟩ := bO_s1 hF
  have L1 : ∀ (k0 : Nat) (x3 : Int64) (x5 : Int32) (x3_2 : Int64) (H : Heap) (locs : List Loc) (ls : Array Slot), Floor_digestOnto_L5 t_pillars k0 x3 x5 = some x3_2 → m_H E A (wd_Floor_digestOnto E a_t a_t_place a_t_way a_t_tell a_t_look a_t_farSquare t_pillars t_weavers t_place t_way t_tell t_look t_farSquare) s.heap H locs → lv_has ls 6 [(5, .int x5), (3, .long x3), (0, .ref a_t)] → (∀ (H : Heap) (locs : List Loc) (ls : Array Slot), m_H E A (wd_Floor_digestOnto E a_t a_t_place a_t_way a_t_tell a_t_look a_t_farSquare t_pillars t_weavers t_place t_way t_tell t_look t_farSquare) s.heap H locs → lv_has ls 6 [(3, .long x3_2), (0, .ref a_t)] → W p l e rm_Floor_digestOnto s m args below meth c H locs 0 0 Q (F0 m 32 ls [])) → W p l e rm_Floor_digestOnto s m args below meth c H locs 0 0 Q (F0 m 5 ls []) := by
    clear hF
    intro k0
    induction k0 with
    | zero =>
      intro x3 x5 x3_2 H locs ls hF
      cases hF
    | succ k0 ih4 =>
      intro x3 x5 x3_2 H locs ls hF hW hl hk3
      rw [Floor_digestOnto_L5] at hF
      refine lv_iload hx hb dX1_digestOnto_5 (lv_at hl 0 rfl) ?_
      refine lv_bipush (v := (64 : Int32)) hx hb dX1_digestOnto_7 (by decide) ?_
      refine lv_icmp_ge (tgt := 32) hx hb dX1_digestOnto_9 (by decide) (fun c5 => ?_) (fun c5 => ?_)
      · have hF := if_y c5 hF
        cases hF
        exact hk3 _ _ _ hW (lv_sub hl [1, 2] rfl)
      · have hF := if_n c5 hF
        refine lv_lload_n hx hb dX1_digestOnto_12 rfl (lv_at hl 1 rfl) ?_
        refine lv_aload_n hx hb dX1_digestOnto_13 rfl (lv_at hl 2 rfl) ?_
        refine lv_iload hx hb dX1_digestOnto_14 (lv_at hl 0 rfl) ?_
        refine m_callV X hW hA hl.1 lkX1_55 (c_Floor_hasPillar l E _ N a_t a_t_place a_t_way a_t_tell a_t_look a_t_farSquare t_pillars t_weavers x5 (F_Floor_hasPillar x5 t_pillars) rfl) [0] (by decide) rfl rfl (ws' := (wd_Floor_digestOnto E a_t a_t_place a_t_way a_t_tell a_t_look a_t_farSquare t_pillars t_weavers t_place t_way t_tell t_look t_farSquare)) rfl 0 rfl rfl rfl (As := [.int x5]) (rest := [.long x3]) rfl rfl ⟨rfl, rfl, Nat.le_of_ble_eq_true rfl, Nat.le_of_ble_eq_true rfl⟩ (Nat.le_of_ble_eq_true rfl) (Nat.zero_le _) (Nat.zero_le _) dX1_digestOnto_16 (fun H locs hW => ?_)
        refine m_callN X hW hA hl.1 lkX1_86 (c_S_oneIf l E _ N   (F_Floor_hasPillar x5 t_pillars) (F_S_oneIf (F_Floor_hasPillar x5 t_pillars)) rfl) [] (by decide) rfl rfl (ws' := (wd_Floor_digestOnto E a_t a_t_place a_t_way a_t_tell a_t_look a_t_farSquare t_pillars t_weavers t_place t_way t_tell t_look t_farSquare)) rfl (As := [.int (F_Floor_hasPillar x5 t_pillars)]) (rest := [.long x3]) rfl rfl ⟨rfl, rfl, Nat.le_of_ble_eq_true rfl, Nat.le_of_ble_eq_true rfl⟩ (Nat.le_of_ble_eq_true rfl) (Nat.zero_le _) (Nat.zero_le _) dX1_digestOnto_19 (fun H locs hW => ?_)
        refine m_callN X hW hA hl.1 lkX1_90 (c_S_mixed l E _ N   x3 (F_S_oneIf (F_Floor_hasPillar x5 t_pillars)) (F_S_mixed x3 (F_S_oneIf (F_Floor_hasPillar x5 t_pillars))) rfl) [] (by decide) rfl rfl (ws' := (wd_Floor_digestOnto E a_t a_t_place a_t_way a_t_tell a_t_look a_t_farSquare t_pillars t_weavers t_place t_way t_tell t_look t_farSquare)) rfl (As := [.long x3, .int (F_S_oneIf (F_Floor_hasPillar x5 t_pillars))]) (rest := []) rfl rfl ⟨rfl, rfl, Nat.le_of_ble_eq_true rfl, Nat.le_of_ble_eq_true rfl⟩ (Nat.le_of_ble_eq_true rfl) (Nat.zero_le _) (Nat.zero_le _) dX1_digestOnto_22 (fun H locs hW => ?_)
        refine lv_lstore_n (lv' := [(3, .long (F_S_mixed x3 (F_S_oneIf (F_Floor_hasPillar x5 t_pillars)))), (5, .int x5), (0, .ref a_t)]) hx hb dX1_digestOnto_25 rfl hl (by decide) rfl (fun ls hl => ?_)
        refine lv_iinc (v := (x5 + (1 : Int32))) (lv' := [(5, .int (x5 + (1 : Int32))), (3, .long (F_S_mixed x3 (F_S_oneIf (F_Floor_hasPillar x5 t_pillars)))), (0, .ref a_t)]) hx hb dX1_digestOnto_26 hl (k := 1) rfl rfl (by decide) rfl (fun ls hl => ?_)
        refine lv_goto (tgt := 5) hx hb dX1_digestOnto_29 (by decide) ?_
        exact ih4 (F_S_mixed x3 (F_S_oneIf (F_Floor_hasPillar x5 t_pillars))) (x5 + (1 : Int32)) x3_2 _ _ _ hF hW (lv_sub hl [0, 1, 2] rfl) hk3
  refine L1 N p1 (0 : Int32) x3_2 _ _ _ hX2 hW (lv_sub hl [0, 1, 2] rfl) ?_
  intro H locs ls hW hl
  clear L1
  refine lv_iconst (v := (0 : Int32)) hx hb dX1_digestOnto_32 (by decide) ?_
  refine lv_istore (lv' := [(5, .int (0 : Int32)), (3, .long x3_2), (0, .ref a_t)]) hx hb dX1_digestOnto_33 hl (by decide) rfl (fun ls hl => ?_)
  obtain ⟨x3_4, hX7, hF⟩ := bO_s1 hF
  have L6 : ∀ (k0 : Nat) (x3_3 : Int64) (x5_2 : Int32) (x3_4 : Int64) (H : Heap) (locs : List Loc) (ls : Array Slot), Floor_digestOnto_L35 t_weavers t_place t_way t_tell t_look k0 x3_3 x5_2 = some x3_4 → m_H E A (wd_Floor_digestOnto E a_t a_t_place a_t_way a_t_tell a_t_look a_t_farSquare t_pillars t_weavers t_place t_way t_tell t_look t_farSquare) s.heap H locs → lv_has ls 6 [(5, .int x5_2), (3, .long x3_3), (0, .ref a_t)] → (∀ (H : Heap) (locs : List Loc) (ls : Array Slot), m_H E A (wd_Floor_digestOnto E a_t a_t_place a_t_way a_t_tell a_t_look a_t_farSquare t_pillars t_weavers t_place t_way t_tell t_look t_farSquare) s.heap H locs → lv_has ls 6 [(3, .long x3_4), (0, .ref a_t)] → W p l e rm_Floor_digestOnto s m args below meth c H locs 0 0 Q (F0 m 94 ls [])) → W p l e rm_Floor_digestOnto s m args below meth c H locs 0 0 Q (F0 m 35 ls []) := by
    clear hF
    intro k0
    induction k0 with
    | zero =>
      intro x3_3 x5_2 x3_4 H locs ls hF
      cases hF
    | succ k0 ih9 =>
      intro x3_3 x5_2 x3_4 H locs ls hF hW hl hk8
      rw [Floor_digestOnto_L35] at hF
      refine lv_iload hx hb dX1_digestOnto_35 (lv_at hl 0 rfl) ?_
      refine lv_aload_n hx hb dX1_digestOnto_37 rfl (lv_at hl 2 rfl) ?_
      refine m_get X hW fdX1_34 0 rfl rfl dX1_digestOnto_38 ?_
      refine lv_icmp_ge (tgt := 94) hx hb dX1_digestOnto_41 (by decide) (fun c10 => ?_) (fun c10 => ?_)
      · have hF := if_y c10 hF
        cases hF
        exact hk8 _ _ _ hW (lv_sub hl [1, 2] rfl)
      · have hF := if_n c10 hF
        refine lv_lload_n hx hb dX1_digestOnto_44 rfl (lv_at hl 1 rfl) ?_
        refine lv_aload_n hx hb dX1_digestOnto_45 rfl (lv_at hl 2 rfl) ?_
        refine m_get X hW fdX1_11 0 rfl rfl dX1_digestOnto_46 ?_
        refine lv_iload hx hb dX1_digestOnto_49 (lv_at hl 0 rfl) ?_
        obtain ⟨g11, hF⟩ := gd_some hF
        refine m_iald X hW 1 (k := x5_2.toNatClampNeg) rfl g11 rfl dX1_digestOnto_51 ?_
        refine m_callN X hW hA hl.1 lkX1_90 (c_S_mixed l E _ N   x3_3 (t_place x5_2.toNatClampNeg) (F_S_mixed x3_3 (t_place x5_2.toNatClampNeg)) rfl) [] (by decide) rfl rfl (ws' := (wd_Floor_digestOnto E a_t a_t_place a_t_way a_t_tell a_t_look a_t_farSquare t_pillars t_weavers t_place t_way t_tell t_look t_farSquare)) rfl (As := [.long x3_3, .int (t_place x5_2.toNatClampNeg)]) (rest := []) rfl rfl ⟨rfl, rfl, Nat.le_of_ble_eq_true rfl, Nat.le_of_ble_eq_true rfl⟩ (Nat.le_of_ble_eq_true rfl) (Nat.zero_le _) (Nat.zero_le _) dX1_digestOnto_52 (fun H locs hW => ?_)
        refine lv_aload_n hx hb dX1_digestOnto_55 rfl (lv_at hl 2 rfl) ?_
        refine m_get X hW fdX1_15 0 rfl rfl dX1_digestOnto_56 ?_
        refine lv_iload hx hb dX1_digestOnto_59 (lv_at hl 0 rfl) ?_
        refine m_iald X hW 2 (k := x5_2.toNatClampNeg) rfl g11 rfl dX1_digestOnto_61 ?_
        refine m_callN X hW hA hl.1 lkX1_90 (c_S_mixed l E _ N   (F_S_mixed x3_3 (t_place x5_2.toNatClampNeg)) (t_way x5_2.toNatClampNeg) (F_S_mixed (F_S_mixed x3_3 (t_place x5_2.toNatClampNeg)) (t_way x5_2.toNatClampNeg)) rfl) [] (by decide) rfl rfl (ws' := (wd_Floor_digestOnto E a_t a_t_place a_t_way a_t_tell a_t_look a_t_farSquare t_pillars t_weavers t_place t_way t_tell t_look t_farSquare)) rfl (As := [.long (F_S_mixed x3_3 (t_place x5_2.toNatClampNeg)), .int (t_way x5_2.toNatClampNeg)]) (rest := []) rfl rfl ⟨rfl, rfl, Nat.le_of_ble_eq_true rfl, Nat.le_of_ble_eq_true rfl⟩ (Nat.le_of_ble_eq_true rfl) (Nat.zero_le _) (Nat.zero_le _) dX1_digestOnto_62 (fun H locs hW => ?_)
        refine lv_lstore_n (lv' := [(3, .long (F_S_mixed (F_S_mixed x3_3 (t_place x5_2.toNatClampNeg)) (t_way x5_2.toNatClampNeg))), (5, .int x5_2), (0, .ref a_t)]) hx hb dX1_digestOnto_65 rfl hl (by decide) rfl (fun ls hl => ?_)
        refine lv_lload_n hx hb dX1_digestOnto_66 rfl (lv_at hl 0 rfl) ?_
        refine lv_aload_n hx hb dX1_digestOnto_67 rfl (lv_at hl 2 rfl) ?_
        refine m_get X hW fdX1_18 0 rfl rfl dX1_digestOnto_68 ?_
        refine lv_iload hx hb dX1_digestOnto_71 (lv_at hl 1 rfl) ?_
        refine m_iald X hW 3 (k := x5_2.toNatClampNeg) rfl g11 rfl dX1_digestOnto_73 ?_
        refine m_callN X hW hA hl.1 lkX1_90 (c_S_mixed l E _ N   (F_S_mixed (F_S_mixed x3_3 (t_place x5_2.toNatClampNeg)) (t_way x5_2.toNatClampNeg)) (t_tell x5_2.toNatClampNeg) (F_S_mixed (F_S_mixed (F_S_mixed x3_3 (t_place x5_2.toNatClampNeg)) (t_way x5_2.toNatClampNeg)) (t_tell x5_2.toNatClampNeg)) rfl) [] (by decide) rfl rfl (ws' := (wd_Floor_digestOnto E a_t a_t_place a_t_way a_t_tell a_t_look a_t_farSquare t_pillars t_weavers t_place t_way t_tell t_look t_farSquare)) rfl (As := [.long (F_S_mixed (F_S_mixed x3_3 (t_place x5_2.toNatClampNeg)) (t_way x5_2.toNatClampNeg)), .int (t_tell x5_2.toNatClampNeg)]) (rest := []) rfl rfl ⟨rfl, rfl, Nat.le_of_ble_eq_true rfl, Nat.le_of_ble_eq_true rfl⟩ (Nat.le_of_ble_eq_true rfl) (Nat.zero_le _) (Nat.zero_le _) dX1_digestOnto_74 (fun H locs hW => ?_)
        refine lv_aload_n hx hb dX1_digestOnto_77 rfl (lv_at hl 2 rfl) ?_
        refine m_get X hW fdX1_21 0 rfl rfl dX1_digestOnto_78 ?_
        refine lv_iload hx hb dX1_digestOnto_81 (lv_at hl 1 rfl) ?_
        refine m_iald X hW 4 (k := x5_2.toNatClampNeg) rfl g11 rfl dX1_digestOnto_83 ?_
        refine m_callN X hW hA hl.1 lkX1_90 (c_S_mixed l E _ N   (F_S_mixed (F_S_mixed (F_S_mixed x3_3 (t_place x5_2.toNatClampNeg)) (t_way x5_2.toNatClampNeg)) (t_tell x5_2.toNatClampNeg)) (t_look x5_2.toNatClampNeg) (F_S_mixed (F_S_mixed (F_S_mixed (F_S_mixed x3_3 (t_place x5_2.toNatClampNeg)) (t_way x5_2.toNatClampNeg)) (t_tell x5_2.toNatClampNeg)) (t_look x5_2.toNatClampNeg)) rfl) [] (by decide) rfl rfl (ws' := (wd_Floor_digestOnto E a_t a_t_place a_t_way a_t_tell a_t_look a_t_farSquare t_pillars t_weavers t_place t_way t_tell t_look t_farSquare)) rfl (As := [.long (F_S_mixed (F_S_mixed (F_S_mixed x3_3 (t_place x5_2.toNatClampNeg)) (t_way x5_2.toNatClampNeg)) (t_tell x5_2.toNatClampNeg)), .int (t_look x5_2.toNatClampNeg)]) (rest := []) rfl rfl ⟨rfl, rfl, Nat.le_of_ble_eq_true rfl, Nat.le_of_ble_eq_true rfl⟩ (Nat.le_of_ble_eq_true rfl) (Nat.zero_le _) (Nat.zero_le _) dX1_digestOnto_84 (fun H locs hW => ?_)
        refine lv_lstore_n (lv' := [(3, .long (F_S_mixed (F_S_mixed (F_S_mixed (F_S_mixed x3_3 (t_place x5_2.toNatClampNeg)) (t_way x5_2.toNatClampNeg)) (t_tell x5_2.toNatClampNeg)) (t_look x5_2.toNatClampNeg))), (5, .int x5_2), (0, .ref a_t)]) hx hb dX1_digestOnto_87 rfl hl (by decide) rfl (fun ls hl => ?_)
        refine lv_iinc (v := (x5_2 + (1 : Int32))) (lv' := [(5, .int (x5_2 + (1 : Int32))), (3, .long (F_S_mixed (F_S_mixed (F_S_mixed (F_S_mixed x3_3 (t_place x5_2.toNatClampNeg)) (t_way x5_2.toNatClampNeg)) (t_tell x5_2.toNatClampNeg)) (t_look x5_2.toNatClampNeg))), (0, .ref a_t)]) hx hb dX1_digestOnto_88 hl (k := 1) rfl rfl (by decide) rfl (fun ls hl => ?_)
        refine lv_goto (tgt := 35) hx hb dX1_digestOnto_91 (by decide) ?_
        exact ih9 (F_S_mixed (F_S_mixed (F_S_mixed (F_S_mixed x3_3 (t_place x5_2.toNatClampNeg)) (t_way x5_2.toNatClampNeg)) (t_tell x5_2.toNatClampNeg)) (t_look x5_2.toNatClampNeg)) (x5_2 + (1 : Int32)) x3_4 _ _ _ hF hW (lv_sub hl [0, 1, 2] rfl) hk8
  refine L6 N x3_2 (0 : Int32) x3_4 _ _ _ hX7 hW (lv_sub hl [0, 1, 2] rfl) ?_
  intro H locs ls hW hl
  clear L6
  refine lv_lload_n hx hb dX1_digestOnto_94 rfl (lv_at hl 0 rfl) ?_
  refine lv_aload_n hx hb dX1_digestOnto_95 rfl (lv_at hl 1 rfl) ?_
  refine m_get X hW fdX1_24 0 rfl rfl dX1_digestOnto_96 ?_
  refine lv_iconst (v := (0 : Int32)) hx hb dX1_digestOnto_99 (by decide) ?_
  refine m_iald X hW 5 (k := 0) rfl (by decide) rfl dX1_digestOnto_100 ?_
  refine m_callN X hW hA hl.1 lkX1_90 (c_S_mixed l E _ N   x3_4 (t_farSquare 0) (F_S_mixed x3_4 (t_farSquare 0)) rfl) [] (by decide) rfl rfl (ws' := (wd_Floor_digestOnto E a_t a_t_place a_t_way a_t_tell a_t_look a_t_farSquare t_pillars t_weavers t_place t_way t_tell t_look t_farSquare)) rfl (As := [.long x3_4, .int (t_farSquare 0)]) (rest := []) rfl rfl ⟨rfl, rfl, Nat.le_of_ble_eq_true rfl, Nat.le_of_ble_eq_true rfl⟩ (Nat.le_of_ble_eq_true rfl) (Nat.zero_le _) (Nat.zero_le _) dX1_digestOnto_101 (fun H locs hW => ?_)
  refine lv_aload_n hx hb dX1_digestOnto_104 rfl (lv_at hl 1 rfl) ?_
  refine m_get X hW fdX1_24 0 rfl rfl dX1_digestOnto_105 ?_
  refine lv_iconst (v := (1 : Int32)) hx hb dX1_digestOnto_108 (by decide) ?_
  refine m_iald X hW 5 (k := 1) rfl (by decide) rfl dX1_digestOnto_109 ?_
  refine m_callN X hW hA hl.1 lkX1_90 (c_S_mixed l E _ N   (F_S_mixed x3_4 (t_farSquare 0)) (t_farSquare 1) (F_S_mixed (F_S_mixed x3_4 (t_farSquare 0)) (t_farSquare 1)) rfl) [] (by decide) rfl rfl (ws' := (wd_Floor_digestOnto E a_t a_t_place a_t_way a_t_tell a_t_look a_t_farSquare t_pillars t_weavers t_place t_way t_tell t_look t_farSquare)) rfl (As := [.long (F_S_mixed x3_4 (t_farSquare 0)), .int (t_farSquare 1)]) (rest := []) rfl rfl ⟨rfl, rfl, Nat.le_of_ble_eq_true rfl, Nat.le_of_ble_eq_true rfl⟩ (Nat.le_of_ble_eq_true rfl) (Nat.zero_le _) (Nat.zero_le _) dX1_digestOnto_110 (fun H locs hW => ?_)
  have hq := Option.some.inj hF
  subst hq
  exact hret _ _ _ _ hW dX1_digestOnto_113
abbrev wd_Sightings_digestOnto (E : m_E) (a_t : Nat) (a_t_weaver : Nat) (a_t_second : Nat) (a_t_knew : Nat) (t_many : Int32) (t_weaver : Nat → Int32) (t_second : Nat → Int32) (t_knew : Nat → Int32) : va_W := [(a_t, .inr (8, [.int t_many, .ref a_t_weaver, .ref a_t_second, .ref a_t_knew])), (a_t_weaver, .inl (E.2.1 0, 10, .inl t_weaver)), (a_t_second, .inl (E.2.1 0, 10, .inl t_second)), (a_t_knew, .inl (E.2.1 0, 10, .inl t_knew))]
def rm_Sightings_digestOnto : Room := { frames := 1, cells := 0, slots := 0, locals := 22 }
set_option maxHeartbeats 4000000 in
set_option maxRecDepth 100000 in
theorem c_Sightings_digestOnto (l : Launch) (E : m_E) (sz N : Nat) (a_t : Nat) (a_t_weaver : Nat) (a_t_second : Nat) (a_t_knew : Nat) (t_many : Int32) (t_weaver : Nat → Int32) (t_second : Nat → Int32) (t_knew : Nat → Int32) (p1 : Int64) (ures : Int64) (hF : F_Sightings_digestOnto N p1 t_many t_weaver t_second t_knew = some ures) : m_Met l yX8_digestOnto cX8_digestOnto 6 (some .long) rm_Sightings_digestOnto E (wd_Sightings_digestOnto E a_t a_t_weaver a_t_second a_t_knew t_many t_weaver t_second t_knew) (wd_Sightings_digestOnto E a_t a_t_weaver a_t_second a_t_knew t_many t_weaver t_second t_knew) sz [.ref a_t, .long p1] (some (.long ures)) := by
  refine m_ofJ (by decide) (Nat.le_of_ble_eq_true rfl) ?_
  intro p e s m args below meth c A Q ls X hW hA hl hret
  obtain ⟨hx, hb, -, hown, hts, hK, -, hG⟩ := id X
  have hl : lv_has ls 6 [(0, .ref a_t), (1, .long p1)] := hl
  unfold F_Sightings_digestOnto at hF
  refine lv_lload_n hx hb dX8_digestOnto_0 rfl (lv_at hl 1 rfl) ?_
  refine lv_lstore_n (lv' := [(3, .long p1), (0, .ref a_t), (1, .long p1)]) hx hb dX8_digestOnto_1 rfl hl (by decide) rfl (fun ls hl => ?_)
  refine lv_iconst (v := (0 : Int32)) hx hb dX8_digestOnto_2 (by decide) ?_
  refine lv_istore (lv' := [(5, .int (0 : Int32)), (3, .long p1), (0, .ref a_t), (1, .long p1)]) hx hb dX8_digestOnto_3 hl (by decide) rfl (fun ls hl => ?_)
  obtain ⟨x3_2, hX2, hF⟩ := bO_s1 hF
  have L1 : ∀ (k0 : Nat) (x3 : Int64) (x5 : Int32) (x3_2 : Int64) (H : Heap) (locs : List Loc) (ls : Array Slot), Sightings_digestOnto_L5 t_many t_weaver t_second t_knew k0 x3 x5 = some x3_2 → m_H E A (wd_Sightings_digestOnto E a_t a_t_weaver a_t_second a_t_knew t_many t_weaver t_second t_knew) s.heap H locs → lv_has ls 6 [(5, .int x5), (3, .long x3), (0, .ref a_t)] → (∀ (H : Heap) (locs : List Loc) (ls : Array Slot), m_H E A (wd_Sightings_digestOnto E a_t a_t_weaver a_t_second a_t_knew t_many t_weaver t_second t_knew) s.heap H locs → lv_has ls 6 [(3, .long x3_2)] → W p l e rm_Sightings_digestOnto s m args below meth c H locs 0 0 Q (F0 m 52 ls [])) → W p l e rm_Sightings_digestOnto s m args below meth c H locs 0 0 Q (F0 m 5 ls []) := by
    clear hF
    intro k0
    induction k0 with
    | zero =>
      intro x3 x5 x3_2 H locs ls hF
      cases hF
    | succ k0 ih4 =>
      intro x3 x5 x3_2 H locs ls hF hW hl hk3
      rw [Sightings_digestOnto_L5] at hF
      refine lv_iload hx hb dX8_digestOnto_5 (lv_at hl 0 rfl) ?_
      refine lv_aload_n hx hb dX8_digestOnto_7 rfl (lv_at hl 2 rfl) ?_
      refine m_get X hW fdX8_21 0 rfl rfl dX8_digestOnto_8 ?_
      refine lv_icmp_ge (tgt := 52) hx hb dX8_digestOnto_11 (by decide) (fun c5 => ?_) (fun c5 => ?_)
      · have hF := if_y c5 hF
        cases hF
        exact hk3 _ _ _ hW (lv_sub hl [1] rfl)
      · have hF := if_n c5 hF
        refine lv_lload_n hx hb dX8_digestOnto_14 rfl (lv_at hl 1 rfl) ?_
        refine lv_aload_n hx hb dX8_digestOnto_15 rfl (lv_at hl 2 rfl) ?_
        refine m_get X hW fdX8_11 0 rfl rfl dX8_digestOnto_16 ?_
        refine lv_iload hx hb dX8_digestOnto_19 (lv_at hl 0 rfl) ?_
        obtain ⟨g6, hF⟩ := gd_some hF
        refine m_iald X hW 1 (k := x5.toNatClampNeg) rfl g6 rfl dX8_digestOnto_21 ?_
        refine m_callN X hW hA hl.1 lkX8_44 (c_S_mixed l E _ N   x3 (t_weaver x5.toNatClampNeg) (F_S_mixed x3 (t_weaver x5.toNatClampNeg)) rfl) [] (by decide) rfl rfl (ws' := (wd_Sightings_digestOnto E a_t a_t_weaver a_t_second a_t_knew t_many t_weaver t_second t_knew)) rfl (As := [.long x3, .int (t_weaver x5.toNatClampNeg)]) (rest := []) rfl rfl ⟨rfl, rfl, Nat.le_of_ble_eq_true rfl, Nat.le_of_ble_eq_true rfl⟩ (Nat.le_of_ble_eq_true rfl) (Nat.zero_le _) (Nat.zero_le _) dX8_digestOnto_22 (fun H locs hW => ?_)
        refine lv_aload_n hx hb dX8_digestOnto_25 rfl (lv_at hl 2 rfl) ?_
        refine m_get X hW fdX8_15 0 rfl rfl dX8_digestOnto_26 ?_
        refine lv_iload hx hb dX8_digestOnto_29 (lv_at hl 0 rfl) ?_
        refine m_iald X hW 2 (k := x5.toNatClampNeg) rfl g6 rfl dX8_digestOnto_31 ?_
        refine m_callN X hW hA hl.1 lkX8_44 (c_S_mixed l E _ N   (F_S_mixed x3 (t_weaver x5.toNatClampNeg)) (t_second x5.toNatClampNeg) (F_S_mixed (F_S_mixed x3 (t_weaver x5.toNatClampNeg)) (t_second x5.toNatClampNeg)) rfl) [] (by decide) rfl rfl (ws' := (wd_Sightings_digestOnto E a_t a_t_weaver a_t_second a_t_knew t_many t_weaver t_second t_knew)) rfl (As := [.long (F_S_mixed x3 (t_weaver x5.toNatClampNeg)), .int (t_second x5.toNatClampNeg)]) (rest := []) rfl rfl ⟨rfl, rfl, Nat.le_of_ble_eq_true rfl, Nat.le_of_ble_eq_true rfl⟩ (Nat.le_of_ble_eq_true rfl) (Nat.zero_le _) (Nat.zero_le _) dX8_digestOnto_32 (fun H locs hW => ?_)
        refine lv_aload_n hx hb dX8_digestOnto_35 rfl (lv_at hl 2 rfl) ?_
        refine m_get X hW fdX8_18 0 rfl rfl dX8_digestOnto_36 ?_
        refine lv_iload hx hb dX8_digestOnto_39 (lv_at hl 0 rfl) ?_
        refine m_iald X hW 3 (k := x5.toNatClampNeg) rfl g6 rfl dX8_digestOnto_41 ?_
        refine m_callN X hW hA hl.1 lkX8_44 (c_S_mixed l E _ N   (F_S_mixed (F_S_mixed x3 (t_weaver x5.toNatClampNeg)) (t_second x5.toNatClampNeg)) (t_knew x5.toNatClampNeg) (F_S_mixed (F_S_mixed (F_S_mixed x3 (t_weaver x5.toNatClampNeg)) (t_second x5.toNatClampNeg)) (t_knew x5.toNatClampNeg)) rfl) [] (by decide) rfl rfl (ws' := (wd_Sightings_digestOnto E a_t a_t_weaver a_t_second a_t_knew t_many t_weaver t_second t_knew)) rfl (As := [.long (F_S_mixed (F_S_mixed x3 (t_weaver x5.toNatClampNeg)) (t_second x5.toNatClampNeg)), .int (t_knew x5.toNatClampNeg)]) (rest := []) rfl rfl ⟨rfl, rfl, Nat.le_of_ble_eq_true rfl, Nat.le_of_ble_eq_true rfl⟩ (Nat.le_of_ble_eq_true rfl) (Nat.zero_le _) (Nat.zero_le _) dX8_digestOnto_42 (fun H locs hW => ?_)
        refine lv_lstore_n (lv' := [(3, .long (F_S_mixed (F_S_mixed (F_S_mixed x3 (t_weaver x5.toNatClampNeg)) (t_second x5.toNatClampNeg)) (t_knew x5.toNatClampNeg))), (5, .int x5), (0, .ref a_t)]) hx hb dX8_digestOnto_45 rfl hl (by decide) rfl (fun ls hl => ?_)
        refine lv_iinc (v := (x5 + (1 : Int32))) (lv' := [(5, .int (x5 + (1 : Int32))), (3, .long (F_S_mixed (F_S_mixed (F_S_mixed x3 (t_weaver x5.toNatClampNeg)) (t_second x5.toNatClampNeg)) (t_knew x5.toNatClampNeg))), (0, .ref a_t)]) hx hb dX8_digestOnto_46 hl (k := 1) rfl rfl (by decide) rfl (fun ls hl => ?_)
        refine lv_goto (tgt := 5) hx hb dX8_digestOnto_49 (by decide) ?_
        exact ih4 (F_S_mixed (F_S_mixed (F_S_mixed x3 (t_weaver x5.toNatClampNeg)) (t_second x5.toNatClampNeg)) (t_knew x5.toNatClampNeg)) (x5 + (1 : Int32)) x3_2 _ _ _ hF hW (lv_sub hl [0, 1, 2] rfl) hk3
  refine L1 N p1 (0 : Int32) x3_2 _ _ _ hX2 hW (lv_sub hl [0, 1, 2] rfl) ?_
  intro H locs ls hW hl
  clear L1
  refine lv_lload_n hx hb dX8_digestOnto_52 rfl (lv_at hl 0 rfl) ?_
  have hq := Option.some.inj hF
  subst hq
  exact hret _ _ _ _ hW dX8_digestOnto_53
abbrev wd_Lexicon_digestWordsOnto (E : m_E) (a_t : Nat) (a_t_lipsOf : Nat) (a_t_others : Nat) (a_t_length : Nat) (a_t_number : Nat) (a_t_weight : Nat) (a_t_leastLike : Nat) (a_t_row : Nat) (t_words : Int32) (t_rowLips : Int32) (t_girlKnows : Int32) (t_length : Nat → Int32) (t_number : Nat → Int32) (t_weight : Nat → Int32) (t_leastLike : Nat → Int32) (t_row : Nat → Int32) : va_W := [(a_t, .inr (3, [.int t_words, .ref a_t_length, .ref a_t_number, .ref a_t_weight, .ref a_t_leastLike, .ref a_t_row, .int t_rowLips, .int t_girlKnows, .ref a_t_lipsOf, .ref a_t_others])), (a_t_length, .inl (E.2.1 0, 10, .inl t_length)), (a_t_number, .inl (E.2.1 0, 10, .inl t_number)), (a_t_weight, .inl (E.2.1 0, 10, .inl t_weight)), (a_t_leastLike, .inl (E.2.1 0, 6, .inl t_leastLike)), (a_t_row, .inl (E.2.1 0, 24, .inl t_row))]
def rm_Lexicon_digestWordsOnto : Room := { frames := 1, cells := 0, slots := 0, locals := 22 }
set_option maxHeartbeats 4000000 in
set_option maxRecDepth 100000 in
theorem c_Lexicon_digestWordsOnto (l : Launch) (E : m_E) (sz N : Nat) (a_t : Nat) (a_t_lipsOf : Nat) (a_t_others : Nat) (a_t_length : Nat) (a_t_number : Nat) (a_t_weight : Nat) (a_t_leastLike : Nat) (a_t_row : Nat) (t_words : Int32) (t_rowLips : Int32) (t_girlKnows : Int32) (t_length : Nat → Int32) (t_number : Nat → Int32) (t_weight : Nat → Int32) (t_leastLike : Nat → Int32) (t_row : Nat → Int32) (p1 : Int64) (ures : Int64) (hF : F_Lexicon_digestWordsOnto N p1 t_words t_rowLips t_length t_number t_weight t_leastLike t_row = some ures) : m_Met l yX3_digestWordsOnto cX3_digestWordsOnto 6 (some .long) rm_Lexicon_digestWordsOnto E (wd_Lexicon_digestWordsOnto E a_t a_t_lipsOf a_t_others a_t_length a_t_number a_t_weight a_t_leastLike a_t_row t_words t_rowLips t_girlKnows t_length t_number t_weight t_leastLike t_row) (wd_Lexicon_digestWordsOnto E a_t a_t_lipsOf a_t_others a_t_length a_t_number a_t_weight a_t_leastLike a_t_row t_words t_rowLips t_girlKnows t_length t_number t_weight t_leastLike t_row) sz [.ref a_t, .long p1] (some (.long ures)) := by
  refine m_ofJ (by decide) (Nat.le_of_ble_eq_true rfl) ?_
  intro p e s m args below meth c A Q ls X hW hA hl hret
  obtain ⟨hx, hb, -, hown, hts, hK, -, hG⟩ := id X
  have hl : lv_has ls 6 [(0, .ref a_t), (1, .long p1)] := hl
  unfold F_Lexicon_digestWordsOnto at hF
  refine lv_lload_n hx hb dX3_digestWordsOnto_0 rfl (lv_at hl 1 rfl) ?_
  refine lv_lstore_n (lv' := [(3, .long p1), (0, .ref a_t), (1, .long p1)]) hx hb dX3_digestWordsOnto_1 rfl hl (by decide) rfl (fun ls hl => ?_)
  refine lv_iconst (v := (0 : Int32)) hx hb dX3_digestWordsOnto_2 (by decide) ?_
  refine lv_istore (lv' := [(5, .int (0 : Int32)), (3, .long p1), (0, .ref a_t), (1, .long p1)]) hx hb dX3_digestWordsOnto_3 hl (by decide) rfl (fun ls hl => ?_)
  obtain ⟨x3_2, hX2, hF⟩ := bO_s1 hF
  have L1 : ∀ (k0 : Nat) (x3 : Int64) (x5 : Int32) (x3_2 : Int64) (H : Heap) (locs : List Loc) (ls : Array Slot), Lexicon_digestWordsOnto_L5 t_leastLike k0 x3 x5 = some x3_2 → m_H E A (wd_Lexicon_digestWordsOnto E a_t a_t_lipsOf a_t_others a_t_length a_t_number a_t_weight a_t_leastLike a_t_row t_words t_rowLips t_girlKnows t_length t_number t_weight t_leastLike t_row) s.heap H locs → lv_has ls 6 [(5, .int x5), (3, .long x3), (0, .ref a_t)] → (∀ (H : Heap) (locs : List Loc) (ls : Array Slot), m_H E A (wd_Lexicon_digestWordsOnto E a_t a_t_lipsOf a_t_others a_t_length a_t_number a_t_weight a_t_leastLike a_t_row t_words t_rowLips t_girlKnows t_length t_number t_weight t_leastLike t_row) s.heap H locs → lv_has ls 6 [(3, .long x3_2), (0, .ref a_t)] → W p l e rm_Lexicon_digestWordsOnto s m args below meth c H locs 0 0 Q (F0 m 30 ls [])) → W p l e rm_Lexicon_digestWordsOnto s m args below meth c H locs 0 0 Q (F0 m 5 ls []) := by
    clear hF
    intro k0
    induction k0 with
    | zero =>
      intro x3 x5 x3_2 H locs ls hF
      cases hF
    | succ k0 ih4 =>
      intro x3 x5 x3_2 H locs ls hF hW hl hk3
      rw [Lexicon_digestWordsOnto_L5] at hF
      refine lv_iload hx hb dX3_digestWordsOnto_5 (lv_at hl 0 rfl) ?_
      refine lv_bipush (v := (6 : Int32)) hx hb dX3_digestWordsOnto_7 (by decide) ?_
      refine lv_icmp_ge (tgt := 30) hx hb dX3_digestWordsOnto_9 (by decide) (fun c5 => ?_) (fun c5 => ?_)
      · have hF := if_y c5 hF
        cases hF
        exact hk3 _ _ _ hW (lv_sub hl [1, 2] rfl)
      · have hF := if_n c5 hF
        refine lv_lload_n hx hb dX3_digestWordsOnto_12 rfl (lv_at hl 1 rfl) ?_
        refine lv_aload_n hx hb dX3_digestWordsOnto_13 rfl (lv_at hl 2 rfl) ?_
        refine m_get X hW fdX3_21 0 rfl rfl dX3_digestWordsOnto_14 ?_
        refine lv_iload hx hb dX3_digestWordsOnto_17 (lv_at hl 0 rfl) ?_
        obtain ⟨g6, hF⟩ := gd_some hF
        refine m_iald X hW 4 (k := x5.toNatClampNeg) rfl g6 rfl dX3_digestWordsOnto_19 ?_
        refine m_callN X hW hA hl.1 lkX3_103 (c_S_mixed l E _ N   x3 (t_leastLike x5.toNatClampNeg) (F_S_mixed x3 (t_leastLike x5.toNatClampNeg)) rfl) [] (by decide) rfl rfl (ws' := (wd_Lexicon_digestWordsOnto E a_t a_t_lipsOf a_t_others a_t_length a_t_number a_t_weight a_t_leastLike a_t_row t_words t_rowLips t_girlKnows t_length t_number t_weight t_leastLike t_row)) rfl (As := [.long x3, .int (t_leastLike x5.toNatClampNeg)]) (rest := []) rfl rfl ⟨rfl, rfl, Nat.le_of_ble_eq_true rfl, Nat.le_of_ble_eq_true rfl⟩ (Nat.le_of_ble_eq_true rfl) (Nat.zero_le _) (Nat.zero_le _) dX3_digestWordsOnto_20 (fun H locs hW => ?_)
        refine lv_lstore_n (lv' := [(3, .long (F_S_mixed x3 (t_leastLike x5.toNatClampNeg))), (5, .int x5), (0, .ref a_t)]) hx hb dX3_digestWordsOnto_23 rfl hl (by decide) rfl (fun ls hl => ?_)
        refine lv_iinc (v := (x5 + (1 : Int32))) (lv' := [(5, .int (x5 + (1 : Int32))), (3, .long (F_S_mixed x3 (t_leastLike x5.toNatClampNeg))), (0, .ref a_t)]) hx hb dX3_digestWordsOnto_24 hl (k := 1) rfl rfl (by decide) rfl (fun ls hl => ?_)
        refine lv_goto (tgt := 5) hx hb dX3_digestWordsOnto_27 (by decide) ?_
        exact ih4 (F_S_mixed x3 (t_leastLike x5.toNatClampNeg)) (x5 + (1 : Int32)) x3_2 _ _ _ hF hW (lv_sub hl [0, 1, 2] rfl) hk3
  refine L1 N p1 (0 : Int32) x3_2 _ _ _ hX2 hW (lv_sub hl [0, 1, 2] rfl) ?_
  intro H locs ls hW hl
  clear L1
  refine lv_iconst (v := (0 : Int32)) hx hb dX3_digestWordsOnto_30 (by decide) ?_
  refine lv_istore (lv' := [(5, .int (0 : Int32)), (3, .long x3_2), (0, .ref a_t)]) hx hb dX3_digestWordsOnto_31 hl (by decide) rfl (fun ls hl => ?_)
  obtain ⟨x3_4, hX8, hF⟩ := bO_s1 hF
  have L7 : ∀ (k0 : Nat) (x3_3 : Int64) (x5_2 : Int32) (x3_4 : Int64) (H : Heap) (locs : List Loc) (ls : Array Slot), Lexicon_digestWordsOnto_L33 t_words t_length t_number t_weight k0 x3_3 x5_2 = some x3_4 → m_H E A (wd_Lexicon_digestWordsOnto E a_t a_t_lipsOf a_t_others a_t_length a_t_number a_t_weight a_t_leastLike a_t_row t_words t_rowLips t_girlKnows t_length t_number t_weight t_leastLike t_row) s.heap H locs → lv_has ls 6 [(5, .int x5_2), (3, .long x3_3), (0, .ref a_t)] → (∀ (H : Heap) (locs : List Loc) (ls : Array Slot), m_H E A (wd_Lexicon_digestWordsOnto E a_t a_t_lipsOf a_t_others a_t_length a_t_number a_t_weight a_t_leastLike a_t_row t_words t_rowLips t_girlKnows t_length t_number t_weight t_leastLike t_row) s.heap H locs → lv_has ls 6 [(3, .long x3_4), (0, .ref a_t)] → W p l e rm_Lexicon_digestWordsOnto s m args below meth c H locs 0 0 Q (F0 m 80 ls [])) → W p l e rm_Lexicon_digestWordsOnto s m args below meth c H locs 0 0 Q (F0 m 33 ls []) := by
    clear hF
    intro k0
    induction k0 with
    | zero =>
      intro x3_3 x5_2 x3_4 H locs ls hF
      cases hF
    | succ k0 ih10 =>
      intro x3_3 x5_2 x3_4 H locs ls hF hW hl hk9
      rw [Lexicon_digestWordsOnto_L33] at hF
      refine lv_iload hx hb dX3_digestWordsOnto_33 (lv_at hl 0 rfl) ?_
      refine lv_aload_n hx hb dX3_digestWordsOnto_35 rfl (lv_at hl 2 rfl) ?_
      refine m_get X hW fdX3_36 0 rfl rfl dX3_digestWordsOnto_36 ?_
      refine lv_icmp_ge (tgt := 80) hx hb dX3_digestWordsOnto_39 (by decide) (fun c11 => ?_) (fun c11 => ?_)
      · have hF := if_y c11 hF
        cases hF
        exact hk9 _ _ _ hW (lv_sub hl [1, 2] rfl)
      · have hF := if_n c11 hF
        refine lv_lload_n hx hb dX3_digestWordsOnto_42 rfl (lv_at hl 1 rfl) ?_
        refine lv_aload_n hx hb dX3_digestWordsOnto_43 rfl (lv_at hl 2 rfl) ?_
        refine m_get X hW fdX3_11 0 rfl rfl dX3_digestWordsOnto_44 ?_
        refine lv_iload hx hb dX3_digestWordsOnto_47 (lv_at hl 0 rfl) ?_
        obtain ⟨g12, hF⟩ := gd_some hF
        refine m_iald X hW 1 (k := x5_2.toNatClampNeg) rfl g12 rfl dX3_digestWordsOnto_49 ?_
        refine m_callN X hW hA hl.1 lkX3_103 (c_S_mixed l E _ N   x3_3 (t_length x5_2.toNatClampNeg) (F_S_mixed x3_3 (t_length x5_2.toNatClampNeg)) rfl) [] (by decide) rfl rfl (ws' := (wd_Lexicon_digestWordsOnto E a_t a_t_lipsOf a_t_others a_t_length a_t_number a_t_weight a_t_leastLike a_t_row t_words t_rowLips t_girlKnows t_length t_number t_weight t_leastLike t_row)) rfl (As := [.long x3_3, .int (t_length x5_2.toNatClampNeg)]) (rest := []) rfl rfl ⟨rfl, rfl, Nat.le_of_ble_eq_true rfl, Nat.le_of_ble_eq_true rfl⟩ (Nat.le_of_ble_eq_true rfl) (Nat.zero_le _) (Nat.zero_le _) dX3_digestWordsOnto_50 (fun H locs hW => ?_)
        refine lv_aload_n hx hb dX3_digestWordsOnto_53 rfl (lv_at hl 2 rfl) ?_
        refine m_get X hW fdX3_15 0 rfl rfl dX3_digestWordsOnto_54 ?_
        refine lv_iload hx hb dX3_digestWordsOnto_57 (lv_at hl 0 rfl) ?_
        refine m_iald X hW 2 (k := x5_2.toNatClampNeg) rfl g12 rfl dX3_digestWordsOnto_59 ?_
        refine m_callN X hW hA hl.1 lkX3_103 (c_S_mixed l E _ N   (F_S_mixed x3_3 (t_length x5_2.toNatClampNeg)) (t_number x5_2.toNatClampNeg) (F_S_mixed (F_S_mixed x3_3 (t_length x5_2.toNatClampNeg)) (t_number x5_2.toNatClampNeg)) rfl) [] (by decide) rfl rfl (ws' := (wd_Lexicon_digestWordsOnto E a_t a_t_lipsOf a_t_others a_t_length a_t_number a_t_weight a_t_leastLike a_t_row t_words t_rowLips t_girlKnows t_length t_number t_weight t_leastLike t_row)) rfl (As := [.long (F_S_mixed x3_3 (t_length x5_2.toNatClampNeg)), .int (t_number x5_2.toNatClampNeg)]) (rest := []) rfl rfl ⟨rfl, rfl, Nat.le_of_ble_eq_true rfl, Nat.le_of_ble_eq_true rfl⟩ (Nat.le_of_ble_eq_true rfl) (Nat.zero_le _) (Nat.zero_le _) dX3_digestWordsOnto_60 (fun H locs hW => ?_)
        refine lv_aload_n hx hb dX3_digestWordsOnto_63 rfl (lv_at hl 2 rfl) ?_
        refine m_get X hW fdX3_18 0 rfl rfl dX3_digestWordsOnto_64 ?_
        refine lv_iload hx hb dX3_digestWordsOnto_67 (lv_at hl 0 rfl) ?_
        refine m_iald X hW 3 (k := x5_2.toNatClampNeg) rfl g12 rfl dX3_digestWordsOnto_69 ?_
        refine m_callN X hW hA hl.1 lkX3_103 (c_S_mixed l E _ N   (F_S_mixed (F_S_mixed x3_3 (t_length x5_2.toNatClampNeg)) (t_number x5_2.toNatClampNeg)) (t_weight x5_2.toNatClampNeg) (F_S_mixed (F_S_mixed (F_S_mixed x3_3 (t_length x5_2.toNatClampNeg)) (t_number x5_2.toNatClampNeg)) (t_weight x5_2.toNatClampNeg)) rfl) [] (by decide) rfl rfl (ws' := (wd_Lexicon_digestWordsOnto E a_t a_t_lipsOf a_t_others a_t_length a_t_number a_t_weight a_t_leastLike a_t_row t_words t_rowLips t_girlKnows t_length t_number t_weight t_leastLike t_row)) rfl (As := [.long (F_S_mixed (F_S_mixed x3_3 (t_length x5_2.toNatClampNeg)) (t_number x5_2.toNatClampNeg)), .int (t_weight x5_2.toNatClampNeg)]) (rest := []) rfl rfl ⟨rfl, rfl, Nat.le_of_ble_eq_true rfl, Nat.le_of_ble_eq_true rfl⟩ (Nat.le_of_ble_eq_true rfl) (Nat.zero_le _) (Nat.zero_le _) dX3_digestWordsOnto_70 (fun H locs hW => ?_)
        refine lv_lstore_n (lv' := [(3, .long (F_S_mixed (F_S_mixed (F_S_mixed x3_3 (t_length x5_2.toNatClampNeg)) (t_number x5_2.toNatClampNeg)) (t_weight x5_2.toNatClampNeg))), (5, .int x5_2), (0, .ref a_t)]) hx hb dX3_digestWordsOnto_73 rfl hl (by decide) rfl (fun ls hl => ?_)
        refine lv_iinc (v := (x5_2 + (1 : Int32))) (lv' := [(5, .int (x5_2 + (1 : Int32))), (3, .long (F_S_mixed (F_S_mixed (F_S_mixed x3_3 (t_length x5_2.toNatClampNeg)) (t_number x5_2.toNatClampNeg)) (t_weight x5_2.toNatClampNeg))), (0, .ref a_t)]) hx hb dX3_digestWordsOnto_74 hl (k := 1) rfl rfl (by decide) rfl (fun ls hl => ?_)
        refine lv_goto (tgt := 33) hx hb dX3_digestWordsOnto_77 (by decide) ?_
        exact ih10 (F_S_mixed (F_S_mixed (F_S_mixed x3_3 (t_length x5_2.toNatClampNeg)) (t_number x5_2.toNatClampNeg)) (t_weight x5_2.toNatClampNeg)) (x5_2 + (1 : Int32)) x3_4 _ _ _ hF hW (lv_sub hl [0, 1, 2] rfl) hk9
  refine L7 N x3_2 (0 : Int32) x3_4 _ _ _ hX8 hW (lv_sub hl [0, 1, 2] rfl) ?_
  intro H locs ls hW hl
  clear L7
  refine lv_iconst (v := (0 : Int32)) hx hb dX3_digestWordsOnto_80 (by decide) ?_
  refine lv_istore (lv' := [(5, .int (0 : Int32)), (3, .long x3_4), (0, .ref a_t)]) hx hb dX3_digestWordsOnto_81 hl (by decide) rfl (fun ls hl => ?_)
  obtain ⟨x3_6, hX14, hF⟩ := bO_s1 hF
  have L13 : ∀ (k0 : Nat) (x3_5 : Int64) (x5_3 : Int32) (x3_6 : Int64) (H : Heap) (locs : List Loc) (ls : Array Slot), Lexicon_digestWordsOnto_L83 t_rowLips t_row k0 x3_5 x5_3 = some x3_6 → m_H E A (wd_Lexicon_digestWordsOnto E a_t a_t_lipsOf a_t_others a_t_length a_t_number a_t_weight a_t_leastLike a_t_row t_words t_rowLips t_girlKnows t_length t_number t_weight t_leastLike t_row) s.heap H locs → lv_has ls 6 [(5, .int x5_3), (3, .long x3_5), (0, .ref a_t)] → (∀ (H : Heap) (locs : List Loc) (ls : Array Slot), m_H E A (wd_Lexicon_digestWordsOnto E a_t a_t_lipsOf a_t_others a_t_length a_t_number a_t_weight a_t_leastLike a_t_row t_words t_rowLips t_girlKnows t_length t_number t_weight t_leastLike t_row) s.heap H locs → lv_has ls 6 [(3, .long x3_6)] → W p l e rm_Lexicon_digestWordsOnto s m args below meth c H locs 0 0 Q (F0 m 110 ls [])) → W p l e rm_Lexicon_digestWordsOnto s m args below meth c H locs 0 0 Q (F0 m 83 ls []) := by
    clear hF
    intro k0
    induction k0 with
    | zero =>
      intro x3_5 x5_3 x3_6 H locs ls hF
      cases hF
    | succ k0 ih16 =>
      intro x3_5 x5_3 x3_6 H locs ls hF hW hl hk15
      rw [Lexicon_digestWordsOnto_L83] at hF
      refine lv_iload hx hb dX3_digestWordsOnto_83 (lv_at hl 0 rfl) ?_
      refine lv_aload_n hx hb dX3_digestWordsOnto_85 rfl (lv_at hl 2 rfl) ?_
      refine m_get X hW fdX3_40 0 rfl rfl dX3_digestWordsOnto_86 ?_
      refine lv_icmp_ge (tgt := 110) hx hb dX3_digestWordsOnto_89 (by decide) (fun c17 => ?_) (fun c17 => ?_)
      · have hF := if_y c17 hF
        cases hF
        exact hk15 _ _ _ hW (lv_sub hl [1] rfl)
      · have hF := if_n c17 hF
        refine lv_lload_n hx hb dX3_digestWordsOnto_92 rfl (lv_at hl 1 rfl) ?_
        refine lv_aload_n hx hb dX3_digestWordsOnto_93 rfl (lv_at hl 2 rfl) ?_
        refine m_get X hW fdX3_24 0 rfl rfl dX3_digestWordsOnto_94 ?_
        refine lv_iload hx hb dX3_digestWordsOnto_97 (lv_at hl 0 rfl) ?_
        obtain ⟨g18, hF⟩ := gd_some hF
        refine m_iald X hW 5 (k := x5_3.toNatClampNeg) rfl g18 rfl dX3_digestWordsOnto_99 ?_
        refine m_callN X hW hA hl.1 lkX3_103 (c_S_mixed l E _ N   x3_5 (t_row x5_3.toNatClampNeg) (F_S_mixed x3_5 (t_row x5_3.toNatClampNeg)) rfl) [] (by decide) rfl rfl (ws' := (wd_Lexicon_digestWordsOnto E a_t a_t_lipsOf a_t_others a_t_length a_t_number a_t_weight a_t_leastLike a_t_row t_words t_rowLips t_girlKnows t_length t_number t_weight t_leastLike t_row)) rfl (As := [.long x3_5, .int (t_row x5_3.toNatClampNeg)]) (rest := []) rfl rfl ⟨rfl, rfl, Nat.le_of_ble_eq_true rfl, Nat.le_of_ble_eq_true rfl⟩ (Nat.le_of_ble_eq_true rfl) (Nat.zero_le _) (Nat.zero_le _) dX3_digestWordsOnto_100 (fun H locs hW => ?_)
        refine lv_lstore_n (lv' := [(3, .long (F_S_mixed x3_5 (t_row x5_3.toNatClampNeg))), (5, .int x5_3), (0, .ref a_t)]) hx hb dX3_digestWordsOnto_103 rfl hl (by decide) rfl (fun ls hl => ?_)
        refine lv_iinc (v := (x5_3 + (1 : Int32))) (lv' := [(5, .int (x5_3 + (1 : Int32))), (3, .long (F_S_mixed x3_5 (t_row x5_3.toNatClampNeg))), (0, .ref a_t)]) hx hb dX3_digestWordsOnto_104 hl (k := 1) rfl rfl (by decide) rfl (fun ls hl => ?_)
        refine lv_goto (tgt := 83) hx hb dX3_digestWordsOnto_107 (by decide) ?_
        exact ih16 (F_S_mixed x3_5 (t_row x5_3.toNatClampNeg)) (x5_3 + (1 : Int32)) x3_6 _ _ _ hF hW (lv_sub hl [0, 1, 2] rfl) hk15
  refine L13 N x3_4 (0 : Int32) x3_6 _ _ _ hX14 hW (lv_sub hl [0, 1, 2] rfl) ?_
  intro H locs ls hW hl
  clear L13
  refine lv_lload_n hx hb dX3_digestWordsOnto_110 rfl (lv_at hl 0 rfl) ?_
  have hq := Option.some.inj hF
  subst hq
  exact hret _ _ _ _ hW dX3_digestWordsOnto_111
abbrev wd_Natural_digestOnto (E : m_E) (a_t : Nat) (a_t_limb : Nat) (t_limbs : Int32) (t_limb : Nat → Int32) : va_W := [(a_t, .inr (4, [.ref a_t_limb, .int t_limbs])), (a_t_limb, .inl (E.2.1 0, 40, .inl t_limb))]
def rm_Natural_digestOnto : Room := { frames := 1, cells := 0, slots := 0, locals := 22 }
set_option maxHeartbeats 4000000 in
set_option maxRecDepth 100000 in
theorem c_Natural_digestOnto (l : Launch) (E : m_E) (sz N : Nat) (a_t : Nat) (a_t_limb : Nat) (t_limbs : Int32) (t_limb : Nat → Int32) (p1 : Int64) (ures : Int64) (hF : F_Natural_digestOnto N p1 t_limbs t_limb = some ures) : m_Met l yX4_digestOnto cX4_digestOnto 6 (some .long) rm_Natural_digestOnto E (wd_Natural_digestOnto E a_t a_t_limb t_limbs t_limb) (wd_Natural_digestOnto E a_t a_t_limb t_limbs t_limb) sz [.ref a_t, .long p1] (some (.long ures)) := by
  refine m_ofJ (by decide) (Nat.le_of_ble_eq_true rfl) ?_
  intro p e s m args below meth c A Q ls X hW hA hl hret
  obtain ⟨hx, hb, -, hown, hts, hK, -, hG⟩ := id X
  have hl : lv_has ls 6 [(0, .ref a_t), (1, .long p1)] := hl
  unfold F_Natural_digestOnto at hF
  refine lv_lload_n hx hb dX4_digestOnto_0 rfl (lv_at hl 1 rfl) ?_
  refine lv_lstore_n (lv' := [(3, .long p1), (0, .ref a_t), (1, .long p1)]) hx hb dX4_digestOnto_1 rfl hl (by decide) rfl (fun ls hl => ?_)
  refine lv_iconst (v := (0 : Int32)) hx hb dX4_digestOnto_2 (by decide) ?_
  refine lv_istore (lv' := [(5, .int (0 : Int32)), (3, .long p1), (0, .ref a_t), (1, .long p1)]) hx hb dX4_digestOnto_3 hl (by decide) rfl (fun ls hl => ?_)
  obtain ⟨x3_2, hX2, hF⟩ := bO_s1 hF
  have L1 : ∀ (k0 : Nat) (x3 : Int64) (x5 : Int32) (x3_2 : Int64) (H : Heap) (locs : List Loc) (ls : Array Slot), Natural_digestOnto_L5 t_limbs t_limb k0 x3 x5 = some x3_2 → m_H E A (wd_Natural_digestOnto E a_t a_t_limb t_limbs t_limb) s.heap H locs → lv_has ls 6 [(5, .int x5), (3, .long x3), (0, .ref a_t)] → (∀ (H : Heap) (locs : List Loc) (ls : Array Slot), m_H E A (wd_Natural_digestOnto E a_t a_t_limb t_limbs t_limb) s.heap H locs → lv_has ls 6 [(3, .long x3_2)] → W p l e rm_Natural_digestOnto s m args below meth c H locs 0 0 Q (F0 m 32 ls [])) → W p l e rm_Natural_digestOnto s m args below meth c H locs 0 0 Q (F0 m 5 ls []) := by
    clear hF
    intro k0
    induction k0 with
    | zero =>
      intro x3 x5 x3_2 H locs ls hF
      cases hF
    | succ k0 ih4 =>
      intro x3 x5 x3_2 H locs ls hF hW hl hk3
      rw [Natural_digestOnto_L5] at hF
      refine lv_iload hx hb dX4_digestOnto_5 (lv_at hl 0 rfl) ?_
      refine lv_aload_n hx hb dX4_digestOnto_7 rfl (lv_at hl 2 rfl) ?_
      refine m_get X hW fdX4_15 0 rfl rfl dX4_digestOnto_8 ?_
      refine lv_icmp_ge (tgt := 32) hx hb dX4_digestOnto_11 (by decide) (fun c5 => ?_) (fun c5 => ?_)
      · have hF := if_y c5 hF
        cases hF
        exact hk3 _ _ _ hW (lv_sub hl [1] rfl)
      · have hF := if_n c5 hF
        refine lv_lload_n hx hb dX4_digestOnto_14 rfl (lv_at hl 1 rfl) ?_
        refine lv_aload_n hx hb dX4_digestOnto_15 rfl (lv_at hl 2 rfl) ?_
        refine m_get X hW fdX4_11 0 rfl rfl dX4_digestOnto_16 ?_
        refine lv_iload hx hb dX4_digestOnto_19 (lv_at hl 0 rfl) ?_
        obtain ⟨g6, hF⟩ := gd_some hF
        refine m_iald X hW 1 (k := x5.toNatClampNeg) rfl g6 rfl dX4_digestOnto_21 ?_
        refine m_callN X hW hA hl.1 lkX4_40 (c_S_mixed l E _ N   x3 (t_limb x5.toNatClampNeg) (F_S_mixed x3 (t_limb x5.toNatClampNeg)) rfl) [] (by decide) rfl rfl (ws' := (wd_Natural_digestOnto E a_t a_t_limb t_limbs t_limb)) rfl (As := [.long x3, .int (t_limb x5.toNatClampNeg)]) (rest := []) rfl rfl ⟨rfl, rfl, Nat.le_of_ble_eq_true rfl, Nat.le_of_ble_eq_true rfl⟩ (Nat.le_of_ble_eq_true rfl) (Nat.zero_le _) (Nat.zero_le _) dX4_digestOnto_22 (fun H locs hW => ?_)
        refine lv_lstore_n (lv' := [(3, .long (F_S_mixed x3 (t_limb x5.toNatClampNeg))), (5, .int x5), (0, .ref a_t)]) hx hb dX4_digestOnto_25 rfl hl (by decide) rfl (fun ls hl => ?_)
        refine lv_iinc (v := (x5 + (1 : Int32))) (lv' := [(5, .int (x5 + (1 : Int32))), (3, .long (F_S_mixed x3 (t_limb x5.toNatClampNeg))), (0, .ref a_t)]) hx hb dX4_digestOnto_26 hl (k := 1) rfl rfl (by decide) rfl (fun ls hl => ?_)
        refine lv_goto (tgt := 5) hx hb dX4_digestOnto_29 (by decide) ?_
        exact ih4 (F_S_mixed x3 (t_limb x5.toNatClampNeg)) (x5 + (1 : Int32)) x3_2 _ _ _ hF hW (lv_sub hl [0, 1, 2] rfl) hk3
  refine L1 N p1 (0 : Int32) x3_2 _ _ _ hX2 hW (lv_sub hl [0, 1, 2] rfl) ?_
  intro H locs ls hW hl
  clear L1
  refine lv_lload_n hx hb dX4_digestOnto_32 rfl (lv_at hl 0 rfl) ?_
  have hq := Option.some.inj hF
  subst hq
  exact hret _ _ _ _ hW dX4_digestOnto_33
abbrev wd_Fraction_digestOnto (E : m_E) (a_t : Nat) (a_t_above : Nat) (a_t_above_limb : Nat) (a_t_below : Nat) (a_t_below_limb : Nat) (t_above_limbs : Int32) (t_above_limb : Nat → Int32) (t_below_limbs : Int32) (t_below_limb : Nat → Int32) : va_W := [(a_t, .inr (2, [.ref a_t_above, .ref a_t_below])), (a_t_above, .inr (4, [.ref a_t_above_limb, .int t_above_limbs])), (a_t_above_limb, .inl (E.2.1 0, 40, .inl t_above_limb)), (a_t_below, .inr (4, [.ref a_t_below_limb, .int t_below_limbs])), (a_t_below_limb, .inl (E.2.1 0, 40, .inl t_below_limb))]
def rm_Fraction_digestOnto : Room := { frames := 2, cells := 0, slots := 0, locals := 47 }
set_option maxHeartbeats 4000000 in
set_option maxRecDepth 100000 in
theorem c_Fraction_digestOnto (l : Launch) (E : m_E) (sz N : Nat) (a_t : Nat) (a_t_above : Nat) (a_t_above_limb : Nat) (a_t_below : Nat) (a_t_below_limb : Nat) (t_above_limbs : Int32) (t_above_limb : Nat → Int32) (t_below_limbs : Int32) (t_below_limb : Nat → Int32) (p1 : Int64) (ures : Int64) (hF : F_Fraction_digestOnto N p1 t_above_limbs t_above_limb t_below_limbs t_below_limb = some ures) : m_Met l yX2_digestOnto cX2_digestOnto 5 (some .long) rm_Fraction_digestOnto E (wd_Fraction_digestOnto E a_t a_t_above a_t_above_limb a_t_below a_t_below_limb t_above_limbs t_above_limb t_below_limbs t_below_limb) (wd_Fraction_digestOnto E a_t a_t_above a_t_above_limb a_t_below a_t_below_limb t_above_limbs t_above_limb t_below_limbs t_below_limb) sz [.ref a_t, .long p1] (some (.long ures)) := by
  refine m_ofJ (by decide) (Nat.le_of_ble_eq_true rfl) ?_
  intro p e s m args below meth c A Q ls X hW hA hl hret
  obtain ⟨hx, hb, -, hown, hts, hK, -, hG⟩ := id X
  have hl : lv_has ls 5 [(0, .ref a_t), (1, .long p1)] := hl
  unfold F_Fraction_digestOnto at hF
  refine lv_lload_n hx hb dX2_digestOnto_0 rfl (lv_at hl 1 rfl) ?_
  refine lv_aload_n hx hb dX2_digestOnto_1 rfl (lv_at hl 0 rfl) ?_
  refine m_callV X hW hA hl.1 lkX2_45 (c_Fraction_signNumber l E _ N a_t a_t_below a_t_above a_t_above_limb t_above_limbs  (F_Fraction_signNumber t_above_limbs) rfl) [0, 1] (by decide) rfl rfl (ws' := (wd_Fraction_digestOnto E a_t a_t_above a_t_above_limb a_t_below a_t_below_limb t_above_limbs t_above_limb t_below_limbs t_below_limb)) rfl 0 rfl rfl rfl (As := []) (rest := [.long p1]) rfl rfl ⟨rfl, rfl, Nat.le_of_ble_eq_true rfl, Nat.le_of_ble_eq_true rfl⟩ (Nat.le_of_ble_eq_true rfl) (Nat.zero_le _) (Nat.zero_le _) dX2_digestOnto_2 (fun H locs hW => ?_)
  refine m_callN X hW hA hl.1 lkX2_49 (c_S_mixed l E _ N   p1 (F_Fraction_signNumber t_above_limbs) (F_S_mixed p1 (F_Fraction_signNumber t_above_limbs)) rfl) [] (by decide) rfl rfl (ws' := (wd_Fraction_digestOnto E a_t a_t_above a_t_above_limb a_t_below a_t_below_limb t_above_limbs t_above_limb t_below_limbs t_below_limb)) rfl (As := [.long p1, .int (F_Fraction_signNumber t_above_limbs)]) (rest := []) rfl rfl ⟨rfl, rfl, Nat.le_of_ble_eq_true rfl, Nat.le_of_ble_eq_true rfl⟩ (Nat.le_of_ble_eq_true rfl) (Nat.zero_le _) (Nat.zero_le _) dX2_digestOnto_5 (fun H locs hW => ?_)
  refine lv_aload_n hx hb dX2_digestOnto_8 rfl (lv_at hl 0 rfl) ?_
  refine m_get X hW fdX2_10 0 rfl rfl dX2_digestOnto_9 ?_
  refine m_get X hW fdX2_23 1 rfl rfl dX2_digestOnto_12 ?_
  refine m_callN X hW hA hl.1 lkX2_49 (c_S_mixed l E _ N   (F_S_mixed p1 (F_Fraction_signNumber t_above_limbs)) t_above_limbs (F_S_mixed (F_S_mixed p1 (F_Fraction_signNumber t_above_limbs)) t_above_limbs) rfl) [] (by decide) rfl rfl (ws' := (wd_Fraction_digestOnto E a_t a_t_above a_t_above_limb a_t_below a_t_below_limb t_above_limbs t_above_limb t_below_limbs t_below_limb)) rfl (As := [.long (F_S_mixed p1 (F_Fraction_signNumber t_above_limbs)), .int t_above_limbs]) (rest := []) rfl rfl ⟨rfl, rfl, Nat.le_of_ble_eq_true rfl, Nat.le_of_ble_eq_true rfl⟩ (Nat.le_of_ble_eq_true rfl) (Nat.zero_le _) (Nat.zero_le _) dX2_digestOnto_15 (fun H locs hW => ?_)
  refine lv_aload_n hx hb dX2_digestOnto_18 rfl (lv_at hl 0 rfl) ?_
  refine m_get X hW fdX2_16 0 rfl rfl dX2_digestOnto_19 ?_
  refine m_get X hW fdX2_23 3 rfl rfl dX2_digestOnto_22 ?_
  refine m_callN X hW hA hl.1 lkX2_49 (c_S_mixed l E _ N   (F_S_mixed (F_S_mixed p1 (F_Fraction_signNumber t_above_limbs)) t_above_limbs) t_below_limbs (F_S_mixed (F_S_mixed (F_S_mixed p1 (F_Fraction_signNumber t_above_limbs)) t_above_limbs) t_below_limbs) rfl) [] (by decide) rfl rfl (ws' := (wd_Fraction_digestOnto E a_t a_t_above a_t_above_limb a_t_below a_t_below_limb t_above_limbs t_above_limb t_below_limbs t_below_limb)) rfl (As := [.long (F_S_mixed (F_S_mixed p1 (F_Fraction_signNumber t_above_limbs)) t_above_limbs), .int t_below_limbs]) (rest := []) rfl rfl ⟨rfl, rfl, Nat.le_of_ble_eq_true rfl, Nat.le_of_ble_eq_true rfl⟩ (Nat.le_of_ble_eq_true rfl) (Nat.zero_le _) (Nat.zero_le _) dX2_digestOnto_25 (fun H locs hW => ?_)
  refine lv_lstore_n (lv' := [(3, .long (F_S_mixed (F_S_mixed (F_S_mixed p1 (F_Fraction_signNumber t_above_limbs)) t_above_limbs) t_below_limbs)), (0, .ref a_t), (1, .long p1)]) hx hb dX2_digestOnto_28 rfl hl (by decide) rfl (fun ls hl => ?_)
  refine lv_aload_n hx hb dX2_digestOnto_29 rfl (lv_at hl 1 rfl) ?_
  refine m_get X hW fdX2_16 0 rfl rfl dX2_digestOnto_30 ?_
  refine lv_aload_n hx hb dX2_digestOnto_33 rfl (lv_at hl 1 rfl) ?_
  refine m_get X hW fdX2_10 0 rfl rfl dX2_digestOnto_34 ?_
  refine lv_lload_n hx hb dX2_digestOnto_37 rfl (lv_at hl 0 rfl) ?_
  obtain ⟨r38, hC1, hF⟩ := bO_s1 hF
  refine m_callV X hW hA hl.1 lkX2_55 (c_Natural_digestOnto l E _ N a_t_above a_t_above_limb t_above_limbs t_above_limb (F_S_mixed (F_S_mixed (F_S_mixed p1 (F_Fraction_signNumber t_above_limbs)) t_above_limbs) t_below_limbs) r38 hC1) [1, 2] (by decide) rfl rfl (ws' := (wd_Fraction_digestOnto E a_t a_t_above a_t_above_limb a_t_below a_t_below_limb t_above_limbs t_above_limb t_below_limbs t_below_limb)) rfl 1 rfl rfl rfl (As := [.long (F_S_mixed (F_S_mixed (F_S_mixed p1 (F_Fraction_signNumber t_above_limbs)) t_above_limbs) t_below_limbs)]) (rest := [.ref a_t_below]) rfl rfl ⟨rfl, rfl, Nat.le_of_ble_eq_true rfl, Nat.le_of_ble_eq_true rfl⟩ (Nat.le_of_ble_eq_true rfl) (Nat.zero_le _) (Nat.zero_le _) dX2_digestOnto_38 (fun H locs hW => ?_)
  clear hC1
  obtain ⟨r41, hC2, hF⟩ := bO_s1 hF
  refine m_callV X hW hA hl.1 lkX2_55 (c_Natural_digestOnto l E _ N a_t_below a_t_below_limb t_below_limbs t_below_limb r38 r41 hC2) [3, 4] (by decide) rfl rfl (ws' := (wd_Fraction_digestOnto E a_t a_t_above a_t_above_limb a_t_below a_t_below_limb t_above_limbs t_above_limb t_below_limbs t_below_limb)) rfl 3 rfl rfl rfl (As := [.long r38]) (rest := []) rfl rfl ⟨rfl, rfl, Nat.le_of_ble_eq_true rfl, Nat.le_of_ble_eq_true rfl⟩ (Nat.le_of_ble_eq_true rfl) (Nat.zero_le _) (Nat.zero_le _) dX2_digestOnto_41 (fun H locs hW => ?_)
  clear hC2
  have hq := Option.some.inj hF
  subst hq
  exact hret _ _ _ _ hW dX2_digestOnto_44
abbrev wd_S_digest (E : m_E) (a_t : Nat) (a_t_draft : Nat) (a_t_firstImage : Nat) (a_t_secondImage : Nat) (a_t_news : Nat) (a_t_otherNews : Nat) (a_t_readings : Nat) (a_t_chances : Nat) (a_t_turning : Nat) (a_t_now : Nat) (a_t_now_floor : Nat) (a_t_now_floor_place : Nat) (a_t_now_floor_way : Nat) (a_t_now_floor_tell : Nat) (a_t_now_floor_look : Nat) (a_t_now_floor_farSquare : Nat) (a_t_now_sightings : Nat) (a_t_now_sightings_weaver : Nat) (a_t_now_sightings_second : Nat) (a_t_now_sightings_knew : Nat) (a_t_now_lexicon : Nat) (a_t_now_lexicon_lipsOf : Nat) (a_t_now_lexicon_others : Nat) (a_t_now_lexicon_length : Nat) (a_t_now_lexicon_number : Nat) (a_t_now_lexicon_weight : Nat) (a_t_now_lexicon_leastLike : Nat) (a_t_now_lexicon_row : Nat) (a_t_now_level : Nat) (a_t_now_loss : Nat) (a_t_text : Nat) (a_t_text_row : Nat) (a_t_text_itemKind : Nat) (a_t_text_numbersOf : Nat) (a_t_text_number : Nat) (a_t_fraction : Nat) (a_t_fraction_above : Nat) (a_t_fraction_above_limb : Nat) (a_t_fraction_below : Nat) (a_t_fraction_below_limb : Nat) (t_now_clearness : Int32) (t_now_isKept : Int32) (t_now_floor_pillars : Int64) (t_now_floor_weavers : Int32) (t_now_floor_place : Nat → Int32) (t_now_floor_way : Nat → Int32) (t_now_floor_tell : Nat → Int32) (t_now_floor_look : Nat → Int32) (t_now_floor_farSquare : Nat → Int32) (t_now_sightings_many : Int32) (t_now_sightings_weaver : Nat → Int32) (t_now_sightings_second : Nat → Int32) (t_now_sightings_knew : Nat → Int32) (t_now_lexicon_words : Int32) (t_now_lexicon_rowLips : Int32) (t_now_lexicon_girlKnows : Int32) (t_now_lexicon_length : Nat → Int32) (t_now_lexicon_number : Nat → Int32) (t_now_lexicon_weight : Nat → Int32) (t_now_lexicon_leastLike : Nat → Int32) (t_now_lexicon_row : Nat → Int32) (t_now_level : Nat → Int32) (t_now_loss : Nat → Int32) (t_text_bytes : Int32) (t_text_items : Int32) (t_text_at : Int32) (t_text_token : Int32) (t_text_tokenAt : Int32) (t_text_tokenNumber : Int32) (t_fraction_above_limbs : Int32) (t_fraction_above_limb : Nat → Int32) (t_fraction_below_limbs : Int32) (t_fraction_below_limb : Nat → Int32) : va_W := [(a_t, .inr (11, [.ref a_t_now, .ref a_t_draft, .ref a_t_firstImage, .ref a_t_secondImage, .ref a_t_news, .ref a_t_otherNews, .ref a_t_readings, .ref a_t_chances, .ref a_t_turning, .ref a_t_text, .ref a_t_fraction])), (a_t_now, .inr (7, [.ref a_t_now_floor, .ref a_t_now_sightings, .ref a_t_now_lexicon, .ref a_t_now_level, .ref a_t_now_loss, .int t_now_clearness, .int t_now_isKept])), (a_t_now_floor, .inr (1, [.long t_now_floor_pillars, .int t_now_floor_weavers, .ref a_t_now_floor_place, .ref a_t_now_floor_way, .ref a_t_now_floor_tell, .ref a_t_now_floor_look, .ref a_t_now_floor_farSquare])), (a_t_now_floor_place, .inl (E.2.1 0, 8, .inl t_now_floor_place)), (a_t_now_floor_way, .inl (E.2.1 0, 8, .inl t_now_floor_way)), (a_t_now_floor_tell, .inl (E.2.1 0, 8, .inl t_now_floor_tell)), (a_t_now_floor_look, .inl (E.2.1 0, 8, .inl t_now_floor_look)), (a_t_now_floor_farSquare, .inl (E.2.1 0, 2, .inl t_now_floor_farSquare)), (a_t_now_sightings, .inr (8, [.int t_now_sightings_many, .ref a_t_now_sightings_weaver, .ref a_t_now_sightings_second, .ref a_t_now_sightings_knew])), (a_t_now_sightings_weaver, .inl (E.2.1 0, 10, .inl t_now_sightings_weaver)), (a_t_now_sightings_second, .inl (E.2.1 0, 10, .inl t_now_sightings_second)), (a_t_now_sightings_knew, .inl (E.2.1 0, 10, .inl t_now_sightings_knew)), (a_t_now_lexicon, .inr (3, [.int t_now_lexicon_words, .ref a_t_now_lexicon_length, .ref a_t_now_lexicon_number, .ref a_t_now_lexicon_weight, .ref a_t_now_lexicon_leastLike, .ref a_t_now_lexicon_row, .int t_now_lexicon_rowLips, .int t_now_lexicon_girlKnows, .ref a_t_now_lexicon_lipsOf, .ref a_t_now_lexicon_others])), (a_t_now_lexicon_length, .inl (E.2.1 0, 10, .inl t_now_lexicon_length)), (a_t_now_lexicon_number, .inl (E.2.1 0, 10, .inl t_now_lexicon_number)), (a_t_now_lexicon_weight, .inl (E.2.1 0, 10, .inl t_now_lexicon_weight)), (a_t_now_lexicon_leastLike, .inl (E.2.1 0, 6, .inl t_now_lexicon_leastLike)), (a_t_now_lexicon_row, .inl (E.2.1 0, 24, .inl t_now_lexicon_row)), (a_t_now_level, .inl (E.2.1 0, 6, .inl t_now_level)), (a_t_now_loss, .inl (E.2.1 0, 6, .inl t_now_loss)), (a_t_text, .inr (9, [.int t_text_bytes, .int t_text_items, .ref a_t_text_row, .ref a_t_text_itemKind, .ref a_t_text_numbersOf, .ref a_t_text_number, .int t_text_at, .int t_text_token, .int t_text_tokenAt, .int t_text_tokenNumber])), (a_t_fraction, .inr (2, [.ref a_t_fraction_above, .ref a_t_fraction_below])), (a_t_fraction_above, .inr (4, [.ref a_t_fraction_above_limb, .int t_fraction_above_limbs])), (a_t_fraction_above_limb, .inl (E.2.1 0, 40, .inl t_fraction_above_limb)), (a_t_fraction_below, .inr (4, [.ref a_t_fraction_below_limb, .int t_fraction_below_limbs])), (a_t_fraction_below_limb, .inl (E.2.1 0, 40, .inl t_fraction_below_limb))]
def rm_S_digest : Room := { frames := 3, cells := 0, slots := 0, locals := 71 }
set_option maxHeartbeats 4000000 in
set_option maxRecDepth 100000 in
theorem c_S_digest (l : Launch) (E : m_E) (sz N : Nat) (a_t : Nat) (a_t_draft : Nat) (a_t_firstImage : Nat) (a_t_secondImage : Nat) (a_t_news : Nat) (a_t_otherNews : Nat) (a_t_readings : Nat) (a_t_chances : Nat) (a_t_turning : Nat) (a_t_now : Nat) (a_t_now_floor : Nat) (a_t_now_floor_place : Nat) (a_t_now_floor_way : Nat) (a_t_now_floor_tell : Nat) (a_t_now_floor_look : Nat) (a_t_now_floor_farSquare : Nat) (a_t_now_sightings : Nat) (a_t_now_sightings_weaver : Nat) (a_t_now_sightings_second : Nat) (a_t_now_sightings_knew : Nat) (a_t_now_lexicon : Nat) (a_t_now_lexicon_lipsOf : Nat) (a_t_now_lexicon_others : Nat) (a_t_now_lexicon_length : Nat) (a_t_now_lexicon_number : Nat) (a_t_now_lexicon_weight : Nat) (a_t_now_lexicon_leastLike : Nat) (a_t_now_lexicon_row : Nat) (a_t_now_level : Nat) (a_t_now_loss : Nat) (a_t_text : Nat) (a_t_text_row : Nat) (a_t_text_itemKind : Nat) (a_t_text_numbersOf : Nat) (a_t_text_number : Nat) (a_t_fraction : Nat) (a_t_fraction_above : Nat) (a_t_fraction_above_limb : Nat) (a_t_fraction_below : Nat) (a_t_fraction_below_limb : Nat) (t_now_clearness : Int32) (t_now_isKept : Int32) (t_now_floor_pillars : Int64) (t_now_floor_weavers : Int32) (t_now_floor_place : Nat → Int32) (t_now_floor_way : Nat → Int32) (t_now_floor_tell : Nat → Int32) (t_now_floor_look : Nat → Int32) (t_now_floor_farSquare : Nat → Int32) (t_now_sightings_many : Int32) (t_now_sightings_weaver : Nat → Int32) (t_now_sightings_second : Nat → Int32) (t_now_sightings_knew : Nat → Int32) (t_now_lexicon_words : Int32) (t_now_lexicon_rowLips : Int32) (t_now_lexicon_girlKnows : Int32) (t_now_lexicon_length : Nat → Int32) (t_now_lexicon_number : Nat → Int32) (t_now_lexicon_weight : Nat → Int32) (t_now_lexicon_leastLike : Nat → Int32) (t_now_lexicon_row : Nat → Int32) (t_now_level : Nat → Int32) (t_now_loss : Nat → Int32) (t_text_bytes : Int32) (t_text_items : Int32) (t_text_at : Int32) (t_text_token : Int32) (t_text_tokenAt : Int32) (t_text_tokenNumber : Int32) (t_fraction_above_limbs : Int32) (t_fraction_above_limb : Nat → Int32) (t_fraction_below_limbs : Int32) (t_fraction_below_limb : Nat → Int32)  (ures : Int64) (hF : F_S_digest N t_now_clearness t_now_floor_pillars t_now_floor_weavers t_now_floor_place t_now_floor_way t_now_floor_tell t_now_floor_look t_now_floor_farSquare t_now_sightings_many t_now_sightings_weaver t_now_sightings_second t_now_sightings_knew t_now_lexicon_words t_now_lexicon_rowLips t_now_lexicon_girlKnows t_now_lexicon_length t_now_lexicon_number t_now_lexicon_weight t_now_lexicon_leastLike t_now_lexicon_row t_now_level t_now_loss t_text_bytes t_fraction_above_limbs t_fraction_above_limb t_fraction_below_limbs t_fraction_below_limb = some ures) : m_Met l yX11_digest cX11_digest 4 (some .long) rm_S_digest E (wd_S_digest E a_t a_t_draft a_t_firstImage a_t_secondImage a_t_news a_t_otherNews a_t_readings a_t_chances a_t_turning a_t_now a_t_now_floor a_t_now_floor_place a_t_now_floor_way a_t_now_floor_tell a_t_now_floor_look a_t_now_floor_farSquare a_t_now_sightings a_t_now_sightings_weaver a_t_now_sightings_second a_t_now_sightings_knew a_t_now_lexicon a_t_now_lexicon_lipsOf a_t_now_lexicon_others a_t_now_lexicon_length a_t_now_lexicon_number a_t_now_lexicon_weight a_t_now_lexicon_leastLike a_t_now_lexicon_row a_t_now_level a_t_now_loss a_t_text a_t_text_row a_t_text_itemKind a_t_text_numbersOf a_t_text_number a_t_fraction a_t_fraction_above a_t_fraction_above_limb a_t_fraction_below a_t_fraction_below_limb t_now_clearness t_now_isKept t_now_floor_pillars t_now_floor_weavers t_now_floor_place t_now_floor_way t_now_floor_tell t_now_floor_look t_now_floor_farSquare t_now_sightings_many t_now_sightings_weaver t_now_sightings_second t_now_sightings_knew t_now_lexicon_words t_now_lexicon_rowLips t_now_lexicon_girlKnows t_now_lexicon_length t_now_lexicon_number t_now_lexicon_weight t_now_lexicon_leastLike t_now_lexicon_row t_now_level t_now_loss t_text_bytes t_text_items t_text_at t_text_token t_text_tokenAt t_text_tokenNumber t_fraction_above_limbs t_fraction_above_limb t_fraction_below_limbs t_fraction_below_limb) (wd_S_digest E a_t a_t_draft a_t_firstImage a_t_secondImage a_t_news a_t_otherNews a_t_readings a_t_chances a_t_turning a_t_now a_t_now_floor a_t_now_floor_place a_t_now_floor_way a_t_now_floor_tell a_t_now_floor_look a_t_now_floor_farSquare a_t_now_sightings a_t_now_sightings_weaver a_t_now_sightings_second a_t_now_sightings_knew a_t_now_lexicon a_t_now_lexicon_lipsOf a_t_now_lexicon_others a_t_now_lexicon_length a_t_now_lexicon_number a_t_now_lexicon_weight a_t_now_lexicon_leastLike a_t_now_lexicon_row a_t_now_level a_t_now_loss a_t_text a_t_text_row a_t_text_itemKind a_t_text_numbersOf a_t_text_number a_t_fraction a_t_fraction_above a_t_fraction_above_limb a_t_fraction_below a_t_fraction_below_limb t_now_clearness t_now_isKept t_now_floor_pillars t_now_floor_weavers t_now_floor_place t_now_floor_way t_now_floor_tell t_now_floor_look t_now_floor_farSquare t_now_sightings_many t_now_sightings_weaver t_now_sightings_second t_now_sightings_knew t_now_lexicon_words t_now_lexicon_rowLips t_now_lexicon_girlKnows t_now_lexicon_length t_now_lexicon_number t_now_lexicon_weight t_now_lexicon_leastLike t_now_lexicon_row t_now_level t_now_loss t_text_bytes t_text_items t_text_at t_text_token t_text_tokenAt t_text_tokenNumber t_fraction_above_limbs t_fraction_above_limb t_fraction_below_limbs t_fraction_below_limb) sz [.ref a_t] (some (.long ures)) := by
  refine m_ofJ (by decide) (Nat.le_of_ble_eq_true rfl) ?_
  intro p e s m args below meth c A Q ls X hW hA hl hret
  obtain ⟨hx, hb, -, hown, hts, hK, -, hG⟩ := id X
  have hl : lv_has ls 4 [(0, .ref a_t)] := hl
  unfold F_S_digest at hF
  refine lv_ldc2 (v := (523 : Int64)) hx hb hown (hts _ wk_1072) dX11_digest_0 ?_
  refine lv_lstore_n (lv' := [(1, .long (523 : Int64)), (0, .ref a_t)]) hx hb dX11_digest_3 rfl hl (by decide) rfl (fun ls hl => ?_)
  refine lv_iconst (v := (0 : Int32)) hx hb dX11_digest_4 (by decide) ?_
  refine lv_istore_n (lv' := [(3, .int (0 : Int32)), (1, .long (523 : Int64)), (0, .ref a_t)]) hx hb dX11_digest_5 rfl hl (by decide) rfl (fun ls hl => ?_)
  obtain ⟨x1_2, hX2, hF⟩ := bO_s1 hF
  have L1 : ∀ (k0 : Nat) (x1 : Int64) (x3 : Int32) (x1_2 : Int64) (H : Heap) (locs : List Loc) (ls : Array Slot), S_digest_L6 t_now_floor_pillars t_now_floor_weavers t_now_sightings_many t_now_lexicon_words t_now_lexicon_rowLips t_text_bytes k0 x1 x3 = some x1_2 → m_H E A (wd_S_digest E a_t a_t_draft a_t_firstImage a_t_secondImage a_t_news a_t_otherNews a_t_readings a_t_chances a_t_turning a_t_now a_t_now_floor a_t_now_floor_place a_t_now_floor_way a_t_now_floor_tell a_t_now_floor_look a_t_now_floor_farSquare a_t_now_sightings a_t_now_sightings_weaver a_t_now_sightings_second a_t_now_sightings_knew a_t_now_lexicon a_t_now_lexicon_lipsOf a_t_now_lexicon_others a_t_now_lexicon_length a_t_now_lexicon_number a_t_now_lexicon_weight a_t_now_lexicon_leastLike a_t_now_lexicon_row a_t_now_level a_t_now_loss a_t_text a_t_text_row a_t_text_itemKind a_t_text_numbersOf a_t_text_number a_t_fraction a_t_fraction_above a_t_fraction_above_limb a_t_fraction_below a_t_fraction_below_limb t_now_clearness t_now_isKept t_now_floor_pillars t_now_floor_weavers t_now_floor_place t_now_floor_way t_now_floor_tell t_now_floor_look t_now_floor_farSquare t_now_sightings_many t_now_sightings_weaver t_now_sightings_second t_now_sightings_knew t_now_lexicon_words t_now_lexicon_rowLips t_now_lexicon_girlKnows t_now_lexicon_length t_now_lexicon_number t_now_lexicon_weight t_now_lexicon_leastLike t_now_lexicon_row t_now_level t_now_loss t_text_bytes t_text_items t_text_at t_text_token t_text_tokenAt t_text_tokenNumber t_fraction_above_limbs t_fraction_above_limb t_fraction_below_limbs t_fraction_below_limb) s.heap H locs → lv_has ls 4 [(3, .int x3), (1, .long x1), (0, .ref a_t)] → (∀ (H : Heap) (locs : List Loc) (ls : Array Slot), m_H E A (wd_S_digest E a_t a_t_draft a_t_firstImage a_t_secondImage a_t_news a_t_otherNews a_t_readings a_t_chances a_t_turning a_t_now a_t_now_floor a_t_now_floor_place a_t_now_floor_way a_t_now_floor_tell a_t_now_floor_look a_t_now_floor_farSquare a_t_now_sightings a_t_now_sightings_weaver a_t_now_sightings_second a_t_now_sightings_knew a_t_now_lexicon a_t_now_lexicon_lipsOf a_t_now_lexicon_others a_t_now_lexicon_length a_t_now_lexicon_number a_t_now_lexicon_weight a_t_now_lexicon_leastLike a_t_now_lexicon_row a_t_now_level a_t_now_loss a_t_text a_t_text_row a_t_text_itemKind a_t_text_numbersOf a_t_text_number a_t_fraction a_t_fraction_above a_t_fraction_above_limb a_t_fraction_below a_t_fraction_below_limb t_now_clearness t_now_isKept t_now_floor_pillars t_now_floor_weavers t_now_floor_place t_now_floor_way t_now_floor_tell t_now_floor_look t_now_floor_farSquare t_now_sightings_many t_now_sightings_weaver t_now_sightings_second t_now_sightings_knew t_now_lexicon_words t_now_lexicon_rowLips t_now_lexicon_girlKnows t_now_lexicon_length t_now_lexicon_number t_now_lexicon_weight t_now_lexicon_leastLike t_now_lexicon_row t_now_level t_now_loss t_text_bytes t_text_items t_text_at t_text_token t_text_tokenAt t_text_tokenNumber t_fraction_above_limbs t_fraction_above_limb t_fraction_below_limbs t_fraction_below_limb) s.heap H locs → lv_has ls 4 [(1, .long x1_2), (0, .ref a_t)] → W p l e rm_S_digest s m args below meth c H locs 0 0 Q (F0 m 27 ls [])) → W p l e rm_S_digest s m args below meth c H locs 0 0 Q (F0 m 6 ls []) := by
    clear hF
    intro k0
    induction k0 with
    | zero =>
      intro x1 x3 x1_2 H locs ls hF
      cases hF
    | succ k0 ih4 =>
      intro x1 x3 x1_2 H locs ls hF hW hl hk3
      rw [S_digest_L6] at hF
      refine lv_iload_n hx hb dX11_digest_6 rfl (lv_at hl 0 rfl) ?_
      refine lv_iconst (v := (5 : Int32)) hx hb dX11_digest_7 (by decide) ?_
      refine lv_icmp_gt (tgt := 27) hx hb dX11_digest_8 (by decide) (fun c5 => ?_) (fun c5 => ?_)
      · have hF := if_y c5 hF
        cases hF
        exact hk3 _ _ _ hW (lv_sub hl [1, 2] rfl)
      · have hF := if_n c5 hF
        refine lv_lload_n hx hb dX11_digest_11 rfl (lv_at hl 1 rfl) ?_
        refine lv_aload_n hx hb dX11_digest_12 rfl (lv_at hl 2 rfl) ?_
        refine lv_iload_n hx hb dX11_digest_13 rfl (lv_at hl 0 rfl) ?_
        refine m_callV X hW hA hl.1 lkX11_328 (c_S_count l E _ N a_t a_t_draft a_t_firstImage a_t_secondImage a_t_news a_t_otherNews a_t_readings a_t_chances a_t_turning a_t_fraction a_t_now a_t_now_level a_t_now_loss a_t_now_floor a_t_now_floor_place a_t_now_floor_way a_t_now_floor_tell a_t_now_floor_look a_t_now_floor_farSquare a_t_now_sightings a_t_now_sightings_weaver a_t_now_sightings_second a_t_now_sightings_knew a_t_now_lexicon a_t_now_lexicon_length a_t_now_lexicon_number a_t_now_lexicon_weight a_t_now_lexicon_leastLike a_t_now_lexicon_row a_t_now_lexicon_lipsOf a_t_now_lexicon_others a_t_text a_t_text_row a_t_text_itemKind a_t_text_numbersOf a_t_text_number t_now_clearness t_now_isKept t_now_floor_pillars t_now_floor_weavers t_now_sightings_many t_now_lexicon_words t_now_lexicon_rowLips t_now_lexicon_girlKnows t_text_bytes t_text_items t_text_at t_text_token t_text_tokenAt t_text_tokenNumber x3 (F_S_count x3 t_now_floor_pillars t_now_floor_weavers t_now_sightings_many t_now_lexicon_words t_now_lexicon_rowLips t_text_bytes) rfl) [0, 1, 2, 8, 12, 20] (by decide) rfl rfl (ws' := (wd_S_digest E a_t a_t_draft a_t_firstImage a_t_secondImage a_t_news a_t_otherNews a_t_readings a_t_chances a_t_turning a_t_now a_t_now_floor a_t_now_floor_place a_t_now_floor_way a_t_now_floor_tell a_t_now_floor_look a_t_now_floor_farSquare a_t_now_sightings a_t_now_sightings_weaver a_t_now_sightings_second a_t_now_sightings_knew a_t_now_lexicon a_t_now_lexicon_lipsOf a_t_now_lexicon_others a_t_now_lexicon_length a_t_now_lexicon_number a_t_now_lexicon_weight a_t_now_lexicon_leastLike a_t_now_lexicon_row a_t_now_level a_t_now_loss a_t_text a_t_text_row a_t_text_itemKind a_t_text_numbersOf a_t_text_number a_t_fraction a_t_fraction_above a_t_fraction_above_limb a_t_fraction_below a_t_fraction_below_limb t_now_clearness t_now_isKept t_now_floor_pillars t_now_floor_weavers t_now_floor_place t_now_floor_way t_now_floor_tell t_now_floor_look t_now_floor_farSquare t_now_sightings_many t_now_sightings_weaver t_now_sightings_second t_now_sightings_knew t_now_lexicon_words t_now_lexicon_rowLips t_now_lexicon_girlKnows t_now_lexicon_length t_now_lexicon_number t_now_lexicon_weight t_now_lexicon_leastLike t_now_lexicon_row t_now_level t_now_loss t_text_bytes t_text_items t_text_at t_text_token t_text_tokenAt t_text_tokenNumber t_fraction_above_limbs t_fraction_above_limb t_fraction_below_limbs t_fraction_below_limb)) rfl 0 rfl rfl rfl (As := [.int x3]) (rest := [.long x1]) rfl rfl ⟨rfl, rfl, Nat.le_of_ble_eq_true rfl, Nat.le_of_ble_eq_true rfl⟩ (Nat.le_of_ble_eq_true rfl) (Nat.zero_le _) (Nat.zero_le _) dX11_digest_14 (fun H locs hW => ?_)
        refine m_callS X hW hA hl.1 lkX11_331 (c_S_mixed l E _ N   x1 (F_S_count x3 t_now_floor_pillars t_now_floor_weavers t_now_sightings_many t_now_lexicon_words t_now_lexicon_rowLips t_text_bytes) (F_S_mixed x1 (F_S_count x3 t_now_floor_pillars t_now_floor_weavers t_now_sightings_many t_now_lexicon_words t_now_lexicon_rowLips t_text_bytes)) rfl) [] (by decide) rfl rfl (ws' := (wd_S_digest E a_t a_t_draft a_t_firstImage a_t_secondImage a_t_news a_t_otherNews a_t_readings a_t_chances a_t_turning a_t_now a_t_now_floor a_t_now_floor_place a_t_now_floor_way a_t_now_floor_tell a_t_now_floor_look a_t_now_floor_farSquare a_t_now_sightings a_t_now_sightings_weaver a_t_now_sightings_second a_t_now_sightings_knew a_t_now_lexicon a_t_now_lexicon_lipsOf a_t_now_lexicon_others a_t_now_lexicon_length a_t_now_lexicon_number a_t_now_lexicon_weight a_t_now_lexicon_leastLike a_t_now_lexicon_row a_t_now_level a_t_now_loss a_t_text a_t_text_row a_t_text_itemKind a_t_text_numbersOf a_t_text_number a_t_fraction a_t_fraction_above a_t_fraction_above_limb a_t_fraction_below a_t_fraction_below_limb t_now_clearness t_now_isKept t_now_floor_pillars t_now_floor_weavers t_now_floor_place t_now_floor_way t_now_floor_tell t_now_floor_look t_now_floor_farSquare t_now_sightings_many t_now_sightings_weaver t_now_sightings_second t_now_sightings_knew t_now_lexicon_words t_now_lexicon_rowLips t_now_lexicon_girlKnows t_now_lexicon_length t_now_lexicon_number t_now_lexicon_weight t_now_lexicon_leastLike t_now_lexicon_row t_now_level t_now_loss t_text_bytes t_text_items t_text_at t_text_token t_text_tokenAt t_text_tokenNumber t_fraction_above_limbs t_fraction_above_limb t_fraction_below_limbs t_fraction_below_limb)) rfl (As := [.long x1, .int (F_S_count x3 t_now_floor_pillars t_now_floor_weavers t_now_sightings_many t_now_lexicon_words t_now_lexicon_rowLips t_text_bytes)]) (rest := []) rfl rfl ⟨rfl, rfl, Nat.le_of_ble_eq_true rfl, Nat.le_of_ble_eq_true rfl⟩ (Nat.le_of_ble_eq_true rfl) (Nat.zero_le _) (Nat.zero_le _) dX11_digest_17 (fun H locs hW => ?_)
        refine lv_lstore_n (lv' := [(1, .long (F_S_mixed x1 (F_S_count x3 t_now_floor_pillars t_now_floor_weavers t_now_sightings_many t_now_lexicon_words t_now_lexicon_rowLips t_text_bytes))), (3, .int x3), (0, .ref a_t)]) hx hb dX11_digest_20 rfl hl (by decide) rfl (fun ls hl => ?_)
        refine lv_iinc (v := (x3 + (1 : Int32))) (lv' := [(3, .int (x3 + (1 : Int32))), (1, .long (F_S_mixed x1 (F_S_count x3 t_now_floor_pillars t_now_floor_weavers t_now_sightings_many t_now_lexicon_words t_now_lexicon_rowLips t_text_bytes))), (0, .ref a_t)]) hx hb dX11_digest_21 hl (k := 1) rfl rfl (by decide) rfl (fun ls hl => ?_)
        refine lv_goto (tgt := 6) hx hb dX11_digest_24 (by decide) ?_
        exact ih4 (F_S_mixed x1 (F_S_count x3 t_now_floor_pillars t_now_floor_weavers t_now_sightings_many t_now_lexicon_words t_now_lexicon_rowLips t_text_bytes)) (x3 + (1 : Int32)) x1_2 _ _ _ hF hW (lv_sub hl [0, 1, 2] rfl) hk3
  refine L1 N (523 : Int64) (0 : Int32) x1_2 _ _ _ hX2 hW (lv_sub hl [0, 1, 2] rfl) ?_
  intro H locs ls hW hl
  clear L1
  refine lv_aload_n hx hb dX11_digest_27 rfl (lv_at hl 1 rfl) ?_
  refine m_get X hW fdX11_10 0 rfl rfl dX11_digest_28 ?_
  refine m_get X hW fdX11_70 1 rfl rfl dX11_digest_31 ?_
  refine lv_lload_n hx hb dX11_digest_34 rfl (lv_at hl 0 rfl) ?_
  obtain ⟨r35, hC6, hF⟩ := bO_s1 hF
  refine m_callV X hW hA hl.1 lkX11_335 (c_Floor_digestOnto l E _ N a_t_now_floor a_t_now_floor_place a_t_now_floor_way a_t_now_floor_tell a_t_now_floor_look a_t_now_floor_farSquare t_now_floor_pillars t_now_floor_weavers t_now_floor_place t_now_floor_way t_now_floor_tell t_now_floor_look t_now_floor_farSquare x1_2 r35 hC6) [2, 3, 4, 5, 6, 7] (by decide) rfl rfl (ws' := (wd_S_digest E a_t a_t_draft a_t_firstImage a_t_secondImage a_t_news a_t_otherNews a_t_readings a_t_chances a_t_turning a_t_now a_t_now_floor a_t_now_floor_place a_t_now_floor_way a_t_now_floor_tell a_t_now_floor_look a_t_now_floor_farSquare a_t_now_sightings a_t_now_sightings_weaver a_t_now_sightings_second a_t_now_sightings_knew a_t_now_lexicon a_t_now_lexicon_lipsOf a_t_now_lexicon_others a_t_now_lexicon_length a_t_now_lexicon_number a_t_now_lexicon_weight a_t_now_lexicon_leastLike a_t_now_lexicon_row a_t_now_level a_t_now_loss a_t_text a_t_text_row a_t_text_itemKind a_t_text_numbersOf a_t_text_number a_t_fraction a_t_fraction_above a_t_fraction_above_limb a_t_fraction_below a_t_fraction_below_limb t_now_clearness t_now_isKept t_now_floor_pillars t_now_floor_weavers t_now_floor_place t_now_floor_way t_now_floor_tell t_now_floor_look t_now_floor_farSquare t_now_sightings_many t_now_sightings_weaver t_now_sightings_second t_now_sightings_knew t_now_lexicon_words t_now_lexicon_rowLips t_now_lexicon_girlKnows t_now_lexicon_length t_now_lexicon_number t_now_lexicon_weight t_now_lexicon_leastLike t_now_lexicon_row t_now_level t_now_loss t_text_bytes t_text_items t_text_at t_text_token t_text_tokenAt t_text_tokenNumber t_fraction_above_limbs t_fraction_above_limb t_fraction_below_limbs t_fraction_below_limb)) rfl 2 rfl rfl rfl (As := [.long x1_2]) (rest := []) rfl rfl ⟨rfl, rfl, Nat.le_of_ble_eq_true rfl, Nat.le_of_ble_eq_true rfl⟩ (Nat.le_of_ble_eq_true rfl) (Nat.zero_le _) (Nat.zero_le _) dX11_digest_35 (fun H locs hW => ?_)
  clear hC6
  refine lv_lstore_n (lv' := [(1, .long r35), (0, .ref a_t)]) hx hb dX11_digest_38 rfl hl (by decide) rfl (fun ls hl => ?_)
  refine lv_aload_n hx hb dX11_digest_39 rfl (lv_at hl 1 rfl) ?_
  refine m_get X hW fdX11_10 0 rfl rfl dX11_digest_40 ?_
  refine m_get X hW fdX11_134 1 rfl rfl dX11_digest_43 ?_
  refine lv_lload_n hx hb dX11_digest_46 rfl (lv_at hl 0 rfl) ?_
  obtain ⟨r47, hC7, hF⟩ := bO_s1 hF
  refine m_callV X hW hA hl.1 lkX11_339 (c_Sightings_digestOnto l E _ N a_t_now_sightings a_t_now_sightings_weaver a_t_now_sightings_second a_t_now_sightings_knew t_now_sightings_many t_now_sightings_weaver t_now_sightings_second t_now_sightings_knew r35 r47 hC7) [8, 9, 10, 11] (by decide) rfl rfl (ws' := (wd_S_digest E a_t a_t_draft a_t_firstImage a_t_secondImage a_t_news a_t_otherNews a_t_readings a_t_chances a_t_turning a_t_now a_t_now_floor a_t_now_floor_place a_t_now_floor_way a_t_now_floor_tell a_t_now_floor_look a_t_now_floor_farSquare a_t_now_sightings a_t_now_sightings_weaver a_t_now_sightings_second a_t_now_sightings_knew a_t_now_lexicon a_t_now_lexicon_lipsOf a_t_now_lexicon_others a_t_now_lexicon_length a_t_now_lexicon_number a_t_now_lexicon_weight a_t_now_lexicon_leastLike a_t_now_lexicon_row a_t_now_level a_t_now_loss a_t_text a_t_text_row a_t_text_itemKind a_t_text_numbersOf a_t_text_number a_t_fraction a_t_fraction_above a_t_fraction_above_limb a_t_fraction_below a_t_fraction_below_limb t_now_clearness t_now_isKept t_now_floor_pillars t_now_floor_weavers t_now_floor_place t_now_floor_way t_now_floor_tell t_now_floor_look t_now_floor_farSquare t_now_sightings_many t_now_sightings_weaver t_now_sightings_second t_now_sightings_knew t_now_lexicon_words t_now_lexicon_rowLips t_now_lexicon_girlKnows t_now_lexicon_length t_now_lexicon_number t_now_lexicon_weight t_now_lexicon_leastLike t_now_lexicon_row t_now_level t_now_loss t_text_bytes t_text_items t_text_at t_text_token t_text_tokenAt t_text_tokenNumber t_fraction_above_limbs t_fraction_above_limb t_fraction_below_limbs t_fraction_below_limb)) rfl 8 rfl rfl rfl (As := [.long r35]) (rest := []) rfl rfl ⟨rfl, rfl, Nat.le_of_ble_eq_true rfl, Nat.le_of_ble_eq_true rfl⟩ (Nat.le_of_ble_eq_true rfl) (Nat.zero_le _) (Nat.zero_le _) dX11_digest_47 (fun H locs hW => ?_)
  clear hC7
  refine lv_lstore_n (lv' := [(1, .long r47), (0, .ref a_t)]) hx hb dX11_digest_50 rfl hl (by decide) rfl (fun ls hl => ?_)
  refine lv_aload_n hx hb dX11_digest_51 rfl (lv_at hl 1 rfl) ?_
  refine m_get X hW fdX11_10 0 rfl rfl dX11_digest_52 ?_
  refine m_get X hW fdX11_156 1 rfl rfl dX11_digest_55 ?_
  refine lv_lload_n hx hb dX11_digest_58 rfl (lv_at hl 0 rfl) ?_
  obtain ⟨r59, hC8, hF⟩ := bO_s1 hF
  refine m_callV X hW hA hl.1 lkX11_340 (c_Lexicon_digestWordsOnto l E _ N a_t_now_lexicon a_t_now_lexicon_lipsOf a_t_now_lexicon_others a_t_now_lexicon_length a_t_now_lexicon_number a_t_now_lexicon_weight a_t_now_lexicon_leastLike a_t_now_lexicon_row t_now_lexicon_words t_now_lexicon_rowLips t_now_lexicon_girlKnows t_now_lexicon_length t_now_lexicon_number t_now_lexicon_weight t_now_lexicon_leastLike t_now_lexicon_row r47 r59 hC8) [12, 13, 14, 15, 16, 17] (by decide) rfl rfl (ws' := (wd_S_digest E a_t a_t_draft a_t_firstImage a_t_secondImage a_t_news a_t_otherNews a_t_readings a_t_chances a_t_turning a_t_now a_t_now_floor a_t_now_floor_place a_t_now_floor_way a_t_now_floor_tell a_t_now_floor_look a_t_now_floor_farSquare a_t_now_sightings a_t_now_sightings_weaver a_t_now_sightings_second a_t_now_sightings_knew a_t_now_lexicon a_t_now_lexicon_lipsOf a_t_now_lexicon_others a_t_now_lexicon_length a_t_now_lexicon_number a_t_now_lexicon_weight a_t_now_lexicon_leastLike a_t_now_lexicon_row a_t_now_level a_t_now_loss a_t_text a_t_text_row a_t_text_itemKind a_t_text_numbersOf a_t_text_number a_t_fraction a_t_fraction_above a_t_fraction_above_limb a_t_fraction_below a_t_fraction_below_limb t_now_clearness t_now_isKept t_now_floor_pillars t_now_floor_weavers t_now_floor_place t_now_floor_way t_now_floor_tell t_now_floor_look t_now_floor_farSquare t_now_sightings_many t_now_sightings_weaver t_now_sightings_second t_now_sightings_knew t_now_lexicon_words t_now_lexicon_rowLips t_now_lexicon_girlKnows t_now_lexicon_length t_now_lexicon_number t_now_lexicon_weight t_now_lexicon_leastLike t_now_lexicon_row t_now_level t_now_loss t_text_bytes t_text_items t_text_at t_text_token t_text_tokenAt t_text_tokenNumber t_fraction_above_limbs t_fraction_above_limb t_fraction_below_limbs t_fraction_below_limb)) rfl 12 rfl rfl rfl (As := [.long r47]) (rest := []) rfl rfl ⟨rfl, rfl, Nat.le_of_ble_eq_true rfl, Nat.le_of_ble_eq_true rfl⟩ (Nat.le_of_ble_eq_true rfl) (Nat.zero_le _) (Nat.zero_le _) dX11_digest_59 (fun H locs hW => ?_)
  clear hC8
  refine lv_lstore_n (lv' := [(1, .long r59), (0, .ref a_t)]) hx hb dX11_digest_62 rfl hl (by decide) rfl (fun ls hl => ?_)
  refine lv_lload_n hx hb dX11_digest_63 rfl (lv_at hl 0 rfl) ?_
  refine lv_aload_n hx hb dX11_digest_64 rfl (lv_at hl 1 rfl) ?_
  refine m_get X hW fdX11_10 0 rfl rfl dX11_digest_65 ?_
  refine m_get X hW fdX11_208 1 rfl rfl dX11_digest_68 ?_
  refine m_callS X hW hA hl.1 lkX11_331 (c_S_mixed l E _ N   r59 t_now_clearness (F_S_mixed r59 t_now_clearness) rfl) [] (by decide) rfl rfl (ws' := (wd_S_digest E a_t a_t_draft a_t_firstImage a_t_secondImage a_t_news a_t_otherNews a_t_readings a_t_chances a_t_turning a_t_now a_t_now_floor a_t_now_floor_place a_t_now_floor_way a_t_now_floor_tell a_t_now_floor_look a_t_now_floor_farSquare a_t_now_sightings a_t_now_sightings_weaver a_t_now_sightings_second a_t_now_sightings_knew a_t_now_lexicon a_t_now_lexicon_lipsOf a_t_now_lexicon_others a_t_now_lexicon_length a_t_now_lexicon_number a_t_now_lexicon_weight a_t_now_lexicon_leastLike a_t_now_lexicon_row a_t_now_level a_t_now_loss a_t_text a_t_text_row a_t_text_itemKind a_t_text_numbersOf a_t_text_number a_t_fraction a_t_fraction_above a_t_fraction_above_limb a_t_fraction_below a_t_fraction_below_limb t_now_clearness t_now_isKept t_now_floor_pillars t_now_floor_weavers t_now_floor_place t_now_floor_way t_now_floor_tell t_now_floor_look t_now_floor_farSquare t_now_sightings_many t_now_sightings_weaver t_now_sightings_second t_now_sightings_knew t_now_lexicon_words t_now_lexicon_rowLips t_now_lexicon_girlKnows t_now_lexicon_length t_now_lexicon_number t_now_lexicon_weight t_now_lexicon_leastLike t_now_lexicon_row t_now_level t_now_loss t_text_bytes t_text_items t_text_at t_text_token t_text_tokenAt t_text_tokenNumber t_fraction_above_limbs t_fraction_above_limb t_fraction_below_limbs t_fraction_below_limb)) rfl (As := [.long r59, .int t_now_clearness]) (rest := []) rfl rfl ⟨rfl, rfl, Nat.le_of_ble_eq_true rfl, Nat.le_of_ble_eq_true rfl⟩ (Nat.le_of_ble_eq_true rfl) (Nat.zero_le _) (Nat.zero_le _) dX11_digest_71 (fun H locs hW => ?_)
  refine lv_lstore_n (lv' := [(1, .long (F_S_mixed r59 t_now_clearness)), (0, .ref a_t)]) hx hb dX11_digest_74 rfl hl (by decide) rfl (fun ls hl => ?_)
  refine lv_lload_n hx hb dX11_digest_75 rfl (lv_at hl 0 rfl) ?_
  refine lv_aload_n hx hb dX11_digest_76 rfl (lv_at hl 1 rfl) ?_
  refine m_get X hW fdX11_10 0 rfl rfl dX11_digest_77 ?_
  refine m_get X hW fdX11_156 1 rfl rfl dX11_digest_80 ?_
  refine m_get X hW fdX11_225 12 rfl rfl dX11_digest_83 ?_
  refine m_callS X hW hA hl.1 lkX11_331 (c_S_mixed l E _ N   (F_S_mixed r59 t_now_clearness) t_now_lexicon_girlKnows (F_S_mixed (F_S_mixed r59 t_now_clearness) t_now_lexicon_girlKnows) rfl) [] (by decide) rfl rfl (ws' := (wd_S_digest E a_t a_t_draft a_t_firstImage a_t_secondImage a_t_news a_t_otherNews a_t_readings a_t_chances a_t_turning a_t_now a_t_now_floor a_t_now_floor_place a_t_now_floor_way a_t_now_floor_tell a_t_now_floor_look a_t_now_floor_farSquare a_t_now_sightings a_t_now_sightings_weaver a_t_now_sightings_second a_t_now_sightings_knew a_t_now_lexicon a_t_now_lexicon_lipsOf a_t_now_lexicon_others a_t_now_lexicon_length a_t_now_lexicon_number a_t_now_lexicon_weight a_t_now_lexicon_leastLike a_t_now_lexicon_row a_t_now_level a_t_now_loss a_t_text a_t_text_row a_t_text_itemKind a_t_text_numbersOf a_t_text_number a_t_fraction a_t_fraction_above a_t_fraction_above_limb a_t_fraction_below a_t_fraction_below_limb t_now_clearness t_now_isKept t_now_floor_pillars t_now_floor_weavers t_now_floor_place t_now_floor_way t_now_floor_tell t_now_floor_look t_now_floor_farSquare t_now_sightings_many t_now_sightings_weaver t_now_sightings_second t_now_sightings_knew t_now_lexicon_words t_now_lexicon_rowLips t_now_lexicon_girlKnows t_now_lexicon_length t_now_lexicon_number t_now_lexicon_weight t_now_lexicon_leastLike t_now_lexicon_row t_now_level t_now_loss t_text_bytes t_text_items t_text_at t_text_token t_text_tokenAt t_text_tokenNumber t_fraction_above_limbs t_fraction_above_limb t_fraction_below_limbs t_fraction_below_limb)) rfl (As := [.long (F_S_mixed r59 t_now_clearness), .int t_now_lexicon_girlKnows]) (rest := []) rfl rfl ⟨rfl, rfl, Nat.le_of_ble_eq_true rfl, Nat.le_of_ble_eq_true rfl⟩ (Nat.le_of_ble_eq_true rfl) (Nat.zero_le _) (Nat.zero_le _) dX11_digest_86 (fun H locs hW => ?_)
  refine lv_lstore_n (lv' := [(1, .long (F_S_mixed (F_S_mixed r59 t_now_clearness) t_now_lexicon_girlKnows)), (0, .ref a_t)]) hx hb dX11_digest_89 rfl hl (by decide) rfl (fun ls hl => ?_)
  refine lv_iconst (v := (0 : Int32)) hx hb dX11_digest_90 (by decide) ?_
  refine lv_istore_n (lv' := [(3, .int (0 : Int32)), (1, .long (F_S_mixed (F_S_mixed r59 t_now_clearness) t_now_lexicon_girlKnows)), (0, .ref a_t)]) hx hb dX11_digest_91 rfl hl (by decide) rfl (fun ls hl => ?_)
  obtain ⟨x1_4, hX10, hF⟩ := bO_s1 hF
  have L9 : ∀ (k0 : Nat) (x1_3 : Int64) (x3_2 : Int32) (x1_4 : Int64) (H : Heap) (locs : List Loc) (ls : Array Slot), S_digest_L92 t_now_level t_now_loss k0 x1_3 x3_2 = some x1_4 → m_H E A (wd_S_digest E a_t a_t_draft a_t_firstImage a_t_secondImage a_t_news a_t_otherNews a_t_readings a_t_chances a_t_turning a_t_now a_t_now_floor a_t_now_floor_place a_t_now_floor_way a_t_now_floor_tell a_t_now_floor_look a_t_now_floor_farSquare a_t_now_sightings a_t_now_sightings_weaver a_t_now_sightings_second a_t_now_sightings_knew a_t_now_lexicon a_t_now_lexicon_lipsOf a_t_now_lexicon_others a_t_now_lexicon_length a_t_now_lexicon_number a_t_now_lexicon_weight a_t_now_lexicon_leastLike a_t_now_lexicon_row a_t_now_level a_t_now_loss a_t_text a_t_text_row a_t_text_itemKind a_t_text_numbersOf a_t_text_number a_t_fraction a_t_fraction_above a_t_fraction_above_limb a_t_fraction_below a_t_fraction_below_limb t_now_clearness t_now_isKept t_now_floor_pillars t_now_floor_weavers t_now_floor_place t_now_floor_way t_now_floor_tell t_now_floor_look t_now_floor_farSquare t_now_sightings_many t_now_sightings_weaver t_now_sightings_second t_now_sightings_knew t_now_lexicon_words t_now_lexicon_rowLips t_now_lexicon_girlKnows t_now_lexicon_length t_now_lexicon_number t_now_lexicon_weight t_now_lexicon_leastLike t_now_lexicon_row t_now_level t_now_loss t_text_bytes t_text_items t_text_at t_text_token t_text_tokenAt t_text_tokenNumber t_fraction_above_limbs t_fraction_above_limb t_fraction_below_limbs t_fraction_below_limb) s.heap H locs → lv_has ls 4 [(3, .int x3_2), (1, .long x1_3), (0, .ref a_t)] → (∀ (H : Heap) (locs : List Loc) (ls : Array Slot), m_H E A (wd_S_digest E a_t a_t_draft a_t_firstImage a_t_secondImage a_t_news a_t_otherNews a_t_readings a_t_chances a_t_turning a_t_now a_t_now_floor a_t_now_floor_place a_t_now_floor_way a_t_now_floor_tell a_t_now_floor_look a_t_now_floor_farSquare a_t_now_sightings a_t_now_sightings_weaver a_t_now_sightings_second a_t_now_sightings_knew a_t_now_lexicon a_t_now_lexicon_lipsOf a_t_now_lexicon_others a_t_now_lexicon_length a_t_now_lexicon_number a_t_now_lexicon_weight a_t_now_lexicon_leastLike a_t_now_lexicon_row a_t_now_level a_t_now_loss a_t_text a_t_text_row a_t_text_itemKind a_t_text_numbersOf a_t_text_number a_t_fraction a_t_fraction_above a_t_fraction_above_limb a_t_fraction_below a_t_fraction_below_limb t_now_clearness t_now_isKept t_now_floor_pillars t_now_floor_weavers t_now_floor_place t_now_floor_way t_now_floor_tell t_now_floor_look t_now_floor_farSquare t_now_sightings_many t_now_sightings_weaver t_now_sightings_second t_now_sightings_knew t_now_lexicon_words t_now_lexicon_rowLips t_now_lexicon_girlKnows t_now_lexicon_length t_now_lexicon_number t_now_lexicon_weight t_now_lexicon_leastLike t_now_lexicon_row t_now_level t_now_loss t_text_bytes t_text_items t_text_at t_text_token t_text_tokenAt t_text_tokenNumber t_fraction_above_limbs t_fraction_above_limb t_fraction_below_limbs t_fraction_below_limb) s.heap H locs → lv_has ls 4 [(1, .long x1_4), (0, .ref a_t)] → W p l e rm_S_digest s m args below meth c H locs 0 0 Q (F0 m 130 ls [])) → W p l e rm_S_digest s m args below meth c H locs 0 0 Q (F0 m 92 ls []) := by
    clear hF
    intro k0
    induction k0 with
    | zero =>
      intro x1_3 x3_2 x1_4 H locs ls hF
      cases hF
    | succ k0 ih12 =>
      intro x1_3 x3_2 x1_4 H locs ls hF hW hl hk11
      rw [S_digest_L92] at hF
      refine lv_iload_n hx hb dX11_digest_92 rfl (lv_at hl 0 rfl) ?_
      refine lv_bipush (v := (6 : Int32)) hx hb dX11_digest_93 (by decide) ?_
      refine lv_icmp_ge (tgt := 130) hx hb dX11_digest_95 (by decide) (fun c13 => ?_) (fun c13 => ?_)
      · have hF := if_y c13 hF
        cases hF
        exact hk11 _ _ _ hW (lv_sub hl [1, 2] rfl)
      · have hF := if_n c13 hF
        refine lv_lload_n hx hb dX11_digest_98 rfl (lv_at hl 1 rfl) ?_
        refine lv_aload_n hx hb dX11_digest_99 rfl (lv_at hl 2 rfl) ?_
        refine m_get X hW fdX11_10 0 rfl rfl dX11_digest_100 ?_
        refine m_get X hW fdX11_249 1 rfl rfl dX11_digest_103 ?_
        refine lv_iload_n hx hb dX11_digest_106 rfl (lv_at hl 0 rfl) ?_
        obtain ⟨g14, hF⟩ := gd_some hF
        refine m_iald X hW 18 (k := x3_2.toNatClampNeg) rfl g14 rfl dX11_digest_107 ?_
        refine m_callS X hW hA hl.1 lkX11_331 (c_S_mixed l E _ N   x1_3 (t_now_level x3_2.toNatClampNeg) (F_S_mixed x1_3 (t_now_level x3_2.toNatClampNeg)) rfl) [] (by decide) rfl rfl (ws' := (wd_S_digest E a_t a_t_draft a_t_firstImage a_t_secondImage a_t_news a_t_otherNews a_t_readings a_t_chances a_t_turning a_t_now a_t_now_floor a_t_now_floor_place a_t_now_floor_way a_t_now_floor_tell a_t_now_floor_look a_t_now_floor_farSquare a_t_now_sightings a_t_now_sightings_weaver a_t_now_sightings_second a_t_now_sightings_knew a_t_now_lexicon a_t_now_lexicon_lipsOf a_t_now_lexicon_others a_t_now_lexicon_length a_t_now_lexicon_number a_t_now_lexicon_weight a_t_now_lexicon_leastLike a_t_now_lexicon_row a_t_now_level a_t_now_loss a_t_text a_t_text_row a_t_text_itemKind a_t_text_numbersOf a_t_text_number a_t_fraction a_t_fraction_above a_t_fraction_above_limb a_t_fraction_below a_t_fraction_below_limb t_now_clearness t_now_isKept t_now_floor_pillars t_now_floor_weavers t_now_floor_place t_now_floor_way t_now_floor_tell t_now_floor_look t_now_floor_farSquare t_now_sightings_many t_now_sightings_weaver t_now_sightings_second t_now_sightings_knew t_now_lexicon_words t_now_lexicon_rowLips t_now_lexicon_girlKnows t_now_lexicon_length t_now_lexicon_number t_now_lexicon_weight t_now_lexicon_leastLike t_now_lexicon_row t_now_level t_now_loss t_text_bytes t_text_items t_text_at t_text_token t_text_tokenAt t_text_tokenNumber t_fraction_above_limbs t_fraction_above_limb t_fraction_below_limbs t_fraction_below_limb)) rfl (As := [.long x1_3, .int (t_now_level x3_2.toNatClampNeg)]) (rest := []) rfl rfl ⟨rfl, rfl, Nat.le_of_ble_eq_true rfl, Nat.le_of_ble_eq_true rfl⟩ (Nat.le_of_ble_eq_true rfl) (Nat.zero_le _) (Nat.zero_le _) dX11_digest_108 (fun H locs hW => ?_)
        refine lv_aload_n hx hb dX11_digest_111 rfl (lv_at hl 2 rfl) ?_
        refine m_get X hW fdX11_10 0 rfl rfl dX11_digest_112 ?_
        refine m_get X hW fdX11_252 1 rfl rfl dX11_digest_115 ?_
        refine lv_iload_n hx hb dX11_digest_118 rfl (lv_at hl 0 rfl) ?_
        refine m_iald X hW 19 (k := x3_2.toNatClampNeg) rfl g14 rfl dX11_digest_119 ?_
        refine m_callS X hW hA hl.1 lkX11_331 (c_S_mixed l E _ N   (F_S_mixed x1_3 (t_now_level x3_2.toNatClampNeg)) (t_now_loss x3_2.toNatClampNeg) (F_S_mixed (F_S_mixed x1_3 (t_now_level x3_2.toNatClampNeg)) (t_now_loss x3_2.toNatClampNeg)) rfl) [] (by decide) rfl rfl (ws' := (wd_S_digest E a_t a_t_draft a_t_firstImage a_t_secondImage a_t_news a_t_otherNews a_t_readings a_t_chances a_t_turning a_t_now a_t_now_floor a_t_now_floor_place a_t_now_floor_way a_t_now_floor_tell a_t_now_floor_look a_t_now_floor_farSquare a_t_now_sightings a_t_now_sightings_weaver a_t_now_sightings_second a_t_now_sightings_knew a_t_now_lexicon a_t_now_lexicon_lipsOf a_t_now_lexicon_others a_t_now_lexicon_length a_t_now_lexicon_number a_t_now_lexicon_weight a_t_now_lexicon_leastLike a_t_now_lexicon_row a_t_now_level a_t_now_loss a_t_text a_t_text_row a_t_text_itemKind a_t_text_numbersOf a_t_text_number a_t_fraction a_t_fraction_above a_t_fraction_above_limb a_t_fraction_below a_t_fraction_below_limb t_now_clearness t_now_isKept t_now_floor_pillars t_now_floor_weavers t_now_floor_place t_now_floor_way t_now_floor_tell t_now_floor_look t_now_floor_farSquare t_now_sightings_many t_now_sightings_weaver t_now_sightings_second t_now_sightings_knew t_now_lexicon_words t_now_lexicon_rowLips t_now_lexicon_girlKnows t_now_lexicon_length t_now_lexicon_number t_now_lexicon_weight t_now_lexicon_leastLike t_now_lexicon_row t_now_level t_now_loss t_text_bytes t_text_items t_text_at t_text_token t_text_tokenAt t_text_tokenNumber t_fraction_above_limbs t_fraction_above_limb t_fraction_below_limbs t_fraction_below_limb)) rfl (As := [.long (F_S_mixed x1_3 (t_now_level x3_2.toNatClampNeg)), .int (t_now_loss x3_2.toNatClampNeg)]) (rest := []) rfl rfl ⟨rfl, rfl, Nat.le_of_ble_eq_true rfl, Nat.le_of_ble_eq_true rfl⟩ (Nat.le_of_ble_eq_true rfl) (Nat.zero_le _) (Nat.zero_le _) dX11_digest_120 (fun H locs hW => ?_)
        refine lv_lstore_n (lv' := [(1, .long (F_S_mixed (F_S_mixed x1_3 (t_now_level x3_2.toNatClampNeg)) (t_now_loss x3_2.toNatClampNeg))), (3, .int x3_2), (0, .ref a_t)]) hx hb dX11_digest_123 rfl hl (by decide) rfl (fun ls hl => ?_)
        refine lv_iinc (v := (x3_2 + (1 : Int32))) (lv' := [(3, .int (x3_2 + (1 : Int32))), (1, .long (F_S_mixed (F_S_mixed x1_3 (t_now_level x3_2.toNatClampNeg)) (t_now_loss x3_2.toNatClampNeg))), (0, .ref a_t)]) hx hb dX11_digest_124 hl (k := 1) rfl rfl (by decide) rfl (fun ls hl => ?_)
        refine lv_goto (tgt := 92) hx hb dX11_digest_127 (by decide) ?_
        exact ih12 (F_S_mixed (F_S_mixed x1_3 (t_now_level x3_2.toNatClampNeg)) (t_now_loss x3_2.toNatClampNeg)) (x3_2 + (1 : Int32)) x1_4 _ _ _ hF hW (lv_sub hl [0, 1, 2] rfl) hk11
  refine L9 N (F_S_mixed (F_S_mixed r59 t_now_clearness) t_now_lexicon_girlKnows) (0 : Int32) x1_4 _ _ _ hX10 hW (lv_sub hl [0, 1, 2] rfl) ?_
  intro H locs ls hW hl
  clear L9
  refine lv_aload_n hx hb dX11_digest_130 rfl (lv_at hl 1 rfl) ?_
  refine m_get X hW fdX11_66 0 rfl rfl dX11_digest_131 ?_
  refine lv_lload_n hx hb dX11_digest_134 rfl (lv_at hl 0 rfl) ?_
  obtain ⟨r135, hC15, hF⟩ := bO_s1 hF
  refine m_callV X hW hA hl.1 lkX11_343 (c_Fraction_digestOnto l E _ N a_t_fraction a_t_fraction_above a_t_fraction_above_limb a_t_fraction_below a_t_fraction_below_limb t_fraction_above_limbs t_fraction_above_limb t_fraction_below_limbs t_fraction_below_limb x1_4 r135 hC15) [21, 22, 23, 24, 25] (by decide) rfl rfl (ws' := (wd_S_digest E a_t a_t_draft a_t_firstImage a_t_secondImage a_t_news a_t_otherNews a_t_readings a_t_chances a_t_turning a_t_now a_t_now_floor a_t_now_floor_place a_t_now_floor_way a_t_now_floor_tell a_t_now_floor_look a_t_now_floor_farSquare a_t_now_sightings a_t_now_sightings_weaver a_t_now_sightings_second a_t_now_sightings_knew a_t_now_lexicon a_t_now_lexicon_lipsOf a_t_now_lexicon_others a_t_now_lexicon_length a_t_now_lexicon_number a_t_now_lexicon_weight a_t_now_lexicon_leastLike a_t_now_lexicon_row a_t_now_level a_t_now_loss a_t_text a_t_text_row a_t_text_itemKind a_t_text_numbersOf a_t_text_number a_t_fraction a_t_fraction_above a_t_fraction_above_limb a_t_fraction_below a_t_fraction_below_limb t_now_clearness t_now_isKept t_now_floor_pillars t_now_floor_weavers t_now_floor_place t_now_floor_way t_now_floor_tell t_now_floor_look t_now_floor_farSquare t_now_sightings_many t_now_sightings_weaver t_now_sightings_second t_now_sightings_knew t_now_lexicon_words t_now_lexicon_rowLips t_now_lexicon_girlKnows t_now_lexicon_length t_now_lexicon_number t_now_lexicon_weight t_now_lexicon_leastLike t_now_lexicon_row t_now_level t_now_loss t_text_bytes t_text_items t_text_at t_text_token t_text_tokenAt t_text_tokenNumber t_fraction_above_limbs t_fraction_above_limb t_fraction_below_limbs t_fraction_below_limb)) rfl 21 rfl rfl rfl (As := [.long x1_4]) (rest := []) rfl rfl ⟨rfl, rfl, Nat.le_of_ble_eq_true rfl, Nat.le_of_ble_eq_true rfl⟩ (Nat.le_of_ble_eq_true rfl) (Nat.zero_le _) (Nat.zero_le _) dX11_digest_135 (fun H locs hW => ?_)
  clear hC15
  have hq := Option.some.inj hF
  subst hq
  exact hret _ _ _ _ hW dX11_digest_138
abbrev wd_R_in (E : m_E)   : va_W := []
def rm_R_in : Room := { frames := 0, cells := 0, slots := 0, locals := 0 }
set_option maxHeartbeats 4000000 in
set_option maxRecDepth 100000 in
theorem c_R_in (l : Launch) (E : m_E) (sz N : Nat)   (p1 : Int64) (p2 : Int64) (p3 : Int64) (ures : Int32) (hF : F_R_in p1 p2 p3 = ures) : m_Met l yX12_in cX12_in 6 (some .boolean) rm_R_in E (wd_R_in E) (wd_R_in E) sz [.long p1, .long p2, .long p3] (some (.int ures)) := by
  refine m_ofZ (by decide) (Nat.le_of_ble_eq_true rfl) ?_
  intro p e s m args below meth c A Q ls X hW hA hl hret
  obtain ⟨hx, hb, -, hown, hts, hK, -, hG⟩ := id X
  have hl : lv_has ls 6 [(0, .long p1), (2, .long p2), (4, .long p3)] := hl
  unfold F_R_in at hF
  refine lv_lload_n hx hb dX12_in_0 rfl (lv_at hl 0 rfl) ?_
  refine lv_lload_n hx hb dX12_in_1 rfl (lv_at hl 1 rfl) ?_
  refine W.lcmp hx hb dX12_in_2 ?_
  refine lv_if_lt (tgt := 17) hx hb dX12_in_3 (by decide) (fun c1 => ?_) (fun c1 => ?_)
  · have hF := if_y c1 hF
    refine lv_iconst (v := (0 : Int32)) hx hb dX12_in_17 (by decide) ?_
    have hq := hF
    subst hq
    exact hret _ _ _ _ _ rfl hW dX12_in_18
  · have hF := if_n c1 hF
    refine lv_lload_n hx hb dX12_in_6 rfl (lv_at hl 0 rfl) ?_
    refine lv_lload hx hb dX12_in_7 (lv_at hl 2 rfl) ?_
    refine W.lcmp hx hb dX12_in_9 ?_
    refine lv_if_gt (tgt := 17) hx hb dX12_in_10 (by decide) (fun c2 => ?_) (fun c2 => ?_)
    · have hF := if_y c2 hF
      refine lv_iconst (v := (0 : Int32)) hx hb dX12_in_17 (by decide) ?_
      have hq := hF
      subst hq
      exact hret _ _ _ _ _ rfl hW dX12_in_18
    · have hF := if_n c2 hF
      refine lv_iconst (v := (1 : Int32)) hx hb dX12_in_13 (by decide) ?_
      refine lv_goto (tgt := 18) hx hb dX12_in_14 (by decide) ?_
      have hq := hF
      subst hq
      exact hret _ _ _ _ _ rfl hW dX12_in_18
abbrev wd_R_begins (E : m_E) (a_t : Nat) (a_t_images : Nat) (a_t_kept : Nat) (a_t_aside : Nat) (a_t_limbs : Nat) (a_t_wide : Nat) (a_t_hears : Nat) (a_t_spies : Nat) (a_t_known : Nat) (a_t_by : Nat) (a_t_ways : Nat) (a_t_fewest : Nat) (a_t_heavy : Nat) (a_t_sums : Nat) (a_t_faces : Nat) (a_t_bestFaces : Nat) (a_t_text : Nat) (a_t_verbs : Nat) (a_t_many : Nat) (a_t_nums : Nat) (a_t_book : Nat) (t_typed : Int32) (t_at : Int32) (t_start : Int32) (t_token : Int32) (t_value : Int32) (t_items : Int32) (t_book : Nat → Int32) : va_W := [(a_t, .inr (12, [.ref a_t_book, .ref a_t_images, .ref a_t_kept, .ref a_t_aside, .ref a_t_limbs, .ref a_t_wide, .ref a_t_hears, .ref a_t_spies, .ref a_t_known, .ref a_t_by, .ref a_t_ways, .ref a_t_fewest, .ref a_t_heavy, .ref a_t_sums, .ref a_t_faces, .ref a_t_bestFaces, .ref a_t_text, .int t_typed, .int t_at, .int t_start, .int t_token, .int t_value, .ref a_t_verbs, .ref a_t_many, .ref a_t_nums, .int t_items])), (a_t_book, .inl (E.2.1 0, 240, .inl t_book))]
def rm_R_begins : Room := { frames := 0, cells := 0, slots := 0, locals := 0 }
set_option maxHeartbeats 4000000 in
set_option maxRecDepth 100000 in
theorem c_R_begins (l : Launch) (E : m_E) (sz N : Nat) (a_t : Nat) (a_t_images : Nat) (a_t_kept : Nat) (a_t_aside : Nat) (a_t_limbs : Nat) (a_t_wide : Nat) (a_t_hears : Nat) (a_t_spies : Nat) (a_t_known : Nat) (a_t_by : Nat) (a_t_ways : Nat) (a_t_fewest : Nat) (a_t_heavy : Nat) (a_t_sums : Nat) (a_t_faces : Nat) (a_t_bestFaces : Nat) (a_t_text : Nat) (a_t_verbs : Nat) (a_t_many : Nat) (a_t_nums : Nat) (a_t_book : Nat) (t_typed : Int32) (t_at : Int32) (t_start : Int32) (t_token : Int32) (t_value : Int32) (t_items : Int32) (t_book : Nat → Int32)  (ures : (Nat → Int32)) (hF : F_R_begins N t_book = some ures) : m_Met l yX12_begins cX12_begins 2 none rm_R_begins E (wd_R_begins E a_t a_t_images a_t_kept a_t_aside a_t_limbs a_t_wide a_t_hears a_t_spies a_t_known a_t_by a_t_ways a_t_fewest a_t_heavy a_t_sums a_t_faces a_t_bestFaces a_t_text a_t_verbs a_t_many a_t_nums a_t_book t_typed t_at t_start t_token t_value t_items t_book) (wd_R_begins E a_t a_t_images a_t_kept a_t_aside a_t_limbs a_t_wide a_t_hears a_t_spies a_t_known a_t_by a_t_ways a_t_fewest a_t_heavy a_t_sums a_t_faces a_t_bestFaces a_t_text a_t_verbs a_t_many a_t_nums a_t_book t_typed t_at t_start t_token t_value t_items ures) sz [.ref a_t] none := by
  refine m_ofV (by decide) (Nat.le_of_ble_eq_true rfl) ?_
  intro p e s m args below meth c A Q ls X hW hA hl hret
  obtain ⟨hx, hb, -, hown, hts, hK, -, hG⟩ := id X
  have hl : lv_has ls 2 [(0, .ref a_t)] := hl
  unfold F_R_begins at hF
  refine lv_iconst (v := (0 : Int32)) hx hb dX12_begins_0 (by decide) ?_
  refine lv_istore_n (lv' := [(1, .int (0 : Int32)), (0, .ref a_t)]) hx hb dX12_begins_1 rfl hl (by decide) rfl (fun ls hl => ?_)
  obtain ⟨t_book'_8, hX2, hF⟩ := bO_s1 hF
  have L1 : ∀ (k0 : Nat) (x1 : Int32) (t_book'_7 : Nat → Int32) (t_book'_8 : Nat → Int32) (H : Heap) (locs : List Loc) (ls : Array Slot), R_begins_L2  k0 x1 t_book'_7 = some t_book'_8 → m_H E A (wd_R_begins E a_t a_t_images a_t_kept a_t_aside a_t_limbs a_t_wide a_t_hears a_t_spies a_t_known a_t_by a_t_ways a_t_fewest a_t_heavy a_t_sums a_t_faces a_t_bestFaces a_t_text a_t_verbs a_t_many a_t_nums a_t_book t_typed t_at t_start t_token t_value t_items t_book'_7) s.heap H locs → lv_has ls 2 [(1, .int x1), (0, .ref a_t)] → (∀ (H : Heap) (locs : List Loc) (ls : Array Slot), m_H E A (wd_R_begins E a_t a_t_images a_t_kept a_t_aside a_t_limbs a_t_wide a_t_hears a_t_spies a_t_known a_t_by a_t_ways a_t_fewest a_t_heavy a_t_sums a_t_faces a_t_bestFaces a_t_text a_t_verbs a_t_many a_t_nums a_t_book t_typed t_at t_start t_token t_value t_items t_book'_8) s.heap H locs → lv_has ls 2 [(0, .ref a_t)] → W p l e rm_R_begins s m args below meth c H locs 0 0 Q (F0 m 20 ls [])) → W p l e rm_R_begins s m args below meth c H locs 0 0 Q (F0 m 2 ls []) := by
    clear hF
    intro k0
    induction k0 with
    | zero =>
      intro x1 t_book'_7 t_book'_8 H locs ls hF
      cases hF
    | succ k0 ih4 =>
      intro x1 t_book'_7 t_book'_8 H locs ls hF hW hl hk3
      rw [R_begins_L2] at hF
      refine lv_iload_n hx hb dX12_begins_2 rfl (lv_at hl 0 rfl) ?_
      refine lv_iconst (v := (5 : Int32)) hx hb dX12_begins_3 (by decide) ?_
      refine lv_icmp_ge (tgt := 20) hx hb dX12_begins_4 (by decide) (fun c5 => ?_) (fun c5 => ?_)
      · have hF := if_y c5 hF
        cases hF
        exact hk3 _ _ _ hW (lv_sub hl [1] rfl)
      · have hF := if_n c5 hF
        refine lv_aload_n hx hb dX12_begins_7 rfl (lv_at hl 1 rfl) ?_
        refine m_get X hW fdX12_7 0 rfl rfl dX12_begins_8 ?_
        refine lv_iload_n hx hb dX12_begins_11 rfl (lv_at hl 0 rfl) ?_
        refine lv_iconst (v := (0 : Int32)) hx hb dX12_begins_12 (by decide) ?_
        obtain ⟨g6, hF⟩ := gd_some hF
        refine m_iast X hW 1 (k := x1.toNatClampNeg) rfl g6 rfl dX12_begins_13 (ws' := (wd_R_begins E a_t a_t_images a_t_kept a_t_aside a_t_limbs a_t_wide a_t_hears a_t_spies a_t_known a_t_by a_t_ways a_t_fewest a_t_heavy a_t_sums a_t_faces a_t_bestFaces a_t_text a_t_verbs a_t_many a_t_nums a_t_book t_typed t_at t_start t_token t_value t_items (upd t_book'_7 x1.toNatClampNeg (0 : Int32)))) rfl (fun H locs hW => ?_)
        refine lv_iinc (v := (x1 + (1 : Int32))) (lv' := [(1, .int (x1 + (1 : Int32))), (0, .ref a_t)]) hx hb dX12_begins_14 hl (k := 0) rfl rfl (by decide) rfl (fun ls hl => ?_)
        refine lv_goto (tgt := 2) hx hb dX12_begins_17 (by decide) ?_
        exact ih4 (x1 + (1 : Int32)) (upd t_book'_7 x1.toNatClampNeg (0 : Int32)) t_book'_8 _ _ _ hF hW (lv_sub hl [0, 1] rfl) hk3
  refine L1 N (0 : Int32) t_book t_book'_8 _ _ _ hX2 hW (lv_sub hl [0, 1] rfl) ?_
  intro H locs ls hW hl
  clear L1
  refine lv_aload_n hx hb dX12_begins_20 rfl (lv_at hl 0 rfl) ?_
  refine m_get X hW fdX12_7 0 rfl rfl dX12_begins_21 ?_
  refine lv_bipush (v := (6 : Int32)) hx hb dX12_begins_24 (by decide) ?_
  refine lv_bipush (v := (18 : Int32)) hx hb dX12_begins_26 (by decide) ?_
  refine m_iast X hW 1 (k := 6) rfl (by decide) rfl dX12_begins_28 (ws' := (wd_R_begins E a_t a_t_images a_t_kept a_t_aside a_t_limbs a_t_wide a_t_hears a_t_spies a_t_known a_t_by a_t_ways a_t_fewest a_t_heavy a_t_sums a_t_faces a_t_bestFaces a_t_text a_t_verbs a_t_many a_t_nums a_t_book t_typed t_at t_start t_token t_value t_items (upd t_book'_8 6 (18 : Int32)))) rfl (fun H locs hW => ?_)
  refine lv_aload_n hx hb dX12_begins_29 rfl (lv_at hl 0 rfl) ?_
  refine m_get X hW fdX12_7 0 rfl rfl dX12_begins_30 ?_
  refine lv_bipush (v := (7 : Int32)) hx hb dX12_begins_33 (by decide) ?_
  refine lv_bipush (v := (50 : Int32)) hx hb dX12_begins_35 (by decide) ?_
  refine m_iast X hW 1 (k := 7) rfl (by decide) rfl dX12_begins_37 (ws' := (wd_R_begins E a_t a_t_images a_t_kept a_t_aside a_t_limbs a_t_wide a_t_hears a_t_spies a_t_known a_t_by a_t_ways a_t_fewest a_t_heavy a_t_sums a_t_faces a_t_bestFaces a_t_text a_t_verbs a_t_many a_t_nums a_t_book t_typed t_at t_start t_token t_value t_items (upd (upd t_book'_8 6 (18 : Int32)) 7 (50 : Int32)))) rfl (fun H locs hW => ?_)
  refine lv_aload_n hx hb dX12_begins_38 rfl (lv_at hl 0 rfl) ?_
  refine m_get X hW fdX12_7 0 rfl rfl dX12_begins_39 ?_
  refine lv_bipush (v := (9 : Int32)) hx hb dX12_begins_42 (by decide) ?_
  refine lv_iconst (v := (0 : Int32)) hx hb dX12_begins_44 (by decide) ?_
  refine m_iast X hW 1 (k := 9) rfl (by decide) rfl dX12_begins_45 (ws' := (wd_R_begins E a_t a_t_images a_t_kept a_t_aside a_t_limbs a_t_wide a_t_hears a_t_spies a_t_known a_t_by a_t_ways a_t_fewest a_t_heavy a_t_sums a_t_faces a_t_bestFaces a_t_text a_t_verbs a_t_many a_t_nums a_t_book t_typed t_at t_start t_token t_value t_items (upd (upd (upd t_book'_8 6 (18 : Int32)) 7 (50 : Int32)) 9 (0 : Int32)))) rfl (fun H locs hW => ?_)
  refine lv_iconst (v := (0 : Int32)) hx hb dX12_begins_46 (by decide) ?_
  refine lv_istore_n (lv' := [(1, .int (0 : Int32)), (0, .ref a_t)]) hx hb dX12_begins_47 rfl hl (by decide) rfl (fun ls hl => ?_)
  obtain ⟨t_book'_10, hX8, hF⟩ := bO_s1 hF
  have L7 : ∀ (k0 : Nat) (x1_2 : Int32) (t_book'_9 : Nat → Int32) (t_book'_10 : Nat → Int32) (H : Heap) (locs : List Loc) (ls : Array Slot), R_begins_L48  k0 x1_2 t_book'_9 = some t_book'_10 → m_H E A (wd_R_begins E a_t a_t_images a_t_kept a_t_aside a_t_limbs a_t_wide a_t_hears a_t_spies a_t_known a_t_by a_t_ways a_t_fewest a_t_heavy a_t_sums a_t_faces a_t_bestFaces a_t_text a_t_verbs a_t_many a_t_nums a_t_book t_typed t_at t_start t_token t_value t_items t_book'_9) s.heap H locs → lv_has ls 2 [(1, .int x1_2), (0, .ref a_t)] → (∀ (H : Heap) (locs : List Loc) (ls : Array Slot), m_H E A (wd_R_begins E a_t a_t_images a_t_kept a_t_aside a_t_limbs a_t_wide a_t_hears a_t_spies a_t_known a_t_by a_t_ways a_t_fewest a_t_heavy a_t_sums a_t_faces a_t_bestFaces a_t_text a_t_verbs a_t_many a_t_nums a_t_book t_typed t_at t_start t_token t_value t_items t_book'_10) s.heap H locs → lv_has ls 2 [(0, .ref a_t)] → W p l e rm_R_begins s m args below meth c H locs 0 0 Q (F0 m 70 ls [])) → W p l e rm_R_begins s m args below meth c H locs 0 0 Q (F0 m 48 ls []) := by
    clear hF
    intro k0
    induction k0 with
    | zero =>
      intro x1_2 t_book'_9 t_book'_10 H locs ls hF
      cases hF
    | succ k0 ih10 =>
      intro x1_2 t_book'_9 t_book'_10 H locs ls hF hW hl hk9
      rw [R_begins_L48] at hF
      refine lv_iload_n hx hb dX12_begins_48 rfl (lv_at hl 0 rfl) ?_
      refine lv_bipush (v := (64 : Int32)) hx hb dX12_begins_49 (by decide) ?_
      refine lv_icmp_ge (tgt := 70) hx hb dX12_begins_51 (by decide) (fun c11 => ?_) (fun c11 => ?_)
      · have hF := if_y c11 hF
        cases hF
        exact hk9 _ _ _ hW (lv_sub hl [1] rfl)
      · have hF := if_n c11 hF
        refine lv_aload_n hx hb dX12_begins_54 rfl (lv_at hl 1 rfl) ?_
        refine m_get X hW fdX12_7 0 rfl rfl dX12_begins_55 ?_
        refine lv_bipush (v := (10 : Int32)) hx hb dX12_begins_58 (by decide) ?_
        refine lv_iload_n hx hb dX12_begins_60 rfl (lv_at hl 0 rfl) ?_
        refine lv_iadd hx hb dX12_begins_61 ?_
        refine lv_iconst (v := (0 : Int32)) hx hb dX12_begins_62 (by decide) ?_
        obtain ⟨g12, hF⟩ := gd_some hF
        refine m_iast X hW 1 (k := ((10 : Int32) + x1_2).toNatClampNeg) rfl g12 rfl dX12_begins_63 (ws' := (wd_R_begins E a_t a_t_images a_t_kept a_t_aside a_t_limbs a_t_wide a_t_hears a_t_spies a_t_known a_t_by a_t_ways a_t_fewest a_t_heavy a_t_sums a_t_faces a_t_bestFaces a_t_text a_t_verbs a_t_many a_t_nums a_t_book t_typed t_at t_start t_token t_value t_items (upd t_book'_9 ((10 : Int32) + x1_2).toNatClampNeg (0 : Int32)))) rfl (fun H locs hW => ?_)
        refine lv_iinc (v := (x1_2 + (1 : Int32))) (lv' := [(1, .int (x1_2 + (1 : Int32))), (0, .ref a_t)]) hx hb dX12_begins_64 hl (k := 0) rfl rfl (by decide) rfl (fun ls hl => ?_)
        refine lv_goto (tgt := 48) hx hb dX12_begins_67 (by decide) ?_
        exact ih10 (x1_2 + (1 : Int32)) (upd t_book'_9 ((10 : Int32) + x1_2).toNatClampNeg (0 : Int32)) t_book'_10 _ _ _ hF hW (lv_sub hl [0, 1] rfl) hk9
  refine L7 N (0 : Int32) (upd (upd (upd t_book'_8 6 (18 : Int32)) 7 (50 : Int32)) 9 (0 : Int32)) t_book'_10 _ _ _ hX8 hW (lv_sub hl [0, 1] rfl) ?_
  intro H locs ls hW hl
  clear L7
  refine lv_iconst (v := (0 : Int32)) hx hb dX12_begins_70 (by decide) ?_
  refine lv_istore_n (lv' := [(1, .int (0 : Int32)), (0, .ref a_t)]) hx hb dX12_begins_71 rfl hl (by decide) rfl (fun ls hl => ?_)
  obtain ⟨t_book'_12, hX14, hF⟩ := bO_s1 hF
  have L13 : ∀ (k0 : Nat) (x1_3 : Int32) (t_book'_11 : Nat → Int32) (t_book'_12 : Nat → Int32) (H : Heap) (locs : List Loc) (ls : Array Slot), R_begins_L72  k0 x1_3 t_book'_11 = some t_book'_12 → m_H E A (wd_R_begins E a_t a_t_images a_t_kept a_t_aside a_t_limbs a_t_wide a_t_hears a_t_spies a_t_known a_t_by a_t_ways a_t_fewest a_t_heavy a_t_sums a_t_faces a_t_bestFaces a_t_text a_t_verbs a_t_many a_t_nums a_t_book t_typed t_at t_start t_token t_value t_items t_book'_11) s.heap H locs → lv_has ls 2 [(1, .int x1_3), (0, .ref a_t)] → (∀ (H : Heap) (locs : List Loc) (ls : Array Slot), m_H E A (wd_R_begins E a_t a_t_images a_t_kept a_t_aside a_t_limbs a_t_wide a_t_hears a_t_spies a_t_known a_t_by a_t_ways a_t_fewest a_t_heavy a_t_sums a_t_faces a_t_bestFaces a_t_text a_t_verbs a_t_many a_t_nums a_t_book t_typed t_at t_start t_token t_value t_items t_book'_12) s.heap H locs → lv_has ls 2 [] → W p l e rm_R_begins s m args below meth c H locs 0 0 Q (F0 m 95 ls [])) → W p l e rm_R_begins s m args below meth c H locs 0 0 Q (F0 m 72 ls []) := by
    clear hF
    intro k0
    induction k0 with
    | zero =>
      intro x1_3 t_book'_11 t_book'_12 H locs ls hF
      cases hF
    | succ k0 ih16 =>
      intro x1_3 t_book'_11 t_book'_12 H locs ls hF hW hl hk15
      rw [R_begins_L72] at hF
      refine lv_iload_n hx hb dX12_begins_72 rfl (lv_at hl 0 rfl) ?_
      refine lv_bipush (v := (6 : Int32)) hx hb dX12_begins_73 (by decide) ?_
      refine lv_icmp_ge (tgt := 95) hx hb dX12_begins_75 (by decide) (fun c17 => ?_) (fun c17 => ?_)
      · have hF := if_y c17 hF
        cases hF
        exact hk15 _ _ _ hW (lv_sub hl [] rfl)
      · have hF := if_n c17 hF
        refine lv_aload_n hx hb dX12_begins_78 rfl (lv_at hl 1 rfl) ?_
        refine m_get X hW fdX12_7 0 rfl rfl dX12_begins_79 ?_
        refine lv_sipush (v := (150 : Int32)) hx hb dX12_begins_82 (by decide) ?_
        refine lv_iload_n hx hb dX12_begins_85 rfl (lv_at hl 0 rfl) ?_
        refine lv_iadd hx hb dX12_begins_86 ?_
        refine lv_iload_n hx hb dX12_begins_87 rfl (lv_at hl 0 rfl) ?_
        obtain ⟨g18, hF⟩ := gd_some hF
        refine m_iast X hW 1 (k := ((150 : Int32) + x1_3).toNatClampNeg) rfl g18 rfl dX12_begins_88 (ws' := (wd_R_begins E a_t a_t_images a_t_kept a_t_aside a_t_limbs a_t_wide a_t_hears a_t_spies a_t_known a_t_by a_t_ways a_t_fewest a_t_heavy a_t_sums a_t_faces a_t_bestFaces a_t_text a_t_verbs a_t_many a_t_nums a_t_book t_typed t_at t_start t_token t_value t_items (upd t_book'_11 ((150 : Int32) + x1_3).toNatClampNeg x1_3))) rfl (fun H locs hW => ?_)
        refine lv_iinc (v := (x1_3 + (1 : Int32))) (lv' := [(1, .int (x1_3 + (1 : Int32))), (0, .ref a_t)]) hx hb dX12_begins_89 hl (k := 0) rfl rfl (by decide) rfl (fun ls hl => ?_)
        refine lv_goto (tgt := 72) hx hb dX12_begins_92 (by decide) ?_
        exact ih16 (x1_3 + (1 : Int32)) (upd t_book'_11 ((150 : Int32) + x1_3).toNatClampNeg x1_3) t_book'_12 _ _ _ hF hW (lv_sub hl [0, 1] rfl) hk15
  refine L13 N (0 : Int32) t_book'_10 t_book'_12 _ _ _ hX14 hW (lv_sub hl [0, 1] rfl) ?_
  intro H locs ls hW hl
  clear L13
  have hq := Option.some.inj hF
  subst hq
  exact hret _ _ _ _ hW dX12_begins_95
abbrev wd_R_trims (E : m_E) (a_t : Nat) (a_t_book : Nat) (a_t_images : Nat) (a_t_kept : Nat) (a_t_aside : Nat) (a_t_hears : Nat) (a_t_spies : Nat) (a_t_known : Nat) (a_t_by : Nat) (a_t_ways : Nat) (a_t_fewest : Nat) (a_t_heavy : Nat) (a_t_sums : Nat) (a_t_faces : Nat) (a_t_bestFaces : Nat) (a_t_text : Nat) (a_t_verbs : Nat) (a_t_many : Nat) (a_t_nums : Nat) (a_t_limbs : Nat) (a_t_wide : Nat) (t_typed : Int32) (t_at : Int32) (t_start : Int32) (t_token : Int32) (t_value : Int32) (t_items : Int32) (t_limbs : Nat → Int32) (t_wide : Nat → Int32) : va_W := [(a_t, .inr (12, [.ref a_t_book, .ref a_t_images, .ref a_t_kept, .ref a_t_aside, .ref a_t_limbs, .ref a_t_wide, .ref a_t_hears, .ref a_t_spies, .ref a_t_known, .ref a_t_by, .ref a_t_ways, .ref a_t_fewest, .ref a_t_heavy, .ref a_t_sums, .ref a_t_faces, .ref a_t_bestFaces, .ref a_t_text, .int t_typed, .int t_at, .int t_start, .int t_token, .int t_value, .ref a_t_verbs, .ref a_t_many, .ref a_t_nums, .int t_items])), (a_t_limbs, .inl (E.2.1 0, 1680, .inl t_limbs)), (a_t_wide, .inl (E.2.1 0, 28, .inl t_wide))]
def rm_R_trims : Room := { frames := 0, cells := 0, slots := 0, locals := 0 }
set_option maxHeartbeats 4000000 in
set_option maxRecDepth 100000 in
theorem c_R_trims (l : Launch) (E : m_E) (sz N : Nat) (a_t : Nat) (a_t_book : Nat) (a_t_images : Nat) (a_t_kept : Nat) (a_t_aside : Nat) (a_t_hears : Nat) (a_t_spies : Nat) (a_t_known : Nat) (a_t_by : Nat) (a_t_ways : Nat) (a_t_fewest : Nat) (a_t_heavy : Nat) (a_t_sums : Nat) (a_t_faces : Nat) (a_t_bestFaces : Nat) (a_t_text : Nat) (a_t_verbs : Nat) (a_t_many : Nat) (a_t_nums : Nat) (a_t_limbs : Nat) (a_t_wide : Nat) (t_typed : Int32) (t_at : Int32) (t_start : Int32) (t_token : Int32) (t_value : Int32) (t_items : Int32) (t_limbs : Nat → Int32) (t_wide : Nat → Int32) (p1 : Int32) (ures : (Nat → Int32)) (hF : F_R_trims N p1 t_limbs t_wide = some ures) : m_Met l yX12_trims cX12_trims 2 none rm_R_trims E (wd_R_trims E a_t a_t_book a_t_images a_t_kept a_t_aside a_t_hears a_t_spies a_t_known a_t_by a_t_ways a_t_fewest a_t_heavy a_t_sums a_t_faces a_t_bestFaces a_t_text a_t_verbs a_t_many a_t_nums a_t_limbs a_t_wide t_typed t_at t_start t_token t_value t_items t_limbs t_wide) (wd_R_trims E a_t a_t_book a_t_images a_t_kept a_t_aside a_t_hears a_t_spies a_t_known a_t_by a_t_ways a_t_fewest a_t_heavy a_t_sums a_t_faces a_t_bestFaces a_t_text a_t_verbs a_t_many a_t_nums a_t_limbs a_t_wide t_typed t_at t_start t_token t_value t_items t_limbs ures) sz [.ref a_t, .int p1] none := by
  refine m_ofV (by decide) (Nat.le_of_ble_eq_true rfl) ?_
  intro p e s m args below meth c A Q ls X hW hA hl hret
  obtain ⟨hx, hb, -, hown, hts, hK, -, hG⟩ := id X
  have hl : lv_has ls 2 [(0, .ref a_t), (1, .int p1)] := hl
  unfold F_R_trims at hF
  obtain ⟨t_wide'_4, hX2, hF⟩ := bO_s1 hF
  have L1 : ∀ (k0 : Nat) (t_wide'_3 : Nat → Int32) (t_wide'_4 : Nat → Int32) (H : Heap) (locs : List Loc) (ls : Array Slot), R_trims_L0 p1 t_limbs k0 t_wide'_3 = some t_wide'_4 → m_H E A (wd_R_trims E a_t a_t_book a_t_images a_t_kept a_t_aside a_t_hears a_t_spies a_t_known a_t_by a_t_ways a_t_fewest a_t_heavy a_t_sums a_t_faces a_t_bestFaces a_t_text a_t_verbs a_t_many a_t_nums a_t_limbs a_t_wide t_typed t_at t_start t_token t_value t_items t_limbs t_wide'_3) s.heap H locs → lv_has ls 2 [(0, .ref a_t), (1, .int p1)] → (∀ (H : Heap) (locs : List Loc) (ls : Array Slot), m_H E A (wd_R_trims E a_t a_t_book a_t_images a_t_kept a_t_aside a_t_hears a_t_spies a_t_known a_t_by a_t_ways a_t_fewest a_t_heavy a_t_sums a_t_faces a_t_bestFaces a_t_text a_t_verbs a_t_many a_t_nums a_t_limbs a_t_wide t_typed t_at t_start t_token t_value t_items t_limbs t_wide'_4) s.heap H locs → lv_has ls 2 [] → W p l e rm_R_trims s m args below meth c H locs 0 0 Q (F0 m 43 ls [])) → W p l e rm_R_trims s m args below meth c H locs 0 0 Q (F0 m 0 ls []) := by
    clear hF
    intro k0
    induction k0 with
    | zero =>
      intro t_wide'_3 t_wide'_4 H locs ls hF
      cases hF
    | succ k0 ih4 =>
      intro t_wide'_3 t_wide'_4 H locs ls hF hW hl hk3
      rw [R_trims_L0] at hF
      refine lv_aload_n hx hb dX12_trims_0 rfl (lv_at hl 0 rfl) ?_
      refine m_get X hW fdX12_26 0 rfl rfl dX12_trims_1 ?_
      refine lv_iload_n hx hb dX12_trims_4 rfl (lv_at hl 1 rfl) ?_
      obtain ⟨g5, hF⟩ := gd_some hF
      refine m_iald X hW 2 (k := p1.toNatClampNeg) rfl g5 rfl dX12_trims_5 ?_
      refine lv_if_le (tgt := 43) hx hb dX12_trims_6 (by decide) (fun c6 => ?_) (fun c6 => ?_)
      · have hF := if_y c6 hF
        cases hF
        exact hk3 _ _ _ hW (lv_sub hl [] rfl)
      · have hF := if_n c6 hF
        refine lv_aload_n hx hb dX12_trims_9 rfl (lv_at hl 0 rfl) ?_
        refine m_get X hW fdX12_23 0 rfl rfl dX12_trims_10 ?_
        refine lv_bipush (v := (60 : Int32)) hx hb dX12_trims_13 (by decide) ?_
        refine lv_iload_n hx hb dX12_trims_15 rfl (lv_at hl 1 rfl) ?_
        refine lv_imul hx hb dX12_trims_16 ?_
        refine lv_aload_n hx hb dX12_trims_17 rfl (lv_at hl 0 rfl) ?_
        refine m_get X hW fdX12_26 0 rfl rfl dX12_trims_18 ?_
        refine lv_iload_n hx hb dX12_trims_21 rfl (lv_at hl 1 rfl) ?_
        refine m_iald X hW 2 (k := p1.toNatClampNeg) rfl g5 rfl dX12_trims_22 ?_
        refine lv_iadd hx hb dX12_trims_23 ?_
        refine lv_iconst (v := (1 : Int32)) hx hb dX12_trims_24 (by decide) ?_
        refine lv_isub hx hb dX12_trims_25 ?_
        obtain ⟨g7, hF⟩ := gd_some hF
        refine m_iald X hW 1 (k := ((((60 : Int32) * p1) + (t_wide'_3 p1.toNatClampNeg)) - (1 : Int32)).toNatClampNeg) rfl g7 rfl dX12_trims_26 ?_
        refine lv_if_ne (tgt := 43) hx hb dX12_trims_27 (by decide) (fun c8 => ?_) (fun c8 => ?_)
        · have hF := if_n c8 hF
          cases hF
          exact hk3 _ _ _ hW (lv_sub hl [] rfl)
        · have hF := if_y c8 hF
          refine lv_aload_n hx hb dX12_trims_30 rfl (lv_at hl 0 rfl) ?_
          refine m_get X hW fdX12_26 0 rfl rfl dX12_trims_31 ?_
          refine lv_iload_n hx hb dX12_trims_34 rfl (lv_at hl 1 rfl) ?_
          refine lv_dup2_11 hx hb dX12_trims_35 rfl rfl ?_
          refine m_iald X hW 2 (k := p1.toNatClampNeg) rfl g5 rfl dX12_trims_36 ?_
          refine lv_iconst (v := (1 : Int32)) hx hb dX12_trims_37 (by decide) ?_
          refine lv_isub hx hb dX12_trims_38 ?_
          refine m_iast X hW 2 (k := p1.toNatClampNeg) rfl g5 rfl dX12_trims_39 (ws' := (wd_R_trims E a_t a_t_book a_t_images a_t_kept a_t_aside a_t_hears a_t_spies a_t_known a_t_by a_t_ways a_t_fewest a_t_heavy a_t_sums a_t_faces a_t_bestFaces a_t_text a_t_verbs a_t_many a_t_nums a_t_limbs a_t_wide t_typed t_at t_start t_token t_value t_items t_limbs (upd t_wide'_3 p1.toNatClampNeg ((t_wide'_3 p1.toNatClampNeg) - (1 : Int32))))) rfl (fun H locs hW => ?_)
          refine lv_goto (tgt := 0) hx hb dX12_trims_40 (by decide) ?_
          exact ih4 (upd t_wide'_3 p1.toNatClampNeg ((t_wide'_3 p1.toNatClampNeg) - (1 : Int32))) t_wide'_4 _ _ _ hF hW (lv_sub hl [0, 1] rfl) hk3
  refine L1 N t_wide t_wide'_4 _ _ _ hX2 hW (lv_sub hl [0, 1] rfl) ?_
  intro H locs ls hW hl
  clear L1
  have hq := Option.some.inj hF
  subst hq
  exact hret _ _ _ _ hW dX12_trims_43
abbrev wd_R_sets (E : m_E) (a_t : Nat) (a_t_book : Nat) (a_t_images : Nat) (a_t_kept : Nat) (a_t_aside : Nat) (a_t_hears : Nat) (a_t_spies : Nat) (a_t_known : Nat) (a_t_by : Nat) (a_t_ways : Nat) (a_t_fewest : Nat) (a_t_heavy : Nat) (a_t_sums : Nat) (a_t_faces : Nat) (a_t_bestFaces : Nat) (a_t_text : Nat) (a_t_verbs : Nat) (a_t_many : Nat) (a_t_nums : Nat) (a_t_limbs : Nat) (a_t_wide : Nat) (t_typed : Int32) (t_at : Int32) (t_start : Int32) (t_token : Int32) (t_value : Int32) (t_items : Int32) (t_limbs : Nat → Int32) (t_wide : Nat → Int32) : va_W := [(a_t, .inr (12, [.ref a_t_book, .ref a_t_images, .ref a_t_kept, .ref a_t_aside, .ref a_t_limbs, .ref a_t_wide, .ref a_t_hears, .ref a_t_spies, .ref a_t_known, .ref a_t_by, .ref a_t_ways, .ref a_t_fewest, .ref a_t_heavy, .ref a_t_sums, .ref a_t_faces, .ref a_t_bestFaces, .ref a_t_text, .int t_typed, .int t_at, .int t_start, .int t_token, .int t_value, .ref a_t_verbs, .ref a_t_many, .ref a_t_nums, .int t_items])), (a_t_limbs, .inl (E.2.1 0, 1680, .inl t_limbs)), (a_t_wide, .inl (E.2.1 0, 28, .inl t_wide))]
def rm_R_sets : Room := { frames := 1, cells := 0, slots := 0, locals := 21 }
set_option maxHeartbeats 4000000 in
set_option maxRecDepth 100000 in
theorem c_R_sets (l : Launch) (E : m_E) (sz N : Nat) (a_t : Nat) (a_t_book : Nat) (a_t_images : Nat) (a_t_kept : Nat) (a_t_aside : Nat) (a_t_hears : Nat) (a_t_spies : Nat) (a_t_known : Nat) (a_t_by : Nat) (a_t_ways : Nat) (a_t_fewest : Nat) (a_t_heavy : Nat) (a_t_sums : Nat) (a_t_faces : Nat) (a_t_bestFaces : Nat) (a_t_text : Nat) (a_t_verbs : Nat) (a_t_many : Nat) (a_t_nums : Nat) (a_t_limbs : Nat) (a_t_wide : Nat) (t_typed : Int32) (t_at : Int32) (t_start : Int32) (t_token : Int32) (t_value : Int32) (t_items : Int32) (t_limbs : Nat → Int32) (t_wide : Nat → Int32) (p1 : Int32) (p2 : Int64) (ures : (Nat → Int32) × (Nat → Int32)) (hF : F_R_sets N p1 p2 t_limbs t_wide = some ures) : m_Met l yX12_sets cX12_sets 5 none rm_R_sets E (wd_R_sets E a_t a_t_book a_t_images a_t_kept a_t_aside a_t_hears a_t_spies a_t_known a_t_by a_t_ways a_t_fewest a_t_heavy a_t_sums a_t_faces a_t_bestFaces a_t_text a_t_verbs a_t_many a_t_nums a_t_limbs a_t_wide t_typed t_at t_start t_token t_value t_items t_limbs t_wide) (wd_R_sets E a_t a_t_book a_t_images a_t_kept a_t_aside a_t_hears a_t_spies a_t_known a_t_by a_t_ways a_t_fewest a_t_heavy a_t_sums a_t_faces a_t_bestFaces a_t_text a_t_verbs a_t_many a_t_nums a_t_limbs a_t_wide t_typed t_at t_start t_token t_value t_items ures.1 ures.2) sz [.ref a_t, .int p1, .long p2] none := by
  refine m_ofV (by decide) (Nat.le_of_ble_eq_true rfl) ?_
  intro p e s m args below meth c A Q ls X hW hA hl hret
  obtain ⟨hx, hb, -, hown, hts, hK, -, hG⟩ := id X
  have hl : lv_has ls 5 [(0, .ref a_t), (1, .int p1), (2, .long p2)] := hl
  unfold F_R_sets at hF
  refine lv_iconst (v := (0 : Int32)) hx hb dX12_sets_0 (by decide) ?_
  refine lv_istore (lv' := [(4, .int (0 : Int32)), (0, .ref a_t), (1, .int p1), (2, .long p2)]) hx hb dX12_sets_1 hl (by decide) rfl (fun ls hl => ?_)
  obtain ⟨t_limbs'_4, hX2, hF⟩ := bO_s1 hF
  have L1 : ∀ (k0 : Nat) (x4 : Int32) (t_limbs'_3 : Nat → Int32) (t_limbs'_4 : Nat → Int32) (H : Heap) (locs : List Loc) (ls : Array Slot), R_sets_L3 p1 p2 k0 x4 t_limbs'_3 = some t_limbs'_4 → m_H E A (wd_R_sets E a_t a_t_book a_t_images a_t_kept a_t_aside a_t_hears a_t_spies a_t_known a_t_by a_t_ways a_t_fewest a_t_heavy a_t_sums a_t_faces a_t_bestFaces a_t_text a_t_verbs a_t_many a_t_nums a_t_limbs a_t_wide t_typed t_at t_start t_token t_value t_items t_limbs'_3 t_wide) s.heap H locs → lv_has ls 5 [(4, .int x4), (0, .ref a_t), (1, .int p1), (2, .long p2)] → (∀ (H : Heap) (locs : List Loc) (ls : Array Slot), m_H E A (wd_R_sets E a_t a_t_book a_t_images a_t_kept a_t_aside a_t_hears a_t_spies a_t_known a_t_by a_t_ways a_t_fewest a_t_heavy a_t_sums a_t_faces a_t_bestFaces a_t_text a_t_verbs a_t_many a_t_nums a_t_limbs a_t_wide t_typed t_at t_start t_token t_value t_items t_limbs'_4 t_wide) s.heap H locs → lv_has ls 5 [(0, .ref a_t), (1, .int p1)] → W p l e rm_R_sets s m args below meth c H locs 0 0 Q (F0 m 50 ls [])) → W p l e rm_R_sets s m args below meth c H locs 0 0 Q (F0 m 3 ls []) := by
    clear hF
    intro k0
    induction k0 with
    | zero =>
      intro x4 t_limbs'_3 t_limbs'_4 H locs ls hF
      cases hF
    | succ k0 ih4 =>
      intro x4 t_limbs'_3 t_limbs'_4 H locs ls hF hW hl hk3
      rw [R_sets_L3] at hF
      refine lv_iload hx hb dX12_sets_3 (lv_at hl 0 rfl) ?_
      refine lv_bipush (v := (60 : Int32)) hx hb dX12_sets_5 (by decide) ?_
      refine lv_icmp_ge (tgt := 50) hx hb dX12_sets_7 (by decide) (fun c5 => ?_) (fun c5 => ?_)
      · have hF := if_y c5 hF
        cases hF
        exact hk3 _ _ _ hW (lv_sub hl [1, 2] rfl)
      · have hF := if_n c5 hF
        refine lv_aload_n hx hb dX12_sets_10 rfl (lv_at hl 1 rfl) ?_
        refine m_get X hW fdX12_23 0 rfl rfl dX12_sets_11 ?_
        refine lv_bipush (v := (60 : Int32)) hx hb dX12_sets_14 (by decide) ?_
        refine lv_iload_n hx hb dX12_sets_16 rfl (lv_at hl 2 rfl) ?_
        refine lv_imul hx hb dX12_sets_17 ?_
        refine lv_iload hx hb dX12_sets_18 (lv_at hl 0 rfl) ?_
        refine lv_iadd hx hb dX12_sets_20 ?_
        refine lv_iload hx hb dX12_sets_21 (lv_at hl 0 rfl) ?_
        refine lv_iconst (v := (3 : Int32)) hx hb dX12_sets_23 (by decide) ?_
        refine lv_icmp_ge (tgt := 42) hx hb dX12_sets_24 (by decide) (fun c6 => ?_) (fun c6 => ?_)
        · have hF := if_y c6 hF
          refine lv_iconst (v := (0 : Int32)) hx hb dX12_sets_42 (by decide) ?_
          obtain ⟨g7, hF⟩ := gd_some hF
          refine m_iast X hW 1 (k := (((60 : Int32) * p1) + x4).toNatClampNeg) rfl g7 rfl dX12_sets_43 (ws' := (wd_R_sets E a_t a_t_book a_t_images a_t_kept a_t_aside a_t_hears a_t_spies a_t_known a_t_by a_t_ways a_t_fewest a_t_heavy a_t_sums a_t_faces a_t_bestFaces a_t_text a_t_verbs a_t_many a_t_nums a_t_limbs a_t_wide t_typed t_at t_start t_token t_value t_items (upd t_limbs'_3 (((60 : Int32) * p1) + x4).toNatClampNeg (0 : Int32)) t_wide)) rfl (fun H locs hW => ?_)
          refine lv_iinc (v := (x4 + (1 : Int32))) (lv' := [(4, .int (x4 + (1 : Int32))), (0, .ref a_t), (1, .int p1), (2, .long p2)]) hx hb dX12_sets_44 hl (k := 0) rfl rfl (by decide) rfl (fun ls hl => ?_)
          refine lv_goto (tgt := 3) hx hb dX12_sets_47 (by decide) ?_
          exact ih4 (x4 + (1 : Int32)) (upd t_limbs'_3 (((60 : Int32) * p1) + x4).toNatClampNeg (0 : Int32)) t_limbs'_4 _ _ _ hF hW (lv_sub hl [0, 1, 2, 3] rfl) hk3
        · have hF := if_n c6 hF
          refine lv_lload_n hx hb dX12_sets_27 rfl (lv_at hl 3 rfl) ?_
          refine lv_bipush (v := (30 : Int32)) hx hb dX12_sets_28 (by decide) ?_
          refine lv_iload hx hb dX12_sets_30 (lv_at hl 0 rfl) ?_
          refine lv_imul hx hb dX12_sets_32 ?_
          refine m_lshr hx hb dX12_sets_33 ?_
          refine lv_ldc2 (v := (1073741823 : Int64)) hx hb hown (hts _ wk_1119) dX12_sets_34 ?_
          refine lv_land hx hb dX12_sets_37 ?_
          refine lv_l2i (v := ((jshrL p2 ((30 : Int32) * x4)) &&& (1073741823 : Int64)).toInt32) hx hb dX12_sets_38 rfl ?_
          refine lv_goto (tgt := 43) hx hb dX12_sets_39 (by decide) ?_
          obtain ⟨g8, hF⟩ := gd_some hF
          refine m_iast X hW 1 (k := (((60 : Int32) * p1) + x4).toNatClampNeg) rfl g8 rfl dX12_sets_43 (ws' := (wd_R_sets E a_t a_t_book a_t_images a_t_kept a_t_aside a_t_hears a_t_spies a_t_known a_t_by a_t_ways a_t_fewest a_t_heavy a_t_sums a_t_faces a_t_bestFaces a_t_text a_t_verbs a_t_many a_t_nums a_t_limbs a_t_wide t_typed t_at t_start t_token t_value t_items (upd t_limbs'_3 (((60 : Int32) * p1) + x4).toNatClampNeg ((jshrL p2 ((30 : Int32) * x4)) &&& (1073741823 : Int64)).toInt32) t_wide)) rfl (fun H locs hW => ?_)
          refine lv_iinc (v := (x4 + (1 : Int32))) (lv' := [(4, .int (x4 + (1 : Int32))), (0, .ref a_t), (1, .int p1), (2, .long p2)]) hx hb dX12_sets_44 hl (k := 0) rfl rfl (by decide) rfl (fun ls hl => ?_)
          refine lv_goto (tgt := 3) hx hb dX12_sets_47 (by decide) ?_
          exact ih4 (x4 + (1 : Int32)) (upd t_limbs'_3 (((60 : Int32) * p1) + x4).toNatClampNeg ((jshrL p2 ((30 : Int32) * x4)) &&& (1073741823 : Int64)).toInt32) t_limbs'_4 _ _ _ hF hW (lv_sub hl [0, 1, 2, 3] rfl) hk3
  refine L1 N (0 : Int32) t_limbs t_limbs'_4 _ _ _ hX2 hW (lv_sub hl [0, 1, 2, 3] rfl) ?_
  intro H locs ls hW hl
  clear L1
  refine lv_aload_n hx hb dX12_sets_50 rfl (lv_at hl 0 rfl) ?_
  refine m_get X hW fdX12_26 0 rfl rfl dX12_sets_51 ?_
  refine lv_iload_n hx hb dX12_sets_54 rfl (lv_at hl 1 rfl) ?_
  refine lv_iconst (v := (3 : Int32)) hx hb dX12_sets_55 (by decide) ?_
  obtain ⟨g9, hF⟩ := gd_some hF
  refine m_iast X hW 2 (k := p1.toNatClampNeg) rfl g9 rfl dX12_sets_56 (ws' := (wd_R_sets E a_t a_t_book a_t_images a_t_kept a_t_aside a_t_hears a_t_spies a_t_known a_t_by a_t_ways a_t_fewest a_t_heavy a_t_sums a_t_faces a_t_bestFaces a_t_text a_t_verbs a_t_many a_t_nums a_t_limbs a_t_wide t_typed t_at t_start t_token t_value t_items t_limbs'_4 (upd t_wide p1.toNatClampNeg (3 : Int32)))) rfl (fun H locs hW => ?_)
  refine lv_aload_n hx hb dX12_sets_57 rfl (lv_at hl 0 rfl) ?_
  refine lv_iload_n hx hb dX12_sets_58 rfl (lv_at hl 1 rfl) ?_
  obtain ⟨t_wide'_2, hC10, hF⟩ := bO_s1 hF
  refine m_callV X hW hA hl.1 lkX12_80 (c_R_trims l E _ N a_t a_t_book a_t_images a_t_kept a_t_aside a_t_hears a_t_spies a_t_known a_t_by a_t_ways a_t_fewest a_t_heavy a_t_sums a_t_faces a_t_bestFaces a_t_text a_t_verbs a_t_many a_t_nums a_t_limbs a_t_wide t_typed t_at t_start t_token t_value t_items t_limbs'_4 (upd t_wide p1.toNatClampNeg (3 : Int32)) p1 t_wide'_2 hC10) [0, 1, 2] (by decide) rfl rfl (ws' := (wd_R_sets E a_t a_t_book a_t_images a_t_kept a_t_aside a_t_hears a_t_spies a_t_known a_t_by a_t_ways a_t_fewest a_t_heavy a_t_sums a_t_faces a_t_bestFaces a_t_text a_t_verbs a_t_many a_t_nums a_t_limbs a_t_wide t_typed t_at t_start t_token t_value t_items t_limbs'_4 t_wide'_2)) rfl 0 rfl rfl rfl (As := [.int p1]) (rest := []) rfl rfl ⟨rfl, rfl, Nat.le_of_ble_eq_true rfl, Nat.le_of_ble_eq_true rfl⟩ (Nat.le_of_ble_eq_true rfl) (Nat.zero_le _) (Nat.zero_le _) dX12_sets_59 (fun H locs hW => ?_)
  clear hC10
  have hq := Option.some.inj hF
  subst hq
  exact hret _ _ _ _ hW dX12_sets_62
abbrev wd_R_takes (E : m_E) (a_t : Nat) (a_t_book : Nat) (a_t_images : Nat) (a_t_kept : Nat) (a_t_aside : Nat) (a_t_hears : Nat) (a_t_spies : Nat) (a_t_known : Nat) (a_t_by : Nat) (a_t_ways : Nat) (a_t_fewest : Nat) (a_t_heavy : Nat) (a_t_sums : Nat) (a_t_faces : Nat) (a_t_bestFaces : Nat) (a_t_text : Nat) (a_t_verbs : Nat) (a_t_many : Nat) (a_t_nums : Nat) (a_t_limbs : Nat) (a_t_wide : Nat) (t_typed : Int32) (t_at : Int32) (t_start : Int32) (t_token : Int32) (t_value : Int32) (t_items : Int32) (t_limbs : Nat → Int32) (t_wide : Nat → Int32) : va_W := [(a_t, .inr (12, [.ref a_t_book, .ref a_t_images, .ref a_t_kept, .ref a_t_aside, .ref a_t_limbs, .ref a_t_wide, .ref a_t_hears, .ref a_t_spies, .ref a_t_known, .ref a_t_by, .ref a_t_ways, .ref a_t_fewest, .ref a_t_heavy, .ref a_t_sums, .ref a_t_faces, .ref a_t_bestFaces, .ref a_t_text, .int t_typed, .int t_at, .int t_start, .int t_token, .int t_value, .ref a_t_verbs, .ref a_t_many, .ref a_t_nums, .int t_items])), (a_t_limbs, .inl (E.2.1 0, 1680, .inl t_limbs)), (a_t_wide, .inl (E.2.1 0, 28, .inl t_wide))]
def rm_R_takes : Room := { frames := 0, cells := 0, slots := 0, locals := 0 }
set_option maxHeartbeats 4000000 in
set_option maxRecDepth 100000 in
theorem c_R_takes (l : Launch) (E : m_E) (sz N : Nat) (a_t : Nat) (a_t_book : Nat) (a_t_images : Nat) (a_t_kept : Nat) (a_t_aside : Nat) (a_t_hears : Nat) (a_t_spies : Nat) (a_t_known : Nat) (a_t_by : Nat) (a_t_ways : Nat) (a_t_fewest : Nat) (a_t_heavy : Nat) (a_t_sums : Nat) (a_t_faces : Nat) (a_t_bestFaces : Nat) (a_t_text : Nat) (a_t_verbs : Nat) (a_t_many : Nat) (a_t_nums : Nat) (a_t_limbs : Nat) (a_t_wide : Nat) (t_typed : Int32) (t_at : Int32) (t_start : Int32) (t_token : Int32) (t_value : Int32) (t_items : Int32) (t_limbs : Nat → Int32) (t_wide : Nat → Int32) (p1 : Int32) (p2 : Int32) (ures : (Nat → Int32) × (Nat → Int32)) (hF : F_R_takes N p1 p2 t_limbs t_wide = some ures) : m_Met l yX12_takes cX12_takes 4 none rm_R_takes E (wd_R_takes E a_t a_t_book a_t_images a_t_kept a_t_aside a_t_hears a_t_spies a_t_known a_t_by a_t_ways a_t_fewest a_t_heavy a_t_sums a_t_faces a_t_bestFaces a_t_text a_t_verbs a_t_many a_t_nums a_t_limbs a_t_wide t_typed t_at t_start t_token t_value t_items t_limbs t_wide) (wd_R_takes E a_t a_t_book a_t_images a_t_kept a_t_aside a_t_hears a_t_spies a_t_known a_t_by a_t_ways a_t_fewest a_t_heavy a_t_sums a_t_faces a_t_bestFaces a_t_text a_t_verbs a_t_many a_t_nums a_t_limbs a_t_wide t_typed t_at t_start t_token t_value t_items ures.1 ures.2) sz [.ref a_t, .int p1, .int p2] none := by
  refine m_ofV (by decide) (Nat.le_of_ble_eq_true rfl) ?_
  intro p e s m args below meth c A Q ls X hW hA hl hret
  obtain ⟨hx, hb, -, hown, hts, hK, -, hG⟩ := id X
  have hl : lv_has ls 4 [(0, .ref a_t), (1, .int p1), (2, .int p2)] := hl
  unfold F_R_takes at hF
  refine lv_iconst (v := (0 : Int32)) hx hb dX12_takes_0 (by decide) ?_
  refine lv_istore_n (lv' := [(3, .int (0 : Int32)), (0, .ref a_t), (1, .int p1), (2, .int p2)]) hx hb dX12_takes_1 rfl hl (by decide) rfl (fun ls hl => ?_)
  obtain ⟨t_limbs'_4, hX2, hF⟩ := bO_s1 hF
  have L1 : ∀ (k0 : Nat) (x3 : Int32) (t_limbs'_3 : Nat → Int32) (t_limbs'_4 : Nat → Int32) (H : Heap) (locs : List Loc) (ls : Array Slot), R_takes_L2 p2 p1 k0 x3 t_limbs'_3 = some t_limbs'_4 → m_H E A (wd_R_takes E a_t a_t_book a_t_images a_t_kept a_t_aside a_t_hears a_t_spies a_t_known a_t_by a_t_ways a_t_fewest a_t_heavy a_t_sums a_t_faces a_t_bestFaces a_t_text a_t_verbs a_t_many a_t_nums a_t_limbs a_t_wide t_typed t_at t_start t_token t_value t_items t_limbs'_3 t_wide) s.heap H locs → lv_has ls 4 [(3, .int x3), (0, .ref a_t), (1, .int p1), (2, .int p2)] → (∀ (H : Heap) (locs : List Loc) (ls : Array Slot), m_H E A (wd_R_takes E a_t a_t_book a_t_images a_t_kept a_t_aside a_t_hears a_t_spies a_t_known a_t_by a_t_ways a_t_fewest a_t_heavy a_t_sums a_t_faces a_t_bestFaces a_t_text a_t_verbs a_t_many a_t_nums a_t_limbs a_t_wide t_typed t_at t_start t_token t_value t_items t_limbs'_4 t_wide) s.heap H locs → lv_has ls 4 [(0, .ref a_t), (1, .int p1), (2, .int p2)] → W p l e rm_R_takes s m args below meth c H locs 0 0 Q (F0 m 36 ls [])) → W p l e rm_R_takes s m args below meth c H locs 0 0 Q (F0 m 2 ls []) := by
    clear hF
    intro k0
    induction k0 with
    | zero =>
      intro x3 t_limbs'_3 t_limbs'_4 H locs ls hF
      cases hF
    | succ k0 ih4 =>
      intro x3 t_limbs'_3 t_limbs'_4 H locs ls hF hW hl hk3
      rw [R_takes_L2] at hF
      refine lv_iload_n hx hb dX12_takes_2 rfl (lv_at hl 0 rfl) ?_
      refine lv_bipush (v := (60 : Int32)) hx hb dX12_takes_3 (by decide) ?_
      refine lv_icmp_ge (tgt := 36) hx hb dX12_takes_5 (by decide) (fun c5 => ?_) (fun c5 => ?_)
      · have hF := if_y c5 hF
        cases hF
        exact hk3 _ _ _ hW (lv_sub hl [1, 2, 3] rfl)
      · have hF := if_n c5 hF
        refine lv_aload_n hx hb dX12_takes_8 rfl (lv_at hl 1 rfl) ?_
        refine m_get X hW fdX12_23 0 rfl rfl dX12_takes_9 ?_
        refine lv_bipush (v := (60 : Int32)) hx hb dX12_takes_12 (by decide) ?_
        refine lv_iload_n hx hb dX12_takes_14 rfl (lv_at hl 2 rfl) ?_
        refine lv_imul hx hb dX12_takes_15 ?_
        refine lv_iload_n hx hb dX12_takes_16 rfl (lv_at hl 0 rfl) ?_
        refine lv_iadd hx hb dX12_takes_17 ?_
        refine lv_aload_n hx hb dX12_takes_18 rfl (lv_at hl 1 rfl) ?_
        refine m_get X hW fdX12_23 0 rfl rfl dX12_takes_19 ?_
        refine lv_bipush (v := (60 : Int32)) hx hb dX12_takes_22 (by decide) ?_
        refine lv_iload_n hx hb dX12_takes_24 rfl (lv_at hl 3 rfl) ?_
        refine lv_imul hx hb dX12_takes_25 ?_
        refine lv_iload_n hx hb dX12_takes_26 rfl (lv_at hl 0 rfl) ?_
        refine lv_iadd hx hb dX12_takes_27 ?_
        obtain ⟨g6, hF⟩ := gd_some hF
        refine m_iald X hW 1 (k := (((60 : Int32) * p2) + x3).toNatClampNeg) rfl g6 rfl dX12_takes_28 ?_
        obtain ⟨g7, hF⟩ := gd_some hF
        refine m_iast X hW 1 (k := (((60 : Int32) * p1) + x3).toNatClampNeg) rfl g7 rfl dX12_takes_29 (ws' := (wd_R_takes E a_t a_t_book a_t_images a_t_kept a_t_aside a_t_hears a_t_spies a_t_known a_t_by a_t_ways a_t_fewest a_t_heavy a_t_sums a_t_faces a_t_bestFaces a_t_text a_t_verbs a_t_many a_t_nums a_t_limbs a_t_wide t_typed t_at t_start t_token t_value t_items (upd t_limbs'_3 (((60 : Int32) * p1) + x3).toNatClampNeg (t_limbs'_3 (((60 : Int32) * p2) + x3).toNatClampNeg)) t_wide)) rfl (fun H locs hW => ?_)
        refine lv_iinc (v := (x3 + (1 : Int32))) (lv' := [(3, .int (x3 + (1 : Int32))), (0, .ref a_t), (1, .int p1), (2, .int p2)]) hx hb dX12_takes_30 hl (k := 0) rfl rfl (by decide) rfl (fun ls hl => ?_)
        refine lv_goto (tgt := 2) hx hb dX12_takes_33 (by decide) ?_
        exact ih4 (x3 + (1 : Int32)) (upd t_limbs'_3 (((60 : Int32) * p1) + x3).toNatClampNeg (t_limbs'_3 (((60 : Int32) * p2) + x3).toNatClampNeg)) t_limbs'_4 _ _ _ hF hW (lv_sub hl [0, 1, 2, 3] rfl) hk3
  refine L1 N (0 : Int32) t_limbs t_limbs'_4 _ _ _ hX2 hW (lv_sub hl [0, 1, 2, 3] rfl) ?_
  intro H locs ls hW hl
  clear L1
  refine lv_aload_n hx hb dX12_takes_36 rfl (lv_at hl 0 rfl) ?_
  refine m_get X hW fdX12_26 0 rfl rfl dX12_takes_37 ?_
  refine lv_iload_n hx hb dX12_takes_40 rfl (lv_at hl 1 rfl) ?_
  refine lv_aload_n hx hb dX12_takes_41 rfl (lv_at hl 0 rfl) ?_
  refine m_get X hW fdX12_26 0 rfl rfl dX12_takes_42 ?_
  refine lv_iload_n hx hb dX12_takes_45 rfl (lv_at hl 2 rfl) ?_
  obtain ⟨g8, hF⟩ := gd_some hF
  refine m_iald X hW 2 (k := p2.toNatClampNeg) rfl g8 rfl dX12_takes_46 ?_
  obtain ⟨g9, hF⟩ := gd_some hF
  refine m_iast X hW 2 (k := p1.toNatClampNeg) rfl g9 rfl dX12_takes_47 (ws' := (wd_R_takes E a_t a_t_book a_t_images a_t_kept a_t_aside a_t_hears a_t_spies a_t_known a_t_by a_t_ways a_t_fewest a_t_heavy a_t_sums a_t_faces a_t_bestFaces a_t_text a_t_verbs a_t_many a_t_nums a_t_limbs a_t_wide t_typed t_at t_start t_token t_value t_items t_limbs'_4 (upd t_wide p1.toNatClampNeg (t_wide p2.toNatClampNeg)))) rfl (fun H locs hW => ?_)
  have hq := Option.some.inj hF
  subst hq
  exact hret _ _ _ _ hW dX12_takes_48
abbrev wd_R_times (E : m_E) (a_t : Nat) (a_t_book : Nat) (a_t_images : Nat) (a_t_kept : Nat) (a_t_aside : Nat) (a_t_hears : Nat) (a_t_spies : Nat) (a_t_known : Nat) (a_t_by : Nat) (a_t_ways : Nat) (a_t_fewest : Nat) (a_t_heavy : Nat) (a_t_sums : Nat) (a_t_faces : Nat) (a_t_bestFaces : Nat) (a_t_text : Nat) (a_t_verbs : Nat) (a_t_many : Nat) (a_t_nums : Nat) (a_t_limbs : Nat) (a_t_wide : Nat) (t_typed : Int32) (t_at : Int32) (t_start : Int32) (t_token : Int32) (t_value : Int32) (t_items : Int32) (t_limbs : Nat → Int32) (t_wide : Nat → Int32) : va_W := [(a_t, .inr (12, [.ref a_t_book, .ref a_t_images, .ref a_t_kept, .ref a_t_aside, .ref a_t_limbs, .ref a_t_wide, .ref a_t_hears, .ref a_t_spies, .ref a_t_known, .ref a_t_by, .ref a_t_ways, .ref a_t_fewest, .ref a_t_heavy, .ref a_t_sums, .ref a_t_faces, .ref a_t_bestFaces, .ref a_t_text, .int t_typed, .int t_at, .int t_start, .int t_token, .int t_value, .ref a_t_verbs, .ref a_t_many, .ref a_t_nums, .int t_items])), (a_t_limbs, .inl (E.2.1 0, 1680, .inl t_limbs)), (a_t_wide, .inl (E.2.1 0, 28, .inl t_wide))]
def rm_R_times : Room := { frames := 1, cells := 0, slots := 0, locals := 21 }
set_option maxHeartbeats 4000000 in
set_option maxRecDepth 100000 in
theorem c_R_times (l : Launch) (E : m_E) (sz N : Nat) (a_t : Nat) (a_t_book : Nat) (a_t_images : Nat) (a_t_kept : Nat) (a_t_aside : Nat) (a_t_hears : Nat) (a_t_spies : Nat) (a_t_known : Nat) (a_t_by : Nat) (a_t_ways : Nat) (a_t_fewest : Nat) (a_t_heavy : Nat) (a_t_sums : Nat) (a_t_faces : Nat) (a_t_bestFaces : Nat) (a_t_text : Nat) (a_t_verbs : Nat) (a_t_many : Nat) (a_t_nums : Nat) (a_t_limbs : Nat) (a_t_wide : Nat) (t_typed : Int32) (t_at : Int32) (t_start : Int32) (t_token : Int32) (t_value : Int32) (t_items : Int32) (t_limbs : Nat → Int32) (t_wide : Nat → Int32) (p1 : Int32) (p2 : Int32) (ures : (Nat → Int32) × (Nat → Int32)) (hF : F_R_times N p1 p2 t_limbs t_wide = some ures) : m_Met l yX12_times cX12_times 8 none rm_R_times E (wd_R_times E a_t a_t_book a_t_images a_t_kept a_t_aside a_t_hears a_t_spies a_t_known a_t_by a_t_ways a_t_fewest a_t_heavy a_t_sums a_t_faces a_t_bestFaces a_t_text a_t_verbs a_t_many a_t_nums a_t_limbs a_t_wide t_typed t_at t_start t_token t_value t_items t_limbs t_wide) (wd_R_times E a_t a_t_book a_t_images a_t_kept a_t_aside a_t_hears a_t_spies a_t_known a_t_by a_t_ways a_t_fewest a_t_heavy a_t_sums a_t_faces a_t_bestFaces a_t_text a_t_verbs a_t_many a_t_nums a_t_limbs a_t_wide t_typed t_at t_start t_token t_value t_items ures.1 ures.2) sz [.ref a_t, .int p1, .int p2] none := by
  refine m_ofV (by decide) (Nat.le_of_ble_eq_true rfl) ?_
  intro p e s m args below meth c A Q ls X hW hA hl hret
  obtain ⟨hx, hb, -, hown, hts, hK, -, hG⟩ := id X
  have hl : lv_has ls 8 [(0, .ref a_t), (1, .int p1), (2, .int p2)] := hl
  unfold F_R_times at hF
  refine lv_lconst (v := (0 : Int64)) hx hb dX12_times_0 (by decide) ?_
  refine lv_lstore_n (lv' := [(3, .long (0 : Int64)), (0, .ref a_t), (1, .int p1), (2, .int p2)]) hx hb dX12_times_1 rfl hl (by decide) rfl (fun ls hl => ?_)
  refine lv_iconst (v := (0 : Int32)) hx hb dX12_times_2 (by decide) ?_
  refine lv_istore (lv' := [(5, .int (0 : Int32)), (3, .long (0 : Int64)), (0, .ref a_t), (1, .int p1), (2, .int p2)]) hx hb dX12_times_3 hl (by decide) rfl (fun ls hl => ?_)
  obtain ⟨x3_2, t_limbs'_5, hX2, hF⟩ := bO_s2 hF
  have L1 : ∀ (k0 : Nat) (x3 : Int64) (x5 : Int32) (t_limbs'_4 : Nat → Int32) (x3_2 : Int64) (t_limbs'_5 : Nat → Int32) (H : Heap) (locs : List Loc) (ls : Array Slot), R_times_L5 p1 t_wide p2 k0 x3 x5 t_limbs'_4 = some (x3_2, t_limbs'_5) → m_H E A (wd_R_times E a_t a_t_book a_t_images a_t_kept a_t_aside a_t_hears a_t_spies a_t_known a_t_by a_t_ways a_t_fewest a_t_heavy a_t_sums a_t_faces a_t_bestFaces a_t_text a_t_verbs a_t_many a_t_nums a_t_limbs a_t_wide t_typed t_at t_start t_token t_value t_items t_limbs'_4 t_wide) s.heap H locs → lv_has ls 8 [(5, .int x5), (3, .long x3), (0, .ref a_t), (1, .int p1), (2, .int p2)] → (∀ (H : Heap) (locs : List Loc) (ls : Array Slot), m_H E A (wd_R_times E a_t a_t_book a_t_images a_t_kept a_t_aside a_t_hears a_t_spies a_t_known a_t_by a_t_ways a_t_fewest a_t_heavy a_t_sums a_t_faces a_t_bestFaces a_t_text a_t_verbs a_t_many a_t_nums a_t_limbs a_t_wide t_typed t_at t_start t_token t_value t_items t_limbs'_5 t_wide) s.heap H locs → lv_has ls 8 [(3, .long x3_2), (0, .ref a_t), (1, .int p1)] → W p l e rm_R_times s m args below meth c H locs 0 0 Q (F0 m 67 ls [])) → W p l e rm_R_times s m args below meth c H locs 0 0 Q (F0 m 5 ls []) := by
    clear hF
    intro k0
    induction k0 with
    | zero =>
      intro x3 x5 t_limbs'_4 x3_2 t_limbs'_5 H locs ls hF
      cases hF
    | succ k0 ih4 =>
      intro x3 x5 t_limbs'_4 x3_2 t_limbs'_5 H locs ls hF hW hl hk3
      rw [R_times_L5] at hF
      refine lv_iload hx hb dX12_times_5 (lv_at hl 0 rfl) ?_
      refine lv_aload_n hx hb dX12_times_7 rfl (lv_at hl 2 rfl) ?_
      refine m_get X hW fdX12_26 0 rfl rfl dX12_times_8 ?_
      refine lv_iload_n hx hb dX12_times_11 rfl (lv_at hl 3 rfl) ?_
      obtain ⟨g5, hF⟩ := gd_some hF
      refine m_iald X hW 2 (k := p1.toNatClampNeg) rfl g5 rfl dX12_times_12 ?_
      refine lv_icmp_ge (tgt := 67) hx hb dX12_times_13 (by decide) (fun c6 => ?_) (fun c6 => ?_)
      · have hF := if_y c6 hF
        cases hF
        exact hk3 _ _ _ hW (lv_sub hl [1, 2, 3] rfl)
      · have hF := if_n c6 hF
        refine lv_aload_n hx hb dX12_times_16 rfl (lv_at hl 2 rfl) ?_
        refine m_get X hW fdX12_23 0 rfl rfl dX12_times_17 ?_
        refine lv_bipush (v := (60 : Int32)) hx hb dX12_times_20 (by decide) ?_
        refine lv_iload_n hx hb dX12_times_22 rfl (lv_at hl 3 rfl) ?_
        refine lv_imul hx hb dX12_times_23 ?_
        refine lv_iload hx hb dX12_times_24 (lv_at hl 0 rfl) ?_
        refine lv_iadd hx hb dX12_times_26 ?_
        obtain ⟨g7, hF⟩ := gd_some hF
        refine m_iald X hW 1 (k := (((60 : Int32) * p1) + x5).toNatClampNeg) rfl g7 rfl dX12_times_27 ?_
        refine lv_i2l (v := (t_limbs'_4 (((60 : Int32) * p1) + x5).toNatClampNeg).toInt64) hx hb dX12_times_28 rfl ?_
        refine lv_iload_n hx hb dX12_times_29 rfl (lv_at hl 4 rfl) ?_
        refine lv_i2l (v := p2.toInt64) hx hb dX12_times_30 rfl ?_
        refine lv_lmul hx hb dX12_times_31 ?_
        refine lv_lload_n hx hb dX12_times_32 rfl (lv_at hl 1 rfl) ?_
        refine lv_ladd hx hb dX12_times_33 ?_
        refine lv_lstore (lv' := [(6, .long (((t_limbs'_4 (((60 : Int32) * p1) + x5).toNatClampNeg).toInt64 * p2.toInt64) + x3)), (5, .int x5), (3, .long x3), (0, .ref a_t), (1, .int p1), (2, .int p2)]) hx hb dX12_times_34 hl (by decide) rfl (fun ls hl => ?_)
        refine lv_aload_n hx hb dX12_times_36 rfl (lv_at hl 3 rfl) ?_
        refine m_get X hW fdX12_23 0 rfl rfl dX12_times_37 ?_
        refine lv_bipush (v := (60 : Int32)) hx hb dX12_times_40 (by decide) ?_
        refine lv_iload_n hx hb dX12_times_42 rfl (lv_at hl 4 rfl) ?_
        refine lv_imul hx hb dX12_times_43 ?_
        refine lv_iload hx hb dX12_times_44 (lv_at hl 1 rfl) ?_
        refine lv_iadd hx hb dX12_times_46 ?_
        refine lv_lload hx hb dX12_times_47 (lv_at hl 0 rfl) ?_
        refine lv_ldc2 (v := (1073741823 : Int64)) hx hb hown (hts _ wk_1119) dX12_times_49 ?_
        refine lv_land hx hb dX12_times_52 ?_
        refine lv_l2i (v := ((((t_limbs'_4 (((60 : Int32) * p1) + x5).toNatClampNeg).toInt64 * p2.toInt64) + x3) &&& (1073741823 : Int64)).toInt32) hx hb dX12_times_53 rfl ?_
        refine m_iast X hW 1 (k := (((60 : Int32) * p1) + x5).toNatClampNeg) rfl g7 rfl dX12_times_54 (ws' := (wd_R_times E a_t a_t_book a_t_images a_t_kept a_t_aside a_t_hears a_t_spies a_t_known a_t_by a_t_ways a_t_fewest a_t_heavy a_t_sums a_t_faces a_t_bestFaces a_t_text a_t_verbs a_t_many a_t_nums a_t_limbs a_t_wide t_typed t_at t_start t_token t_value t_items (upd t_limbs'_4 (((60 : Int32) * p1) + x5).toNatClampNeg ((((t_limbs'_4 (((60 : Int32) * p1) + x5).toNatClampNeg).toInt64 * p2.toInt64) + x3) &&& (1073741823 : Int64)).toInt32) t_wide)) rfl (fun H locs hW => ?_)
        refine lv_lload hx hb dX12_times_55 (lv_at hl 0 rfl) ?_
        refine lv_bipush (v := (30 : Int32)) hx hb dX12_times_57 (by decide) ?_
        refine m_lshr hx hb dX12_times_59 ?_
        refine lv_lstore_n (lv' := [(3, .long (jshrL (((t_limbs'_4 (((60 : Int32) * p1) + x5).toNatClampNeg).toInt64 * p2.toInt64) + x3) (30 : Int32))), (6, .long (((t_limbs'_4 (((60 : Int32) * p1) + x5).toNatClampNeg).toInt64 * p2.toInt64) + x3)), (5, .int x5), (0, .ref a_t), (1, .int p1), (2, .int p2)]) hx hb dX12_times_60 rfl hl (by decide) rfl (fun ls hl => ?_)
        refine lv_iinc (v := (x5 + (1 : Int32))) (lv' := [(5, .int (x5 + (1 : Int32))), (3, .long (jshrL (((t_limbs'_4 (((60 : Int32) * p1) + x5).toNatClampNeg).toInt64 * p2.toInt64) + x3) (30 : Int32))), (6, .long (((t_limbs'_4 (((60 : Int32) * p1) + x5).toNatClampNeg).toInt64 * p2.toInt64) + x3)), (0, .ref a_t), (1, .int p1), (2, .int p2)]) hx hb dX12_times_61 hl (k := 2) rfl rfl (by decide) rfl (fun ls hl => ?_)
        refine lv_goto (tgt := 5) hx hb dX12_times_64 (by decide) ?_
        exact ih4 (jshrL (((t_limbs'_4 (((60 : Int32) * p1) + x5).toNatClampNeg).toInt64 * p2.toInt64) + x3) (30 : Int32)) (x5 + (1 : Int32)) (upd t_limbs'_4 (((60 : Int32) * p1) + x5).toNatClampNeg ((((t_limbs'_4 (((60 : Int32) * p1) + x5).toNatClampNeg).toInt64 * p2.toInt64) + x3) &&& (1073741823 : Int64)).toInt32) x3_2 t_limbs'_5 _ _ _ hF hW (lv_sub hl [0, 1, 3, 4, 5] rfl) hk3
  refine L1 N (0 : Int64) (0 : Int32) t_limbs x3_2 t_limbs'_5 _ _ _ hX2 hW (lv_sub hl [0, 1, 2, 3, 4] rfl) ?_
  intro H locs ls hW hl
  clear L1
  refine lv_lload_n hx hb dX12_times_67 rfl (lv_at hl 0 rfl) ?_
  refine lv_lconst (v := (0 : Int64)) hx hb dX12_times_68 (by decide) ?_
  refine W.lcmp hx hb dX12_times_69 ?_
  obtain ⟨t_limbs'_6, t_wide'_3, hX9, hF⟩ := bO_s2 hF
  have J8 : ∀ (H : Heap) (locs : List Loc) (ls : Array Slot), m_H E A (wd_R_times E a_t a_t_book a_t_images a_t_kept a_t_aside a_t_hears a_t_spies a_t_known a_t_by a_t_ways a_t_fewest a_t_heavy a_t_sums a_t_faces a_t_bestFaces a_t_text a_t_verbs a_t_many a_t_nums a_t_limbs a_t_wide t_typed t_at t_start t_token t_value t_items t_limbs'_6 t_wide'_3) s.heap H locs → lv_has ls 8 [(0, .ref a_t), (1, .int p1)] → W p l e rm_R_times s m args below meth c H locs 0 0 Q (F0 m 101 ls []) := by
    intro H locs ls hW hl
    refine lv_aload_n hx hb dX12_times_101 rfl (lv_at hl 0 rfl) ?_
    refine lv_iload_n hx hb dX12_times_102 rfl (lv_at hl 1 rfl) ?_
    obtain ⟨t_wide'_4, hC10, hF⟩ := bO_s1 hF
    refine m_callV X hW hA hl.1 lkX12_80 (c_R_trims l E _ N a_t a_t_book a_t_images a_t_kept a_t_aside a_t_hears a_t_spies a_t_known a_t_by a_t_ways a_t_fewest a_t_heavy a_t_sums a_t_faces a_t_bestFaces a_t_text a_t_verbs a_t_many a_t_nums a_t_limbs a_t_wide t_typed t_at t_start t_token t_value t_items t_limbs'_6 t_wide'_3 p1 t_wide'_4 hC10) [0, 1, 2] (by decide) rfl rfl (ws' := (wd_R_times E a_t a_t_book a_t_images a_t_kept a_t_aside a_t_hears a_t_spies a_t_known a_t_by a_t_ways a_t_fewest a_t_heavy a_t_sums a_t_faces a_t_bestFaces a_t_text a_t_verbs a_t_many a_t_nums a_t_limbs a_t_wide t_typed t_at t_start t_token t_value t_items t_limbs'_6 t_wide'_4)) rfl 0 rfl rfl rfl (As := [.int p1]) (rest := []) rfl rfl ⟨rfl, rfl, Nat.le_of_ble_eq_true rfl, Nat.le_of_ble_eq_true rfl⟩ (Nat.le_of_ble_eq_true rfl) (Nat.zero_le _) (Nat.zero_le _) dX12_times_103 (fun H locs hW => ?_)
    clear hC10
    have hq := Option.some.inj hF
    subst hq
    exact hret _ _ _ _ hW dX12_times_106
  clear hF
  have hF := hX9
  clear hX9
  refine lv_if_le (tgt := 101) hx hb dX12_times_70 (by decide) (fun c11 => ?_) (fun c11 => ?_)
  · have hF := if_y c11 hF
    cases hF
    exact J8 _ _ _ hW (lv_sub hl [1, 2] rfl)
  · have hF := if_n c11 hF
    refine lv_aload_n hx hb dX12_times_73 rfl (lv_at hl 1 rfl) ?_
    refine m_get X hW fdX12_23 0 rfl rfl dX12_times_74 ?_
    refine lv_bipush (v := (60 : Int32)) hx hb dX12_times_77 (by decide) ?_
    refine lv_iload_n hx hb dX12_times_79 rfl (lv_at hl 2 rfl) ?_
    refine lv_imul hx hb dX12_times_80 ?_
    refine lv_aload_n hx hb dX12_times_81 rfl (lv_at hl 1 rfl) ?_
    refine m_get X hW fdX12_26 0 rfl rfl dX12_times_82 ?_
    refine lv_iload_n hx hb dX12_times_85 rfl (lv_at hl 2 rfl) ?_
    obtain ⟨g12, hF⟩ := gd_some hF
    refine m_iald X hW 2 (k := p1.toNatClampNeg) rfl g12 rfl dX12_times_86 ?_
    refine lv_iadd hx hb dX12_times_87 ?_
    refine lv_lload_n hx hb dX12_times_88 rfl (lv_at hl 0 rfl) ?_
    refine lv_l2i (v := x3_2.toInt32) hx hb dX12_times_89 rfl ?_
    obtain ⟨g13, hF⟩ := gd_some hF
    refine m_iast X hW 1 (k := (((60 : Int32) * p1) + (t_wide p1.toNatClampNeg)).toNatClampNeg) rfl g13 rfl dX12_times_90 (ws' := (wd_R_times E a_t a_t_book a_t_images a_t_kept a_t_aside a_t_hears a_t_spies a_t_known a_t_by a_t_ways a_t_fewest a_t_heavy a_t_sums a_t_faces a_t_bestFaces a_t_text a_t_verbs a_t_many a_t_nums a_t_limbs a_t_wide t_typed t_at t_start t_token t_value t_items (upd t_limbs'_5 (((60 : Int32) * p1) + (t_wide p1.toNatClampNeg)).toNatClampNeg x3_2.toInt32) t_wide)) rfl (fun H locs hW => ?_)
    refine lv_aload_n hx hb dX12_times_91 rfl (lv_at hl 1 rfl) ?_
    refine m_get X hW fdX12_26 0 rfl rfl dX12_times_92 ?_
    refine lv_iload_n hx hb dX12_times_95 rfl (lv_at hl 2 rfl) ?_
    refine lv_dup2_11 hx hb dX12_times_96 rfl rfl ?_
    refine m_iald X hW 2 (k := p1.toNatClampNeg) rfl g12 rfl dX12_times_97 ?_
    refine lv_iconst (v := (1 : Int32)) hx hb dX12_times_98 (by decide) ?_
    refine lv_iadd hx hb dX12_times_99 ?_
    refine m_iast X hW 2 (k := p1.toNatClampNeg) rfl g12 rfl dX12_times_100 (ws' := (wd_R_times E a_t a_t_book a_t_images a_t_kept a_t_aside a_t_hears a_t_spies a_t_known a_t_by a_t_ways a_t_fewest a_t_heavy a_t_sums a_t_faces a_t_bestFaces a_t_text a_t_verbs a_t_many a_t_nums a_t_limbs a_t_wide t_typed t_at t_start t_token t_value t_items (upd t_limbs'_5 (((60 : Int32) * p1) + (t_wide p1.toNatClampNeg)).toNatClampNeg x3_2.toInt32) (upd t_wide p1.toNatClampNeg ((t_wide p1.toNatClampNeg) + (1 : Int32))))) rfl (fun H locs hW => ?_)
    cases hF
    exact J8 _ _ _ hW (lv_sub hl [1, 2] rfl)
abbrev wd_R_adds (E : m_E) (a_t : Nat) (a_t_book : Nat) (a_t_images : Nat) (a_t_kept : Nat) (a_t_aside : Nat) (a_t_hears : Nat) (a_t_spies : Nat) (a_t_known : Nat) (a_t_by : Nat) (a_t_ways : Nat) (a_t_fewest : Nat) (a_t_heavy : Nat) (a_t_sums : Nat) (a_t_faces : Nat) (a_t_bestFaces : Nat) (a_t_text : Nat) (a_t_verbs : Nat) (a_t_many : Nat) (a_t_nums : Nat) (a_t_limbs : Nat) (a_t_wide : Nat) (t_typed : Int32) (t_at : Int32) (t_start : Int32) (t_token : Int32) (t_value : Int32) (t_items : Int32) (t_limbs : Nat → Int32) (t_wide : Nat → Int32) : va_W := [(a_t, .inr (12, [.ref a_t_book, .ref a_t_images, .ref a_t_kept, .ref a_t_aside, .ref a_t_limbs, .ref a_t_wide, .ref a_t_hears, .ref a_t_spies, .ref a_t_known, .ref a_t_by, .ref a_t_ways, .ref a_t_fewest, .ref a_t_heavy, .ref a_t_sums, .ref a_t_faces, .ref a_t_bestFaces, .ref a_t_text, .int t_typed, .int t_at, .int t_start, .int t_token, .int t_value, .ref a_t_verbs, .ref a_t_many, .ref a_t_nums, .int t_items])), (a_t_limbs, .inl (E.2.1 0, 1680, .inl t_limbs)), (a_t_wide, .inl (E.2.1 0, 28, .inl t_wide))]
def rm_R_adds : Room := { frames := 1, cells := 0, slots := 0, locals := 21 }
set_option maxHeartbeats 4000000 in
set_option maxRecDepth 100000 in
theorem c_R_adds (l : Launch) (E : m_E) (sz N : Nat) (a_t : Nat) (a_t_book : Nat) (a_t_images : Nat) (a_t_kept : Nat) (a_t_aside : Nat) (a_t_hears : Nat) (a_t_spies : Nat) (a_t_known : Nat) (a_t_by : Nat) (a_t_ways : Nat) (a_t_fewest : Nat) (a_t_heavy : Nat) (a_t_sums : Nat) (a_t_faces : Nat) (a_t_bestFaces : Nat) (a_t_text : Nat) (a_t_verbs : Nat) (a_t_many : Nat) (a_t_nums : Nat) (a_t_limbs : Nat) (a_t_wide : Nat) (t_typed : Int32) (t_at : Int32) (t_start : Int32) (t_token : Int32) (t_value : Int32) (t_items : Int32) (t_limbs : Nat → Int32) (t_wide : Nat → Int32) (p1 : Int32) (p2 : Int32) (ures : (Nat → Int32) × (Nat → Int32)) (hF : F_R_adds N p1 p2 t_limbs t_wide = some ures) : m_Met l yX12_adds cX12_adds 7 none rm_R_adds E (wd_R_adds E a_t a_t_book a_t_images a_t_kept a_t_aside a_t_hears a_t_spies a_t_known a_t_by a_t_ways a_t_fewest a_t_heavy a_t_sums a_t_faces a_t_bestFaces a_t_text a_t_verbs a_t_many a_t_nums a_t_limbs a_t_wide t_typed t_at t_start t_token t_value t_items t_limbs t_wide) (wd_R_adds E a_t a_t_book a_t_images a_t_kept a_t_aside a_t_hears a_t_spies a_t_known a_t_by a_t_ways a_t_fewest a_t_heavy a_t_sums a_t_faces a_t_bestFaces a_t_text a_t_verbs a_t_many a_t_nums a_t_limbs a_t_wide t_typed t_at t_start t_token t_value t_items ures.1 ures.2) sz [.ref a_t, .int p1, .int p2] none := by
  refine m_ofV (by decide) (Nat.le_of_ble_eq_true rfl) ?_
  intro p e s m args below meth c A Q ls X hW hA hl hret
  obtain ⟨hx, hb, -, hown, hts, hK, -, hG⟩ := id X
  have hl : lv_has ls 7 [(0, .ref a_t), (1, .int p1), (2, .int p2)] := hl
  unfold F_R_adds at hF
  refine lv_iconst (v := (0 : Int32)) hx hb dX12_adds_0 (by decide) ?_
  refine lv_istore_n (lv' := [(3, .int (0 : Int32)), (0, .ref a_t), (1, .int p1), (2, .int p2)]) hx hb dX12_adds_1 rfl hl (by decide) rfl (fun ls hl => ?_)
  refine lv_aload_n hx hb dX12_adds_2 rfl (lv_at hl 1 rfl) ?_
  refine m_get X hW fdX12_26 0 rfl rfl dX12_adds_3 ?_
  refine lv_iload_n hx hb dX12_adds_6 rfl (lv_at hl 2 rfl) ?_
  obtain ⟨g1, hF⟩ := gd_some hF
  refine m_iald X hW 2 (k := p1.toNatClampNeg) rfl g1 rfl dX12_adds_7 ?_
  refine lv_aload_n hx hb dX12_adds_8 rfl (lv_at hl 1 rfl) ?_
  refine m_get X hW fdX12_26 0 rfl rfl dX12_adds_9 ?_
  refine lv_iload_n hx hb dX12_adds_12 rfl (lv_at hl 3 rfl) ?_
  obtain ⟨g2, hF⟩ := gd_some hF
  refine m_iald X hW 2 (k := p2.toNatClampNeg) rfl g2 rfl dX12_adds_13 ?_
  obtain ⟨y0, hX4, hF⟩ := bO_s1 hF
  have J3 : ∀ (H : Heap) (locs : List Loc) (ls : Array Slot), m_H E A (wd_R_adds E a_t a_t_book a_t_images a_t_kept a_t_aside a_t_hears a_t_spies a_t_known a_t_by a_t_ways a_t_fewest a_t_heavy a_t_sums a_t_faces a_t_bestFaces a_t_text a_t_verbs a_t_many a_t_nums a_t_limbs a_t_wide t_typed t_at t_start t_token t_value t_items t_limbs t_wide) s.heap H locs → lv_has ls 7 [(3, .int (0 : Int32)), (0, .ref a_t), (1, .int p1), (2, .int p2)] → W p l e rm_R_adds s m args below meth c H locs 0 0 Q (F0 m 32 ls [.int y0]) := by
    intro H locs ls hW hl
    refine lv_istore (lv' := [(4, .int y0), (3, .int (0 : Int32)), (0, .ref a_t), (1, .int p1), (2, .int p2)]) hx hb dX12_adds_32 hl (by decide) rfl (fun ls hl => ?_)
    refine lv_iconst (v := (0 : Int32)) hx hb dX12_adds_34 (by decide) ?_
    refine lv_istore (lv' := [(5, .int (0 : Int32)), (4, .int y0), (3, .int (0 : Int32)), (0, .ref a_t), (1, .int p1), (2, .int p2)]) hx hb dX12_adds_35 hl (by decide) rfl (fun ls hl => ?_)
    obtain ⟨x3_2, t_limbs'_4, hX6, hF⟩ := bO_s2 hF
    have L5 : ∀ (k0 : Nat) (x3 : Int32) (x5 : Int32) (t_limbs'_3 : Nat → Int32) (x3_2 : Int32) (t_limbs'_4 : Nat → Int32) (H : Heap) (locs : List Loc) (ls : Array Slot), R_adds_L37 y0 p1 p2 k0 x3 x5 t_limbs'_3 = some (x3_2, t_limbs'_4) → m_H E A (wd_R_adds E a_t a_t_book a_t_images a_t_kept a_t_aside a_t_hears a_t_spies a_t_known a_t_by a_t_ways a_t_fewest a_t_heavy a_t_sums a_t_faces a_t_bestFaces a_t_text a_t_verbs a_t_many a_t_nums a_t_limbs a_t_wide t_typed t_at t_start t_token t_value t_items t_limbs'_3 t_wide) s.heap H locs → lv_has ls 7 [(5, .int x5), (4, .int y0), (3, .int x3), (0, .ref a_t), (1, .int p1), (2, .int p2)] → (∀ (H : Heap) (locs : List Loc) (ls : Array Slot), m_H E A (wd_R_adds E a_t a_t_book a_t_images a_t_kept a_t_aside a_t_hears a_t_spies a_t_known a_t_by a_t_ways a_t_fewest a_t_heavy a_t_sums a_t_faces a_t_bestFaces a_t_text a_t_verbs a_t_many a_t_nums a_t_limbs a_t_wide t_typed t_at t_start t_token t_value t_items t_limbs'_4 t_wide) s.heap H locs → lv_has ls 7 [(4, .int y0), (3, .int x3_2), (0, .ref a_t), (1, .int p1)] → W p l e rm_R_adds s m args below meth c H locs 0 0 Q (F0 m 102 ls [])) → W p l e rm_R_adds s m args below meth c H locs 0 0 Q (F0 m 37 ls []) := by
      clear hF
      intro k0
      induction k0 with
      | zero =>
        intro x3 x5 t_limbs'_3 x3_2 t_limbs'_4 H locs ls hF
        cases hF
      | succ k0 ih8 =>
        intro x3 x5 t_limbs'_3 x3_2 t_limbs'_4 H locs ls hF hW hl hk7
        rw [R_adds_L37] at hF
        refine lv_iload hx hb dX12_adds_37 (lv_at hl 0 rfl) ?_
        refine lv_iload hx hb dX12_adds_39 (lv_at hl 1 rfl) ?_
        refine lv_icmp_ge (tgt := 102) hx hb dX12_adds_41 (by decide) (fun c9 => ?_) (fun c9 => ?_)
        · have hF := if_y c9 hF
          cases hF
          exact hk7 _ _ _ hW (lv_sub hl [1, 2, 3, 4] rfl)
        · have hF := if_n c9 hF
          refine lv_aload_n hx hb dX12_adds_44 rfl (lv_at hl 3 rfl) ?_
          refine m_get X hW fdX12_23 0 rfl rfl dX12_adds_45 ?_
          refine lv_bipush (v := (60 : Int32)) hx hb dX12_adds_48 (by decide) ?_
          refine lv_iload_n hx hb dX12_adds_50 rfl (lv_at hl 4 rfl) ?_
          refine lv_imul hx hb dX12_adds_51 ?_
          refine lv_iload hx hb dX12_adds_52 (lv_at hl 0 rfl) ?_
          refine lv_iadd hx hb dX12_adds_54 ?_
          obtain ⟨g10, hF⟩ := gd_some hF
          refine m_iald X hW 1 (k := (((60 : Int32) * p1) + x5).toNatClampNeg) rfl g10 rfl dX12_adds_55 ?_
          refine lv_aload_n hx hb dX12_adds_56 rfl (lv_at hl 3 rfl) ?_
          refine m_get X hW fdX12_23 0 rfl rfl dX12_adds_57 ?_
          refine lv_bipush (v := (60 : Int32)) hx hb dX12_adds_60 (by decide) ?_
          refine lv_iload_n hx hb dX12_adds_62 rfl (lv_at hl 5 rfl) ?_
          refine lv_imul hx hb dX12_adds_63 ?_
          refine lv_iload hx hb dX12_adds_64 (lv_at hl 0 rfl) ?_
          refine lv_iadd hx hb dX12_adds_66 ?_
          obtain ⟨g11, hF⟩ := gd_some hF
          refine m_iald X hW 1 (k := (((60 : Int32) * p2) + x5).toNatClampNeg) rfl g11 rfl dX12_adds_67 ?_
          refine lv_iadd hx hb dX12_adds_68 ?_
          refine lv_iload_n hx hb dX12_adds_69 rfl (lv_at hl 2 rfl) ?_
          refine lv_iadd hx hb dX12_adds_70 ?_
          refine lv_istore (lv' := [(6, .int (((t_limbs'_3 (((60 : Int32) * p1) + x5).toNatClampNeg) + (t_limbs'_3 (((60 : Int32) * p2) + x5).toNatClampNeg)) + x3)), (5, .int x5), (4, .int y0), (3, .int x3), (0, .ref a_t), (1, .int p1), (2, .int p2)]) hx hb dX12_adds_71 hl (by decide) rfl (fun ls hl => ?_)
          refine lv_aload_n hx hb dX12_adds_73 rfl (lv_at hl 4 rfl) ?_
          refine m_get X hW fdX12_23 0 rfl rfl dX12_adds_74 ?_
          refine lv_bipush (v := (60 : Int32)) hx hb dX12_adds_77 (by decide) ?_
          refine lv_iload_n hx hb dX12_adds_79 rfl (lv_at hl 5 rfl) ?_
          refine lv_imul hx hb dX12_adds_80 ?_
          refine lv_iload hx hb dX12_adds_81 (lv_at hl 1 rfl) ?_
          refine lv_iadd hx hb dX12_adds_83 ?_
          refine lv_iload hx hb dX12_adds_84 (lv_at hl 0 rfl) ?_
          refine lv_ldc (v := (1073741823 : Int32)) hx hb hown (hts _ wk_1460) dX12_adds_86 ?_
          refine lv_iand hx hb dX12_adds_88 ?_
          refine m_iast X hW 1 (k := (((60 : Int32) * p1) + x5).toNatClampNeg) rfl g10 rfl dX12_adds_89 (ws' := (wd_R_adds E a_t a_t_book a_t_images a_t_kept a_t_aside a_t_hears a_t_spies a_t_known a_t_by a_t_ways a_t_fewest a_t_heavy a_t_sums a_t_faces a_t_bestFaces a_t_text a_t_verbs a_t_many a_t_nums a_t_limbs a_t_wide t_typed t_at t_start t_token t_value t_items (upd t_limbs'_3 (((60 : Int32) * p1) + x5).toNatClampNeg ((((t_limbs'_3 (((60 : Int32) * p1) + x5).toNatClampNeg) + (t_limbs'_3 (((60 : Int32) * p2) + x5).toNatClampNeg)) + x3) &&& (1073741823 : Int32))) t_wide)) rfl (fun H locs hW => ?_)
          refine lv_iload hx hb dX12_adds_90 (lv_at hl 0 rfl) ?_
          refine lv_bipush (v := (30 : Int32)) hx hb dX12_adds_92 (by decide) ?_
          refine m_iushr hx hb dX12_adds_94 ?_
          refine lv_istore_n (lv' := [(3, .int (jushr (((t_limbs'_3 (((60 : Int32) * p1) + x5).toNatClampNeg) + (t_limbs'_3 (((60 : Int32) * p2) + x5).toNatClampNeg)) + x3) (30 : Int32))), (6, .int (((t_limbs'_3 (((60 : Int32) * p1) + x5).toNatClampNeg) + (t_limbs'_3 (((60 : Int32) * p2) + x5).toNatClampNeg)) + x3)), (5, .int x5), (4, .int y0), (0, .ref a_t), (1, .int p1), (2, .int p2)]) hx hb dX12_adds_95 rfl hl (by decide) rfl (fun ls hl => ?_)
          refine lv_iinc (v := (x5 + (1 : Int32))) (lv' := [(5, .int (x5 + (1 : Int32))), (3, .int (jushr (((t_limbs'_3 (((60 : Int32) * p1) + x5).toNatClampNeg) + (t_limbs'_3 (((60 : Int32) * p2) + x5).toNatClampNeg)) + x3) (30 : Int32))), (6, .int (((t_limbs'_3 (((60 : Int32) * p1) + x5).toNatClampNeg) + (t_limbs'_3 (((60 : Int32) * p2) + x5).toNatClampNeg)) + x3)), (4, .int y0), (0, .ref a_t), (1, .int p1), (2, .int p2)]) hx hb dX12_adds_96 hl (k := 2) rfl rfl (by decide) rfl (fun ls hl => ?_)
          refine lv_goto (tgt := 37) hx hb dX12_adds_99 (by decide) ?_
          exact ih8 (jushr (((t_limbs'_3 (((60 : Int32) * p1) + x5).toNatClampNeg) + (t_limbs'_3 (((60 : Int32) * p2) + x5).toNatClampNeg)) + x3) (30 : Int32)) (x5 + (1 : Int32)) (upd t_limbs'_3 (((60 : Int32) * p1) + x5).toNatClampNeg ((((t_limbs'_3 (((60 : Int32) * p1) + x5).toNatClampNeg) + (t_limbs'_3 (((60 : Int32) * p2) + x5).toNatClampNeg)) + x3) &&& (1073741823 : Int32))) x3_2 t_limbs'_4 _ _ _ hF hW (lv_sub hl [0, 3, 1, 4, 5, 6] rfl) hk7
    refine L5 N (0 : Int32) (0 : Int32) t_limbs x3_2 t_limbs'_4 _ _ _ hX6 hW (lv_sub hl [0, 1, 2, 3, 4, 5] rfl) ?_
    intro H locs ls hW hl
    clear L5
    refine lv_aload_n hx hb dX12_adds_102 rfl (lv_at hl 2 rfl) ?_
    refine m_get X hW fdX12_23 0 rfl rfl dX12_adds_103 ?_
    refine lv_bipush (v := (60 : Int32)) hx hb dX12_adds_106 (by decide) ?_
    refine lv_iload_n hx hb dX12_adds_108 rfl (lv_at hl 3 rfl) ?_
    refine lv_imul hx hb dX12_adds_109 ?_
    refine lv_iload hx hb dX12_adds_110 (lv_at hl 0 rfl) ?_
    refine lv_iadd hx hb dX12_adds_112 ?_
    refine lv_iload_n hx hb dX12_adds_113 rfl (lv_at hl 1 rfl) ?_
    obtain ⟨g12, hF⟩ := gd_some hF
    refine m_iast X hW 1 (k := (((60 : Int32) * p1) + y0).toNatClampNeg) rfl g12 rfl dX12_adds_114 (ws' := (wd_R_adds E a_t a_t_book a_t_images a_t_kept a_t_aside a_t_hears a_t_spies a_t_known a_t_by a_t_ways a_t_fewest a_t_heavy a_t_sums a_t_faces a_t_bestFaces a_t_text a_t_verbs a_t_many a_t_nums a_t_limbs a_t_wide t_typed t_at t_start t_token t_value t_items (upd t_limbs'_4 (((60 : Int32) * p1) + y0).toNatClampNeg x3_2) t_wide)) rfl (fun H locs hW => ?_)
    refine lv_aload_n hx hb dX12_adds_115 rfl (lv_at hl 2 rfl) ?_
    refine m_get X hW fdX12_26 0 rfl rfl dX12_adds_116 ?_
    refine lv_iload_n hx hb dX12_adds_119 rfl (lv_at hl 3 rfl) ?_
    refine lv_iload hx hb dX12_adds_120 (lv_at hl 0 rfl) ?_
    refine lv_iload_n hx hb dX12_adds_122 rfl (lv_at hl 1 rfl) ?_
    refine lv_iadd hx hb dX12_adds_123 ?_
    refine m_iast X hW 2 (k := p1.toNatClampNeg) rfl g1 rfl dX12_adds_124 (ws' := (wd_R_adds E a_t a_t_book a_t_images a_t_kept a_t_aside a_t_hears a_t_spies a_t_known a_t_by a_t_ways a_t_fewest a_t_heavy a_t_sums a_t_faces a_t_bestFaces a_t_text a_t_verbs a_t_many a_t_nums a_t_limbs a_t_wide t_typed t_at t_start t_token t_value t_items (upd t_limbs'_4 (((60 : Int32) * p1) + y0).toNatClampNeg x3_2) (upd t_wide p1.toNatClampNeg (y0 + x3_2)))) rfl (fun H locs hW => ?_)
    refine lv_aload_n hx hb dX12_adds_125 rfl (lv_at hl 2 rfl) ?_
    refine lv_iload_n hx hb dX12_adds_126 rfl (lv_at hl 3 rfl) ?_
    obtain ⟨t_wide'_2, hC13, hF⟩ := bO_s1 hF
    refine m_callV X hW hA hl.1 lkX12_80 (c_R_trims l E _ N a_t a_t_book a_t_images a_t_kept a_t_aside a_t_hears a_t_spies a_t_known a_t_by a_t_ways a_t_fewest a_t_heavy a_t_sums a_t_faces a_t_bestFaces a_t_text a_t_verbs a_t_many a_t_nums a_t_limbs a_t_wide t_typed t_at t_start t_token t_value t_items (upd t_limbs'_4 (((60 : Int32) * p1) + y0).toNatClampNeg x3_2) (upd t_wide p1.toNatClampNeg (y0 + x3_2)) p1 t_wide'_2 hC13) [0, 1, 2] (by decide) rfl rfl (ws' := (wd_R_adds E a_t a_t_book a_t_images a_t_kept a_t_aside a_t_hears a_t_spies a_t_known a_t_by a_t_ways a_t_fewest a_t_heavy a_t_sums a_t_faces a_t_bestFaces a_t_text a_t_verbs a_t_many a_t_nums a_t_limbs a_t_wide t_typed t_at t_start t_token t_value t_items (upd t_limbs'_4 (((60 : Int32) * p1) + y0).toNatClampNeg x3_2) t_wide'_2)) rfl 0 rfl rfl rfl (As := [.int p1]) (rest := []) rfl rfl ⟨rfl, rfl, Nat.le_of_ble_eq_true rfl, Nat.le_of_ble_eq_true rfl⟩ (Nat.le_of_ble_eq_true rfl) (Nat.zero_le _) (Nat.zero_le _) dX12_adds_127 (fun H locs hW => ?_)
    clear hC13
    have hq := Option.some.inj hF
    subst hq
    exact hret _ _ _ _ hW dX12_adds_130
  clear hF
  have hF := hX4
  clear hX4
  refine lv_icmp_le (tgt := 26) hx hb dX12_adds_14 (by decide) (fun c14 => ?_) (fun c14 => ?_)
  · have hF := if_y c14 hF
    refine lv_aload_n hx hb dX12_adds_26 rfl (lv_at hl 1 rfl) ?_
    refine m_get X hW fdX12_26 0 rfl rfl dX12_adds_27 ?_
    refine lv_iload_n hx hb dX12_adds_30 rfl (lv_at hl 3 rfl) ?_
    refine m_iald X hW 2 (k := p2.toNatClampNeg) rfl g2 rfl dX12_adds_31 ?_
    cases hF
    exact J3 _ _ _ hW (lv_sub hl [0, 1, 2, 3] rfl)
  · have hF := if_n c14 hF
    refine lv_aload_n hx hb dX12_adds_17 rfl (lv_at hl 1 rfl) ?_
    refine m_get X hW fdX12_26 0 rfl rfl dX12_adds_18 ?_
    refine lv_iload_n hx hb dX12_adds_21 rfl (lv_at hl 2 rfl) ?_
    refine m_iald X hW 2 (k := p1.toNatClampNeg) rfl g1 rfl dX12_adds_22 ?_
    refine lv_goto (tgt := 32) hx hb dX12_adds_23 (by decide) ?_
    cases hF
    exact J3 _ _ _ hW (lv_sub hl [0, 1, 2, 3] rfl)
