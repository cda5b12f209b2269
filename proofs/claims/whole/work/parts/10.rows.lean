abbrev wd_Floor_makeEmpty (E : m_E) (a_t : Nat) (a_t_place : Nat) (a_t_way : Nat) (a_t_tell : Nat) (a_t_look : Nat) (a_t_farSquare : Nat) (t_pillars : Int64) (t_weavers : Int32) (t_farSquare : Nat → Int32) : va_W := [(a_t, .inr (1, [.long t_pillars, .int t_weavers, .ref a_t_place, .ref a_t_way, .ref a_t_tell, .ref a_t_look, .ref a_t_farSquare])), (a_t_farSquare, .inl (E.2.1 0, 2, .inl t_farSquare))]
def rm_Floor_makeEmpty : Room := { frames := 0, cells := 0, slots := 0, locals := 0 }
set_option maxHeartbeats 4000000 in
set_option maxRecDepth 100000 in
theorem c_Floor_makeEmpty (l : Launch) (E : m_E) (sz N : Nat) (a_t : Nat) (a_t_place : Nat) (a_t_way : Nat) (a_t_tell : Nat) (a_t_look : Nat) (a_t_farSquare : Nat) (t_pillars : Int64) (t_weavers : Int32) (t_farSquare : Nat → Int32)  (ures : Int64 × Int32 × (Nat → Int32)) (hF : F_Floor_makeEmpty t_farSquare = some ures) : m_Met l yX1_makeEmpty cX1_makeEmpty 1 none rm_Floor_makeEmpty E (wd_Floor_makeEmpty E a_t a_t_place a_t_way a_t_tell a_t_look a_t_farSquare t_pillars t_weavers t_farSquare) (wd_Floor_makeEmpty E a_t a_t_place a_t_way a_t_tell a_t_look a_t_farSquare ures.1 ures.2.1 ures.2.2) sz [.ref a_t] none := by
  refine m_ofV (by decide) (Nat.le_of_ble_eq_true rfl) ?_
  intro p e s m args below meth c A Q ls X hW hA hl hret
  obtain ⟨hx, hb, -, hown, hts, hK, -, hG⟩ := id X
  have hl : lv_has ls 1 [(0, .ref a_t)] := hl
  unfold F_Floor_makeEmpty at hF
  refine lv_aload_n hx hb dX1_makeEmpty_0 rfl (lv_at hl 0 rfl) ?_
  refine lv_lconst (v := (0 : Int64)) hx hb dX1_makeEmpty_1 (by decide) ?_
  refine m_putf X hW fdX1_30 0 rfl (Nat.le_of_ble_eq_true rfl) rfl rfl dX1_makeEmpty_2 (ws' := (wd_Floor_makeEmpty E a_t a_t_place a_t_way a_t_tell a_t_look a_t_farSquare (0 : Int64) t_weavers t_farSquare)) rfl (fun H locs hW => ?_)
  refine lv_aload_n hx hb dX1_makeEmpty_5 rfl (lv_at hl 0 rfl) ?_
  refine lv_iconst (v := (0 : Int32)) hx hb dX1_makeEmpty_6 (by decide) ?_
  refine m_putf X hW fdX1_34 0 rfl (Nat.le_of_ble_eq_true rfl) rfl rfl dX1_makeEmpty_7 (ws' := (wd_Floor_makeEmpty E a_t a_t_place a_t_way a_t_tell a_t_look a_t_farSquare (0 : Int64) (0 : Int32) t_farSquare)) rfl (fun H locs hW => ?_)
  refine lv_aload_n hx hb dX1_makeEmpty_10 rfl (lv_at hl 0 rfl) ?_
  refine m_get X hW fdX1_24 0 rfl rfl dX1_makeEmpty_11 ?_
  refine lv_iconst (v := (0 : Int32)) hx hb dX1_makeEmpty_14 (by decide) ?_
  refine lv_bipush (v := (18 : Int32)) hx hb dX1_makeEmpty_15 (by decide) ?_
  refine m_iast X hW 1 (k := 0) rfl (by decide) rfl dX1_makeEmpty_17 (ws' := (wd_Floor_makeEmpty E a_t a_t_place a_t_way a_t_tell a_t_look a_t_farSquare (0 : Int64) (0 : Int32) (upd t_farSquare 0 (18 : Int32)))) rfl (fun H locs hW => ?_)
  refine lv_aload_n hx hb dX1_makeEmpty_18 rfl (lv_at hl 0 rfl) ?_
  refine m_get X hW fdX1_24 0 rfl rfl dX1_makeEmpty_19 ?_
  refine lv_iconst (v := (1 : Int32)) hx hb dX1_makeEmpty_22 (by decide) ?_
  refine lv_bipush (v := (50 : Int32)) hx hb dX1_makeEmpty_23 (by decide) ?_
  refine m_iast X hW 1 (k := 1) rfl (by decide) rfl dX1_makeEmpty_25 (ws' := (wd_Floor_makeEmpty E a_t a_t_place a_t_way a_t_tell a_t_look a_t_farSquare (0 : Int64) (0 : Int32) (upd (upd t_farSquare 0 (18 : Int32)) 1 (50 : Int32)))) rfl (fun H locs hW => ?_)
  have hq := Option.some.inj hF
  subst hq
  exact hret _ _ _ _ hW dX1_makeEmpty_26
abbrev wd_Lexicon_makeEmpty (E : m_E) (a_t : Nat) (a_t_length : Nat) (a_t_number : Nat) (a_t_weight : Nat) (a_t_row : Nat) (a_t_lipsOf : Nat) (a_t_others : Nat) (a_t_leastLike : Nat) (t_words : Int32) (t_rowLips : Int32) (t_girlKnows : Int32) (t_leastLike : Nat → Int32) : va_W := [(a_t, .inr (3, [.int t_words, .ref a_t_length, .ref a_t_number, .ref a_t_weight, .ref a_t_leastLike, .ref a_t_row, .int t_rowLips, .int t_girlKnows, .ref a_t_lipsOf, .ref a_t_others])), (a_t_leastLike, .inl (E.2.1 0, 6, .inl t_leastLike))]
def rm_Lexicon_makeEmpty : Room := { frames := 0, cells := 0, slots := 0, locals := 0 }
set_option maxHeartbeats 4000000 in
set_option maxRecDepth 100000 in
theorem c_Lexicon_makeEmpty (l : Launch) (E : m_E) (sz N : Nat) (a_t : Nat) (a_t_length : Nat) (a_t_number : Nat) (a_t_weight : Nat) (a_t_row : Nat) (a_t_lipsOf : Nat) (a_t_others : Nat) (a_t_leastLike : Nat) (t_words : Int32) (t_rowLips : Int32) (t_girlKnows : Int32) (t_leastLike : Nat → Int32)  (ures : Int32 × Int32 × Int32 × (Nat → Int32)) (hF : F_Lexicon_makeEmpty N t_leastLike = some ures) : m_Met l yX3_makeEmpty cX3_makeEmpty 2 none rm_Lexicon_makeEmpty E (wd_Lexicon_makeEmpty E a_t a_t_length a_t_number a_t_weight a_t_row a_t_lipsOf a_t_others a_t_leastLike t_words t_rowLips t_girlKnows t_leastLike) (wd_Lexicon_makeEmpty E a_t a_t_length a_t_number a_t_weight a_t_row a_t_lipsOf a_t_others a_t_leastLike ures.1 ures.2.1 ures.2.2.1 ures.2.2.2) sz [.ref a_t] none := by
  refine m_ofV (by decide) (Nat.le_of_ble_eq_true rfl) ?_
  intro p e s m args below meth c A Q ls X hW hA hl hret
  obtain ⟨hx, hb, -, hown, hts, hK, -, hG⟩ := id X
  have hl : lv_has ls 2 [(0, .ref a_t)] := hl
  unfold F_Lexicon_makeEmpty at hF
  refine lv_aload_n hx hb dX3_makeEmpty_0 rfl (lv_at hl 0 rfl) ?_
  refine lv_iconst (v := (0 : Int32)) hx hb dX3_makeEmpty_1 (by decide) ?_
  refine m_putf X hW fdX3_36 0 rfl (Nat.le_of_ble_eq_true rfl) rfl rfl dX3_makeEmpty_2 (ws' := (wd_Lexicon_makeEmpty E a_t a_t_length a_t_number a_t_weight a_t_row a_t_lipsOf a_t_others a_t_leastLike (0 : Int32) t_rowLips t_girlKnows t_leastLike)) rfl (fun H locs hW => ?_)
  refine lv_aload_n hx hb dX3_makeEmpty_5 rfl (lv_at hl 0 rfl) ?_
  refine lv_iconst (v := (0 : Int32)) hx hb dX3_makeEmpty_6 (by decide) ?_
  refine m_putf X hW fdX3_40 0 rfl (Nat.le_of_ble_eq_true rfl) rfl rfl dX3_makeEmpty_7 (ws' := (wd_Lexicon_makeEmpty E a_t a_t_length a_t_number a_t_weight a_t_row a_t_lipsOf a_t_others a_t_leastLike (0 : Int32) (0 : Int32) t_girlKnows t_leastLike)) rfl (fun H locs hW => ?_)
  refine lv_aload_n hx hb dX3_makeEmpty_10 rfl (lv_at hl 0 rfl) ?_
  refine lv_iconst (v := (0 : Int32)) hx hb dX3_makeEmpty_11 (by decide) ?_
  refine m_putf X hW fdX3_43 0 rfl (Nat.le_of_ble_eq_true rfl) rfl rfl dX3_makeEmpty_12 (ws' := (wd_Lexicon_makeEmpty E a_t a_t_length a_t_number a_t_weight a_t_row a_t_lipsOf a_t_others a_t_leastLike (0 : Int32) (0 : Int32) (0 : Int32) t_leastLike)) rfl (fun H locs hW => ?_)
  refine lv_iconst (v := (0 : Int32)) hx hb dX3_makeEmpty_15 (by decide) ?_
  refine lv_istore_n (lv' := [(1, .int (0 : Int32)), (0, .ref a_t)]) hx hb dX3_makeEmpty_16 rfl hl (by decide) rfl (fun ls hl => ?_)
  obtain ⟨t_leastLike'_4, hX2, hF⟩ := bO_s1 hF
  have L1 : ∀ (k0 : Nat) (x1 : Int32) (t_leastLike'_3 : Nat → Int32) (t_leastLike'_4 : Nat → Int32) (H : Heap) (locs : List Loc) (ls : Array Slot), Lexicon_makeEmpty_L17  k0 x1 t_leastLike'_3 = some t_leastLike'_4 → m_H E A (wd_Lexicon_makeEmpty E a_t a_t_length a_t_number a_t_weight a_t_row a_t_lipsOf a_t_others a_t_leastLike (0 : Int32) (0 : Int32) (0 : Int32) t_leastLike'_3) s.heap H locs → lv_has ls 2 [(1, .int x1), (0, .ref a_t)] → (∀ (H : Heap) (locs : List Loc) (ls : Array Slot), m_H E A (wd_Lexicon_makeEmpty E a_t a_t_length a_t_number a_t_weight a_t_row a_t_lipsOf a_t_others a_t_leastLike (0 : Int32) (0 : Int32) (0 : Int32) t_leastLike'_4) s.heap H locs → lv_has ls 2 [] → W p l e rm_Lexicon_makeEmpty s m args below meth c H locs 0 0 Q (F0 m 36 ls [])) → W p l e rm_Lexicon_makeEmpty s m args below meth c H locs 0 0 Q (F0 m 17 ls []) := by
    clear hF
    intro k0
    induction k0 with
    | zero =>
      intro x1 t_leastLike'_3 t_leastLike'_4 H locs ls hF
      cases hF
    | succ k0 ih4 =>
      intro x1 t_leastLike'_3 t_leastLike'_4 H locs ls hF hW hl hk3
      rw [Lexicon_makeEmpty_L17] at hF
      refine lv_iload_n hx hb dX3_makeEmpty_17 rfl (lv_at hl 0 rfl) ?_
      refine lv_bipush (v := (6 : Int32)) hx hb dX3_makeEmpty_18 (by decide) ?_
      refine lv_icmp_ge (tgt := 36) hx hb dX3_makeEmpty_20 (by decide) (fun c5 => ?_) (fun c5 => ?_)
      · have hF := if_y c5 hF
        cases hF
        exact hk3 _ _ _ hW (lv_sub hl [] rfl)
      · have hF := if_n c5 hF
        refine lv_aload_n hx hb dX3_makeEmpty_23 rfl (lv_at hl 1 rfl) ?_
        refine m_get X hW fdX3_21 0 rfl rfl dX3_makeEmpty_24 ?_
        refine lv_iload_n hx hb dX3_makeEmpty_27 rfl (lv_at hl 0 rfl) ?_
        refine lv_iload_n hx hb dX3_makeEmpty_28 rfl (lv_at hl 0 rfl) ?_
        obtain ⟨g6, hF⟩ := gd_some hF
        refine m_iast X hW 1 (k := x1.toNatClampNeg) rfl g6 rfl dX3_makeEmpty_29 (ws' := (wd_Lexicon_makeEmpty E a_t a_t_length a_t_number a_t_weight a_t_row a_t_lipsOf a_t_others a_t_leastLike (0 : Int32) (0 : Int32) (0 : Int32) (upd t_leastLike'_3 x1.toNatClampNeg x1))) rfl (fun H locs hW => ?_)
        refine lv_iinc (v := (x1 + (1 : Int32))) (lv' := [(1, .int (x1 + (1 : Int32))), (0, .ref a_t)]) hx hb dX3_makeEmpty_30 hl (k := 0) rfl rfl (by decide) rfl (fun ls hl => ?_)
        refine lv_goto (tgt := 17) hx hb dX3_makeEmpty_33 (by decide) ?_
        exact ih4 (x1 + (1 : Int32)) (upd t_leastLike'_3 x1.toNatClampNeg x1) t_leastLike'_4 _ _ _ hF hW (lv_sub hl [0, 1] rfl) hk3
  refine L1 N (0 : Int32) t_leastLike t_leastLike'_4 _ _ _ hX2 hW (lv_sub hl [0, 1] rfl) ?_
  intro H locs ls hW hl
  clear L1
  have hq := Option.some.inj hF
  subst hq
  exact hret _ _ _ _ hW dX3_makeEmpty_36
abbrev wd_Natural_put (E : m_E) (a_t : Nat) (a_t_limb : Nat) (t_limbs : Int32) (t_limb : Nat → Int32) : va_W := [(a_t, .inr (4, [.ref a_t_limb, .int t_limbs])), (a_t_limb, .inl (E.2.1 0, 40, .inl t_limb))]
def rm_Natural_put : Room := { frames := 0, cells := 0, slots := 0, locals := 0 }
set_option maxHeartbeats 4000000 in
set_option maxRecDepth 100000 in
theorem c_Natural_put (l : Launch) (E : m_E) (sz N : Nat) (a_t : Nat) (a_t_limb : Nat) (t_limbs : Int32) (t_limb : Nat → Int32) (p1 : Int32) (ures : Int32 × (Nat → Int32)) (hF : F_Natural_put p1 t_limb = some ures) : m_Met l yX4_put cX4_put 2 none rm_Natural_put E (wd_Natural_put E a_t a_t_limb t_limbs t_limb) (wd_Natural_put E a_t a_t_limb ures.1 ures.2) sz [.ref a_t, .int p1] none := by
  refine m_ofV (by decide) (Nat.le_of_ble_eq_true rfl) ?_
  intro p e s m args below meth c A Q ls X hW hA hl hret
  obtain ⟨hx, hb, -, hown, hts, hK, -, hG⟩ := id X
  have hl : lv_has ls 2 [(0, .ref a_t), (1, .int p1)] := hl
  unfold F_Natural_put at hF
  refine lv_aload_n hx hb dX4_put_0 rfl (lv_at hl 0 rfl) ?_
  refine m_get X hW fdX4_11 0 rfl rfl dX4_put_1 ?_
  refine lv_iconst (v := (0 : Int32)) hx hb dX4_put_4 (by decide) ?_
  refine lv_iload_n hx hb dX4_put_5 rfl (lv_at hl 1 rfl) ?_
  refine m_iast X hW 1 (k := 0) rfl (by decide) rfl dX4_put_6 (ws' := (wd_Natural_put E a_t a_t_limb t_limbs (upd t_limb 0 p1))) rfl (fun H locs hW => ?_)
  refine lv_aload_n hx hb dX4_put_7 rfl (lv_at hl 0 rfl) ?_
  refine lv_iload_n hx hb dX4_put_8 rfl (lv_at hl 1 rfl) ?_
  refine lv_if_ne (tgt := 16) hx hb dX4_put_9 (by decide) (fun c1 => ?_) (fun c1 => ?_)
  · have hF := if_n c1 hF
    refine lv_iconst (v := (1 : Int32)) hx hb dX4_put_16 (by decide) ?_
    refine m_putf X hW fdX4_15 0 rfl (Nat.le_of_ble_eq_true rfl) rfl rfl dX4_put_17 (ws' := (wd_Natural_put E a_t a_t_limb (1 : Int32) (upd t_limb 0 p1))) rfl (fun H locs hW => ?_)
    have hq := Option.some.inj hF
    subst hq
    exact hret _ _ _ _ hW dX4_put_20
  · have hF := if_y c1 hF
    refine lv_iconst (v := (0 : Int32)) hx hb dX4_put_12 (by decide) ?_
    refine lv_goto (tgt := 17) hx hb dX4_put_13 (by decide) ?_
    refine m_putf X hW fdX4_15 0 rfl (Nat.le_of_ble_eq_true rfl) rfl rfl dX4_put_17 (ws' := (wd_Natural_put E a_t a_t_limb (0 : Int32) (upd t_limb 0 p1))) rfl (fun H locs hW => ?_)
    have hq := Option.some.inj hF
    subst hq
    exact hret _ _ _ _ hW dX4_put_20
abbrev wd_S_within (E : m_E)   : va_W := []
def rm_S_within : Room := { frames := 0, cells := 0, slots := 0, locals := 0 }
set_option maxHeartbeats 4000000 in
set_option maxRecDepth 100000 in
theorem c_S_within (l : Launch) (E : m_E) (sz N : Nat)   (p1 : Int32) (p2 : Int32) (p3 : Int32) (ures : Int32) (hF : F_S_within p1 p2 p3 = ures) : m_Met l yX11_within cX11_within 3 (some .boolean) rm_S_within E (wd_S_within E) (wd_S_within E) sz [.int p1, .int p2, .int p3] (some (.int ures)) := by
  refine m_ofZ (by decide) (Nat.le_of_ble_eq_true rfl) ?_
  intro p e s m args below meth c A Q ls X hW hA hl hret
  obtain ⟨hx, hb, -, hown, hts, hK, -, hG⟩ := id X
  have hl : lv_has ls 3 [(0, .int p1), (1, .int p2), (2, .int p3)] := hl
  unfold F_S_within at hF
  refine lv_iload_n hx hb dX11_within_0 rfl (lv_at hl 1 rfl) ?_
  refine lv_iload_n hx hb dX11_within_1 rfl (lv_at hl 0 rfl) ?_
  refine lv_icmp_gt (tgt := 14) hx hb dX11_within_2 (by decide) (fun c1 => ?_) (fun c1 => ?_)
  · have hF := if_y c1 hF
    refine lv_iconst (v := (0 : Int32)) hx hb dX11_within_14 (by decide) ?_
    have hq := hF
    subst hq
    exact hret _ _ _ _ _ rfl hW dX11_within_15
  · have hF := if_n c1 hF
    refine lv_iload_n hx hb dX11_within_5 rfl (lv_at hl 0 rfl) ?_
    refine lv_iload_n hx hb dX11_within_6 rfl (lv_at hl 2 rfl) ?_
    refine lv_icmp_gt (tgt := 14) hx hb dX11_within_7 (by decide) (fun c2 => ?_) (fun c2 => ?_)
    · have hF := if_y c2 hF
      refine lv_iconst (v := (0 : Int32)) hx hb dX11_within_14 (by decide) ?_
      have hq := hF
      subst hq
      exact hret _ _ _ _ _ rfl hW dX11_within_15
    · have hF := if_n c2 hF
      refine lv_iconst (v := (1 : Int32)) hx hb dX11_within_10 (by decide) ?_
      refine lv_goto (tgt := 15) hx hb dX11_within_11 (by decide) ?_
      have hq := hF
      subst hq
      exact hret _ _ _ _ _ rfl hW dX11_within_15
abbrev wd_Floor_hasWeaver (E : m_E) (a_t : Nat) (a_t_way : Nat) (a_t_tell : Nat) (a_t_look : Nat) (a_t_farSquare : Nat) (a_t_place : Nat) (t_pillars : Int64) (t_weavers : Int32) (t_place : Nat → Int32) : va_W := [(a_t, .inr (1, [.long t_pillars, .int t_weavers, .ref a_t_place, .ref a_t_way, .ref a_t_tell, .ref a_t_look, .ref a_t_farSquare])), (a_t_place, .inl (E.2.1 0, 8, .inl t_place))]
def rm_Floor_hasWeaver : Room := { frames := 0, cells := 0, slots := 0, locals := 0 }
set_option maxHeartbeats 4000000 in
set_option maxRecDepth 100000 in
theorem c_Floor_hasWeaver (l : Launch) (E : m_E) (sz N : Nat) (a_t : Nat) (a_t_way : Nat) (a_t_tell : Nat) (a_t_look : Nat) (a_t_farSquare : Nat) (a_t_place : Nat) (t_pillars : Int64) (t_weavers : Int32) (t_place : Nat → Int32) (p1 : Int32) (ures : Int32) (hF : F_Floor_hasWeaver N p1 t_weavers t_place = some ures) : m_Met l yX1_hasWeaver cX1_hasWeaver 3 (some .boolean) rm_Floor_hasWeaver E (wd_Floor_hasWeaver E a_t a_t_way a_t_tell a_t_look a_t_farSquare a_t_place t_pillars t_weavers t_place) (wd_Floor_hasWeaver E a_t a_t_way a_t_tell a_t_look a_t_farSquare a_t_place t_pillars t_weavers t_place) sz [.ref a_t, .int p1] (some (.int ures)) := by
  refine m_ofZ (by decide) (Nat.le_of_ble_eq_true rfl) ?_
  intro p e s m args below meth c A Q ls X hW hA hl hret
  obtain ⟨hx, hb, -, hown, hts, hK, -, hG⟩ := id X
  have hl : lv_has ls 3 [(0, .ref a_t), (1, .int p1)] := hl
  unfold F_Floor_hasWeaver at hF
  refine lv_iconst (v := (0 : Int32)) hx hb dX1_hasWeaver_0 (by decide) ?_
  refine lv_istore_n (lv' := [(2, .int (0 : Int32)), (0, .ref a_t), (1, .int p1)]) hx hb dX1_hasWeaver_1 rfl hl (by decide) rfl (fun ls hl => ?_)
  obtain ⟨out6, hX2, hr5, hF⟩ := bT_s0 hF
  have L1 : ∀ (k0 : Nat) (x2 : Int32) (out8 : (Int32) ⊕ Unit)  (H : Heap) (locs : List Loc) (ls : Array Slot), Floor_hasWeaver_L2 t_weavers t_place p1 k0 x2 = some out8 → m_H E A (wd_Floor_hasWeaver E a_t a_t_way a_t_tell a_t_look a_t_farSquare a_t_place t_pillars t_weavers t_place) s.heap H locs → lv_has ls 3 [(2, .int x2), (0, .ref a_t), (1, .int p1)] → (∀ a, out8 = .inl a → a = ures) → (∀  (H : Heap) (locs : List Loc) (ls : Array Slot), out8 = .inr () → m_H E A (wd_Floor_hasWeaver E a_t a_t_way a_t_tell a_t_look a_t_farSquare a_t_place t_pillars t_weavers t_place) s.heap H locs → lv_has ls 3 [] → W p l e rm_Floor_hasWeaver s m args below meth c H locs 0 0 Q (F0 m 28 ls [])) → W p l e rm_Floor_hasWeaver s m args below meth c H locs 0 0 Q (F0 m 2 ls []) := by
    clear hF
    intro k0
    induction k0 with
    | zero =>
      intro x2 out8 H locs ls hF
      cases hF
    | succ k0 ih4 =>
      intro x2 out8 H locs ls hF hW hl hr7 hk3
      rw [Floor_hasWeaver_L2] at hF
      refine lv_iload_n hx hb dX1_hasWeaver_2 rfl (lv_at hl 0 rfl) ?_
      refine lv_aload_n hx hb dX1_hasWeaver_3 rfl (lv_at hl 1 rfl) ?_
      refine m_get X hW fdX1_34 0 rfl rfl dX1_hasWeaver_4 ?_
      refine lv_icmp_ge (tgt := 28) hx hb dX1_hasWeaver_7 (by decide) (fun c9 => ?_) (fun c9 => ?_)
      · have hF := if_y c9 hF
        exact hk3  _ _ _ (Option.some.inj hF).symm hW (lv_sub hl [] rfl)
      · have hF := if_n c9 hF
        refine lv_aload_n hx hb dX1_hasWeaver_10 rfl (lv_at hl 1 rfl) ?_
        refine m_get X hW fdX1_11 0 rfl rfl dX1_hasWeaver_11 ?_
        refine lv_iload_n hx hb dX1_hasWeaver_14 rfl (lv_at hl 0 rfl) ?_
        obtain ⟨g10, hF⟩ := gd_some hF
        refine m_iald X hW 1 (k := x2.toNatClampNeg) rfl g10 rfl dX1_hasWeaver_15 ?_
        refine lv_iload_n hx hb dX1_hasWeaver_16 rfl (lv_at hl 2 rfl) ?_
        refine lv_icmp_ne (tgt := 22) hx hb dX1_hasWeaver_17 (by decide) (fun c11 => ?_) (fun c11 => ?_)
        · have hF := if_n c11 hF
          refine lv_iinc (v := (x2 + (1 : Int32))) (lv' := [(2, .int (x2 + (1 : Int32))), (0, .ref a_t), (1, .int p1)]) hx hb dX1_hasWeaver_22 hl (k := 0) rfl rfl (by decide) rfl (fun ls hl => ?_)
          refine lv_goto (tgt := 2) hx hb dX1_hasWeaver_25 (by decide) ?_
          exact ih4 (x2 + (1 : Int32)) out8 _ _ _ hF hW (lv_sub hl [0, 1, 2] rfl) hr7 hk3
        · have hF := if_y c11 hF
          refine lv_iconst (v := (1 : Int32)) hx hb dX1_hasWeaver_20 (by decide) ?_
          have hq := (Option.some.inj hF).symm
          have hq := hr7 _ hq
          subst hq
          exact hret _ _ _ _ _ rfl hW dX1_hasWeaver_21
  refine L1 N (0 : Int32) out6 _ _ _ hX2 hW (lv_sub hl [0, 1, 2] rfl) hr5 ?_
  intro  H locs ls ho hW hl
  have hF := hF  ho
  clear L1
  refine lv_iconst (v := (0 : Int32)) hx hb dX1_hasWeaver_28 (by decide) ?_
  have hq := Option.some.inj hF
  subst hq
  exact hret _ _ _ _ _ rfl hW dX1_hasWeaver_29
abbrev wd_Floor_hasPillar (E : m_E) (a_t : Nat) (a_t_place : Nat) (a_t_way : Nat) (a_t_tell : Nat) (a_t_look : Nat) (a_t_farSquare : Nat) (t_pillars : Int64) (t_weavers : Int32) : va_W := [(a_t, .inr (1, [.long t_pillars, .int t_weavers, .ref a_t_place, .ref a_t_way, .ref a_t_tell, .ref a_t_look, .ref a_t_farSquare]))]
def rm_Floor_hasPillar : Room := { frames := 0, cells := 0, slots := 0, locals := 0 }
set_option maxHeartbeats 4000000 in
set_option maxRecDepth 100000 in
theorem c_Floor_hasPillar (l : Launch) (E : m_E) (sz N : Nat) (a_t : Nat) (a_t_place : Nat) (a_t_way : Nat) (a_t_tell : Nat) (a_t_look : Nat) (a_t_farSquare : Nat) (t_pillars : Int64) (t_weavers : Int32) (p1 : Int32) (ures : Int32) (hF : F_Floor_hasPillar p1 t_pillars = ures) : m_Met l yX1_hasPillar cX1_hasPillar 2 (some .boolean) rm_Floor_hasPillar E (wd_Floor_hasPillar E a_t a_t_place a_t_way a_t_tell a_t_look a_t_farSquare t_pillars t_weavers) (wd_Floor_hasPillar E a_t a_t_place a_t_way a_t_tell a_t_look a_t_farSquare t_pillars t_weavers) sz [.ref a_t, .int p1] (some (.int ures)) := by
  refine m_ofZ (by decide) (Nat.le_of_ble_eq_true rfl) ?_
  intro p e s m args below meth c A Q ls X hW hA hl hret
  obtain ⟨hx, hb, -, hown, hts, hK, -, hG⟩ := id X
  have hl : lv_has ls 2 [(0, .ref a_t), (1, .int p1)] := hl
  unfold F_Floor_hasPillar at hF
  refine lv_aload_n hx hb dX1_hasPillar_0 rfl (lv_at hl 0 rfl) ?_
  refine m_get X hW fdX1_30 0 rfl rfl dX1_hasPillar_1 ?_
  refine lv_iload_n hx hb dX1_hasPillar_4 rfl (lv_at hl 1 rfl) ?_
  refine m_lushr hx hb dX1_hasPillar_5 ?_
  refine lv_lconst (v := (1 : Int64)) hx hb dX1_hasPillar_6 (by decide) ?_
  refine lv_land hx hb dX1_hasPillar_7 ?_
  refine lv_lconst (v := (0 : Int64)) hx hb dX1_hasPillar_8 (by decide) ?_
  refine W.lcmp hx hb dX1_hasPillar_9 ?_
  refine lv_if_eq (tgt := 17) hx hb dX1_hasPillar_10 (by decide) (fun c1 => ?_) (fun c1 => ?_)
  · have hF := if_y c1 hF
    refine lv_iconst (v := (0 : Int32)) hx hb dX1_hasPillar_17 (by decide) ?_
    have hq := hF
    subst hq
    exact hret _ _ _ _ _ rfl hW dX1_hasPillar_18
  · have hF := if_n c1 hF
    refine lv_iconst (v := (1 : Int32)) hx hb dX1_hasPillar_13 (by decide) ?_
    refine lv_goto (tgt := 18) hx hb dX1_hasPillar_14 (by decide) ?_
    have hq := hF
    subst hq
    exact hret _ _ _ _ _ rfl hW dX1_hasPillar_18
abbrev wd_Floor_putPillar (E : m_E) (a_t : Nat) (a_t_way : Nat) (a_t_tell : Nat) (a_t_look : Nat) (a_t_farSquare : Nat) (a_t_place : Nat) (t_pillars : Int64) (t_weavers : Int32) (t_place : Nat → Int32) : va_W := [(a_t, .inr (1, [.long t_pillars, .int t_weavers, .ref a_t_place, .ref a_t_way, .ref a_t_tell, .ref a_t_look, .ref a_t_farSquare])), (a_t_place, .inl (E.2.1 0, 8, .inl t_place))]
def rm_Floor_putPillar : Room := { frames := 1, cells := 0, slots := 0, locals := 22 }
set_option maxHeartbeats 4000000 in
set_option maxRecDepth 100000 in
theorem c_Floor_putPillar (l : Launch) (E : m_E) (sz N : Nat) (a_t : Nat) (a_t_way : Nat) (a_t_tell : Nat) (a_t_look : Nat) (a_t_farSquare : Nat) (a_t_place : Nat) (t_pillars : Int64) (t_weavers : Int32) (t_place : Nat → Int32) (p1 : Int32) (ures : Int32 × Int64) (hF : F_Floor_putPillar N p1 t_pillars t_weavers t_place = some ures) : m_Met l yX1_putPillar cX1_putPillar 2 (some .int) rm_Floor_putPillar E (wd_Floor_putPillar E a_t a_t_way a_t_tell a_t_look a_t_farSquare a_t_place t_pillars t_weavers t_place) (wd_Floor_putPillar E a_t a_t_way a_t_tell a_t_look a_t_farSquare a_t_place ures.2 t_weavers t_place) sz [.ref a_t, .int p1] (some (.int ures.1)) := by
  refine m_ofI (by decide) (Nat.le_of_ble_eq_true rfl) ?_
  intro p e s m args below meth c A Q ls X hW hA hl hret
  obtain ⟨hx, hb, -, hown, hts, hK, -, hG⟩ := id X
  have hl : lv_has ls 2 [(0, .ref a_t), (1, .int p1)] := hl
  unfold F_Floor_putPillar at hF
  refine lv_iload_n hx hb dX1_putPillar_0 rfl (lv_at hl 1 rfl) ?_
  refine lv_iconst (v := (0 : Int32)) hx hb dX1_putPillar_1 (by decide) ?_
  refine lv_bipush (v := (63 : Int32)) hx hb dX1_putPillar_2 (by decide) ?_
  refine m_callN X hW hA hl.1 lkX1_44 (c_S_within l E _ N   p1 (0 : Int32) (63 : Int32) (F_S_within p1 (0 : Int32) (63 : Int32)) rfl) ([]) (by decide) rfl rfl (ws' := (wd_Floor_putPillar E a_t a_t_way a_t_tell a_t_look a_t_farSquare a_t_place t_pillars t_weavers t_place)) rfl (As := [.int p1, .int (0 : Int32), .int (63 : Int32)]) (rest := []) rfl rfl ⟨rfl, rfl, Nat.le_of_ble_eq_true rfl, Nat.le_of_ble_eq_true rfl⟩ (Nat.le_of_ble_eq_true rfl) (Nat.zero_le _) (Nat.zero_le _) dX1_putPillar_4 (fun H locs hW => ?_)
  refine lv_if_eq (tgt := 18) hx hb dX1_putPillar_7 (by decide) (fun c1 => ?_) (fun c1 => ?_)
  · have hF := if_y c1 hF
    refine lv_bipush (v := (-2 : Int32)) hx hb dX1_putPillar_18 (by decide) ?_
    have hq := Option.some.inj hF
    subst hq
    exact hret _ _ _ _ hW dX1_putPillar_20
  · have hF := if_n c1 hF
    refine lv_aload_n hx hb dX1_putPillar_10 rfl (lv_at hl 0 rfl) ?_
    refine lv_iload_n hx hb dX1_putPillar_11 rfl (lv_at hl 1 rfl) ?_
    obtain ⟨r12, hC2, hF⟩ := bO_s1 hF
    refine m_callV X hW hA hl.1 lkX1_52 (c_Floor_hasWeaver l E _ N a_t a_t_way a_t_tell a_t_look a_t_farSquare a_t_place t_pillars t_weavers t_place p1 r12 hC2) ([0, 1]) (by decide) rfl rfl (ws' := (wd_Floor_putPillar E a_t a_t_way a_t_tell a_t_look a_t_farSquare a_t_place t_pillars t_weavers t_place)) rfl 0 rfl rfl rfl (As := [.int p1]) (rest := []) rfl rfl ⟨rfl, rfl, Nat.le_of_ble_eq_true rfl, Nat.le_of_ble_eq_true rfl⟩ (Nat.le_of_ble_eq_true rfl) (Nat.zero_le _) (Nat.zero_le _) dX1_putPillar_12 (fun H locs hW => ?_)
    clear hC2
    refine lv_if_eq (tgt := 21) hx hb dX1_putPillar_15 (by decide) (fun c3 => ?_) (fun c3 => ?_)
    · have hF := if_y c3 hF
      refine lv_aload_n hx hb dX1_putPillar_21 rfl (lv_at hl 0 rfl) ?_
      refine lv_iload_n hx hb dX1_putPillar_22 rfl (lv_at hl 1 rfl) ?_
      refine m_callV X hW hA hl.1 lkX1_55 (c_Floor_hasPillar l E _ N a_t a_t_place a_t_way a_t_tell a_t_look a_t_farSquare t_pillars t_weavers p1 (F_Floor_hasPillar p1 t_pillars) rfl) ([0]) (by decide) rfl rfl (ws' := (wd_Floor_putPillar E a_t a_t_way a_t_tell a_t_look a_t_farSquare a_t_place t_pillars t_weavers t_place)) rfl 0 rfl rfl rfl (As := [.int p1]) (rest := []) rfl rfl ⟨rfl, rfl, Nat.le_of_ble_eq_true rfl, Nat.le_of_ble_eq_true rfl⟩ (Nat.le_of_ble_eq_true rfl) (Nat.zero_le _) (Nat.zero_le _) dX1_putPillar_23 (fun H locs hW => ?_)
      refine lv_if_eq (tgt := 32) hx hb dX1_putPillar_26 (by decide) (fun c4 => ?_) (fun c4 => ?_)
      · have hF := if_y c4 hF
        refine lv_aload_n hx hb dX1_putPillar_32 rfl (lv_at hl 0 rfl) ?_
        refine lv_dup hx hb dX1_putPillar_33 rfl ?_
        refine m_get X hW fdX1_30 0 rfl rfl dX1_putPillar_34 ?_
        refine lv_lconst (v := (1 : Int64)) hx hb dX1_putPillar_37 (by decide) ?_
        refine lv_iload_n hx hb dX1_putPillar_38 rfl (lv_at hl 1 rfl) ?_
        refine m_lshl hx hb dX1_putPillar_39 ?_
        refine lv_lor hx hb dX1_putPillar_40 ?_
        refine m_putf X hW fdX1_30 0 rfl (Nat.le_of_ble_eq_true rfl) rfl rfl dX1_putPillar_41 (ws' := (wd_Floor_putPillar E a_t a_t_way a_t_tell a_t_look a_t_farSquare a_t_place (t_pillars ||| (jshlL (1 : Int64) p1)) t_weavers t_place)) rfl (fun H locs hW => ?_)
        refine lv_iconst (v := (1 : Int32)) hx hb dX1_putPillar_44 (by decide) ?_
        have hq := Option.some.inj hF
        subst hq
        exact hret _ _ _ _ hW dX1_putPillar_45
      · have hF := if_n c4 hF
        refine lv_bipush (v := (-3 : Int32)) hx hb dX1_putPillar_29 (by decide) ?_
        have hq := Option.some.inj hF
        subst hq
        exact hret _ _ _ _ hW dX1_putPillar_31
    · have hF := if_n c3 hF
      refine lv_bipush (v := (-2 : Int32)) hx hb dX1_putPillar_18 (by decide) ?_
      have hq := Option.some.inj hF
      subst hq
      exact hret _ _ _ _ hW dX1_putPillar_20
abbrev wd_S_pillar (E : m_E) (a_t : Nat) (a_t_draft : Nat) (a_t_firstImage : Nat) (a_t_secondImage : Nat) (a_t_news : Nat) (a_t_otherNews : Nat) (a_t_readings : Nat) (a_t_chances : Nat) (a_t_turning : Nat) (a_t_text : Nat) (a_t_fraction : Nat) (a_t_now : Nat) (a_t_now_sightings : Nat) (a_t_now_lexicon : Nat) (a_t_now_level : Nat) (a_t_now_loss : Nat) (a_t_now_floor : Nat) (a_t_now_floor_way : Nat) (a_t_now_floor_tell : Nat) (a_t_now_floor_look : Nat) (a_t_now_floor_farSquare : Nat) (a_t_now_floor_place : Nat) (t_now_clearness : Int32) (t_now_isKept : Int32) (t_now_floor_pillars : Int64) (t_now_floor_weavers : Int32) (t_now_floor_place : Nat → Int32) : va_W := [(a_t, .inr (11, [.ref a_t_now, .ref a_t_draft, .ref a_t_firstImage, .ref a_t_secondImage, .ref a_t_news, .ref a_t_otherNews, .ref a_t_readings, .ref a_t_chances, .ref a_t_turning, .ref a_t_text, .ref a_t_fraction])), (a_t_now, .inr (7, [.ref a_t_now_floor, .ref a_t_now_sightings, .ref a_t_now_lexicon, .ref a_t_now_level, .ref a_t_now_loss, .int t_now_clearness, .int t_now_isKept])), (a_t_now_floor, .inr (1, [.long t_now_floor_pillars, .int t_now_floor_weavers, .ref a_t_now_floor_place, .ref a_t_now_floor_way, .ref a_t_now_floor_tell, .ref a_t_now_floor_look, .ref a_t_now_floor_farSquare])), (a_t_now_floor_place, .inl (E.2.1 0, 8, .inl t_now_floor_place))]
def rm_S_pillar : Room := { frames := 2, cells := 0, slots := 0, locals := 43 }
set_option maxHeartbeats 4000000 in
set_option maxRecDepth 100000 in
theorem c_S_pillar (l : Launch) (E : m_E) (sz N : Nat) (a_t : Nat) (a_t_draft : Nat) (a_t_firstImage : Nat) (a_t_secondImage : Nat) (a_t_news : Nat) (a_t_otherNews : Nat) (a_t_readings : Nat) (a_t_chances : Nat) (a_t_turning : Nat) (a_t_text : Nat) (a_t_fraction : Nat) (a_t_now : Nat) (a_t_now_sightings : Nat) (a_t_now_lexicon : Nat) (a_t_now_level : Nat) (a_t_now_loss : Nat) (a_t_now_floor : Nat) (a_t_now_floor_way : Nat) (a_t_now_floor_tell : Nat) (a_t_now_floor_look : Nat) (a_t_now_floor_farSquare : Nat) (a_t_now_floor_place : Nat) (t_now_clearness : Int32) (t_now_isKept : Int32) (t_now_floor_pillars : Int64) (t_now_floor_weavers : Int32) (t_now_floor_place : Nat → Int32) (p1 : Int32) (ures : Int32 × Int64) (hF : F_S_pillar N p1 t_now_floor_pillars t_now_floor_weavers t_now_floor_place = some ures) : m_Met l yX11_pillar cX11_pillar 2 (some .int) rm_S_pillar E (wd_S_pillar E a_t a_t_draft a_t_firstImage a_t_secondImage a_t_news a_t_otherNews a_t_readings a_t_chances a_t_turning a_t_text a_t_fraction a_t_now a_t_now_sightings a_t_now_lexicon a_t_now_level a_t_now_loss a_t_now_floor a_t_now_floor_way a_t_now_floor_tell a_t_now_floor_look a_t_now_floor_farSquare a_t_now_floor_place t_now_clearness t_now_isKept t_now_floor_pillars t_now_floor_weavers t_now_floor_place) (wd_S_pillar E a_t a_t_draft a_t_firstImage a_t_secondImage a_t_news a_t_otherNews a_t_readings a_t_chances a_t_turning a_t_text a_t_fraction a_t_now a_t_now_sightings a_t_now_lexicon a_t_now_level a_t_now_loss a_t_now_floor a_t_now_floor_way a_t_now_floor_tell a_t_now_floor_look a_t_now_floor_farSquare a_t_now_floor_place t_now_clearness t_now_isKept ures.2 t_now_floor_weavers t_now_floor_place) sz [.ref a_t, .int p1] (some (.int ures.1)) := by
  refine m_ofI (by decide) (Nat.le_of_ble_eq_true rfl) ?_
  intro p e s m args below meth c A Q ls X hW hA hl hret
  obtain ⟨hx, hb, -, hown, hts, hK, -, hG⟩ := id X
  have hl : lv_has ls 2 [(0, .ref a_t), (1, .int p1)] := hl
  unfold F_S_pillar at hF
  refine lv_aload_n hx hb dX11_pillar_0 rfl (lv_at hl 0 rfl) ?_
  refine m_get X hW fdX11_10 0 rfl rfl dX11_pillar_1 ?_
  refine m_get X hW fdX11_70 1 rfl rfl dX11_pillar_4 ?_
  refine lv_iload_n hx hb dX11_pillar_7 rfl (lv_at hl 1 rfl) ?_
  obtain ⟨r8, t_now_floor_pillars'_2, hC1, hF⟩ := bO_s2 hF
  refine m_callV X hW hA hl.1 lkX11_74 (c_Floor_putPillar l E _ N a_t_now_floor a_t_now_floor_way a_t_now_floor_tell a_t_now_floor_look a_t_now_floor_farSquare a_t_now_floor_place t_now_floor_pillars t_now_floor_weavers t_now_floor_place p1 (r8, t_now_floor_pillars'_2) hC1) ([2, 3]) (by decide) rfl rfl (ws' := (wd_S_pillar E a_t a_t_draft a_t_firstImage a_t_secondImage a_t_news a_t_otherNews a_t_readings a_t_chances a_t_turning a_t_text a_t_fraction a_t_now a_t_now_sightings a_t_now_lexicon a_t_now_level a_t_now_loss a_t_now_floor a_t_now_floor_way a_t_now_floor_tell a_t_now_floor_look a_t_now_floor_farSquare a_t_now_floor_place t_now_clearness t_now_isKept t_now_floor_pillars'_2 t_now_floor_weavers t_now_floor_place)) rfl 2 rfl rfl rfl (As := [.int p1]) (rest := []) rfl rfl ⟨rfl, rfl, Nat.le_of_ble_eq_true rfl, Nat.le_of_ble_eq_true rfl⟩ (Nat.le_of_ble_eq_true rfl) (Nat.zero_le _) (Nat.zero_le _) dX11_pillar_8 (fun H locs hW => ?_)
  clear hC1
  have hq := Option.some.inj hF
  subst hq
  exact hret _ _ _ _ hW dX11_pillar_11
abbrev wd_Floor_putWeaver (E : m_E) (a_t : Nat) (a_t_farSquare : Nat) (a_t_place : Nat) (a_t_way : Nat) (a_t_tell : Nat) (a_t_look : Nat) (t_pillars : Int64) (t_weavers : Int32) (t_place : Nat → Int32) (t_way : Nat → Int32) (t_tell : Nat → Int32) (t_look : Nat → Int32) : va_W := [(a_t, .inr (1, [.long t_pillars, .int t_weavers, .ref a_t_place, .ref a_t_way, .ref a_t_tell, .ref a_t_look, .ref a_t_farSquare])), (a_t_place, .inl (E.2.1 0, 8, .inl t_place)), (a_t_way, .inl (E.2.1 0, 8, .inl t_way)), (a_t_tell, .inl (E.2.1 0, 8, .inl t_tell)), (a_t_look, .inl (E.2.1 0, 8, .inl t_look))]
def rm_Floor_putWeaver : Room := { frames := 1, cells := 0, slots := 0, locals := 22 }
set_option maxHeartbeats 4000000 in
set_option maxRecDepth 100000 in
theorem c_Floor_putWeaver (l : Launch) (E : m_E) (sz N : Nat) (a_t : Nat) (a_t_farSquare : Nat) (a_t_place : Nat) (a_t_way : Nat) (a_t_tell : Nat) (a_t_look : Nat) (t_pillars : Int64) (t_weavers : Int32) (t_place : Nat → Int32) (t_way : Nat → Int32) (t_tell : Nat → Int32) (t_look : Nat → Int32) (p1 : Int32) (p2 : Int32) (ures : Int32 × Int32 × (Nat → Int32) × (Nat → Int32) × (Nat → Int32) × (Nat → Int32)) (hF : F_Floor_putWeaver N p1 p2 t_pillars t_weavers t_place t_way t_tell t_look = some ures) : m_Met l yX1_putWeaver cX1_putWeaver 3 (some .int) rm_Floor_putWeaver E (wd_Floor_putWeaver E a_t a_t_farSquare a_t_place a_t_way a_t_tell a_t_look t_pillars t_weavers t_place t_way t_tell t_look) (wd_Floor_putWeaver E a_t a_t_farSquare a_t_place a_t_way a_t_tell a_t_look t_pillars ures.2.1 ures.2.2.1 ures.2.2.2.1 ures.2.2.2.2.1 ures.2.2.2.2.2) sz [.ref a_t, .int p1, .int p2] (some (.int ures.1)) := by
  refine m_ofI (by decide) (Nat.le_of_ble_eq_true rfl) ?_
  intro p e s m args below meth c A Q ls X hW hA hl hret
  obtain ⟨hx, hb, -, hown, hts, hK, -, hG⟩ := id X
  have hl : lv_has ls 3 [(0, .ref a_t), (1, .int p1), (2, .int p2)] := hl
  unfold F_Floor_putWeaver at hF
  refine lv_iload_n hx hb dX1_putWeaver_0 rfl (lv_at hl 1 rfl) ?_
  refine lv_iconst (v := (0 : Int32)) hx hb dX1_putWeaver_1 (by decide) ?_
  refine lv_bipush (v := (63 : Int32)) hx hb dX1_putWeaver_2 (by decide) ?_
  refine m_callN X hW hA hl.1 lkX1_44 (c_S_within l E _ N   p1 (0 : Int32) (63 : Int32) (F_S_within p1 (0 : Int32) (63 : Int32)) rfl) ([]) (by decide) rfl rfl (ws' := (wd_Floor_putWeaver E a_t a_t_farSquare a_t_place a_t_way a_t_tell a_t_look t_pillars t_weavers t_place t_way t_tell t_look)) rfl (As := [.int p1, .int (0 : Int32), .int (63 : Int32)]) (rest := []) rfl rfl ⟨rfl, rfl, Nat.le_of_ble_eq_true rfl, Nat.le_of_ble_eq_true rfl⟩ (Nat.le_of_ble_eq_true rfl) (Nat.zero_le _) (Nat.zero_le _) dX1_putWeaver_4 (fun H locs hW => ?_)
  refine lv_if_eq (tgt := 35) hx hb dX1_putWeaver_7 (by decide) (fun c1 => ?_) (fun c1 => ?_)
  · have hF := if_y c1 hF
    refine lv_bipush (v := (-2 : Int32)) hx hb dX1_putWeaver_35 (by decide) ?_
    have hq := Option.some.inj hF
    subst hq
    exact hret _ _ _ _ hW dX1_putWeaver_37
  · have hF := if_n c1 hF
    refine lv_iload_n hx hb dX1_putWeaver_10 rfl (lv_at hl 2 rfl) ?_
    refine lv_iconst (v := (0 : Int32)) hx hb dX1_putWeaver_11 (by decide) ?_
    refine lv_iconst (v := (3 : Int32)) hx hb dX1_putWeaver_12 (by decide) ?_
    refine m_callN X hW hA hl.1 lkX1_44 (c_S_within l E _ N   p2 (0 : Int32) (3 : Int32) (F_S_within p2 (0 : Int32) (3 : Int32)) rfl) ([]) (by decide) rfl rfl (ws' := (wd_Floor_putWeaver E a_t a_t_farSquare a_t_place a_t_way a_t_tell a_t_look t_pillars t_weavers t_place t_way t_tell t_look)) rfl (As := [.int p2, .int (0 : Int32), .int (3 : Int32)]) (rest := []) rfl rfl ⟨rfl, rfl, Nat.le_of_ble_eq_true rfl, Nat.le_of_ble_eq_true rfl⟩ (Nat.le_of_ble_eq_true rfl) (Nat.zero_le _) (Nat.zero_le _) dX1_putWeaver_13 (fun H locs hW => ?_)
    refine lv_if_eq (tgt := 35) hx hb dX1_putWeaver_16 (by decide) (fun c2 => ?_) (fun c2 => ?_)
    · have hF := if_y c2 hF
      refine lv_bipush (v := (-2 : Int32)) hx hb dX1_putWeaver_35 (by decide) ?_
      have hq := Option.some.inj hF
      subst hq
      exact hret _ _ _ _ hW dX1_putWeaver_37
    · have hF := if_n c2 hF
      refine lv_aload_n hx hb dX1_putWeaver_19 rfl (lv_at hl 0 rfl) ?_
      refine lv_iload_n hx hb dX1_putWeaver_20 rfl (lv_at hl 1 rfl) ?_
      refine m_callV X hW hA hl.1 lkX1_55 (c_Floor_hasPillar l E _ N a_t a_t_place a_t_way a_t_tell a_t_look a_t_farSquare t_pillars t_weavers p1 (F_Floor_hasPillar p1 t_pillars) rfl) ([0]) (by decide) rfl rfl (ws' := (wd_Floor_putWeaver E a_t a_t_farSquare a_t_place a_t_way a_t_tell a_t_look t_pillars t_weavers t_place t_way t_tell t_look)) rfl 0 rfl rfl rfl (As := [.int p1]) (rest := []) rfl rfl ⟨rfl, rfl, Nat.le_of_ble_eq_true rfl, Nat.le_of_ble_eq_true rfl⟩ (Nat.le_of_ble_eq_true rfl) (Nat.zero_le _) (Nat.zero_le _) dX1_putWeaver_21 (fun H locs hW => ?_)
      refine lv_if_ne (tgt := 35) hx hb dX1_putWeaver_24 (by decide) (fun c3 => ?_) (fun c3 => ?_)
      · have hF := if_n c3 hF
        refine lv_bipush (v := (-2 : Int32)) hx hb dX1_putWeaver_35 (by decide) ?_
        have hq := Option.some.inj hF
        subst hq
        exact hret _ _ _ _ hW dX1_putWeaver_37
      · have hF := if_y c3 hF
        refine lv_aload_n hx hb dX1_putWeaver_27 rfl (lv_at hl 0 rfl) ?_
        refine lv_iload_n hx hb dX1_putWeaver_28 rfl (lv_at hl 1 rfl) ?_
        obtain ⟨r29, hC4, hF⟩ := bO_s1 hF
        refine m_callV X hW hA hl.1 lkX1_52 (c_Floor_hasWeaver l E _ N a_t a_t_way a_t_tell a_t_look a_t_farSquare a_t_place t_pillars t_weavers t_place p1 r29 hC4) ([0, 1]) (by decide) rfl rfl (ws' := (wd_Floor_putWeaver E a_t a_t_farSquare a_t_place a_t_way a_t_tell a_t_look t_pillars t_weavers t_place t_way t_tell t_look)) rfl 0 rfl rfl rfl (As := [.int p1]) (rest := []) rfl rfl ⟨rfl, rfl, Nat.le_of_ble_eq_true rfl, Nat.le_of_ble_eq_true rfl⟩ (Nat.le_of_ble_eq_true rfl) (Nat.zero_le _) (Nat.zero_le _) dX1_putWeaver_29 (fun H locs hW => ?_)
        clear hC4
        refine lv_if_eq (tgt := 38) hx hb dX1_putWeaver_32 (by decide) (fun c5 => ?_) (fun c5 => ?_)
        · have hF := if_y c5 hF
          refine lv_aload_n hx hb dX1_putWeaver_38 rfl (lv_at hl 0 rfl) ?_
          refine m_get X hW fdX1_34 0 rfl rfl dX1_putWeaver_39 ?_
          refine lv_bipush (v := (8 : Int32)) hx hb dX1_putWeaver_42 (by decide) ?_
          refine lv_icmp_lt (tgt := 50) hx hb dX1_putWeaver_44 (by decide) (fun c6 => ?_) (fun c6 => ?_)
          · have hF := if_y c6 hF
            refine lv_aload_n hx hb dX1_putWeaver_50 rfl (lv_at hl 0 rfl) ?_
            refine m_get X hW fdX1_11 0 rfl rfl dX1_putWeaver_51 ?_
            refine lv_aload_n hx hb dX1_putWeaver_54 rfl (lv_at hl 0 rfl) ?_
            refine m_get X hW fdX1_34 0 rfl rfl dX1_putWeaver_55 ?_
            refine lv_iload_n hx hb dX1_putWeaver_58 rfl (lv_at hl 1 rfl) ?_
            obtain ⟨g7, hF⟩ := gd_some hF
            refine m_iast X hW 1 (k := t_weavers.toNatClampNeg) rfl g7 rfl dX1_putWeaver_59 (ws' := (wd_Floor_putWeaver E a_t a_t_farSquare a_t_place a_t_way a_t_tell a_t_look t_pillars t_weavers (upd t_place t_weavers.toNatClampNeg p1) t_way t_tell t_look)) rfl (fun H locs hW => ?_)
            refine lv_aload_n hx hb dX1_putWeaver_60 rfl (lv_at hl 0 rfl) ?_
            refine m_get X hW fdX1_15 0 rfl rfl dX1_putWeaver_61 ?_
            refine lv_aload_n hx hb dX1_putWeaver_64 rfl (lv_at hl 0 rfl) ?_
            refine m_get X hW fdX1_34 0 rfl rfl dX1_putWeaver_65 ?_
            refine lv_iload_n hx hb dX1_putWeaver_68 rfl (lv_at hl 2 rfl) ?_
            refine m_iast X hW 2 (k := t_weavers.toNatClampNeg) rfl g7 rfl dX1_putWeaver_69 (ws' := (wd_Floor_putWeaver E a_t a_t_farSquare a_t_place a_t_way a_t_tell a_t_look t_pillars t_weavers (upd t_place t_weavers.toNatClampNeg p1) (upd t_way t_weavers.toNatClampNeg p2) t_tell t_look)) rfl (fun H locs hW => ?_)
            refine lv_aload_n hx hb dX1_putWeaver_70 rfl (lv_at hl 0 rfl) ?_
            refine m_get X hW fdX1_18 0 rfl rfl dX1_putWeaver_71 ?_
            refine lv_aload_n hx hb dX1_putWeaver_74 rfl (lv_at hl 0 rfl) ?_
            refine m_get X hW fdX1_34 0 rfl rfl dX1_putWeaver_75 ?_
            refine lv_sipush (v := (4095 : Int32)) hx hb dX1_putWeaver_78 (by decide) ?_
            refine m_iast X hW 3 (k := t_weavers.toNatClampNeg) rfl g7 rfl dX1_putWeaver_81 (ws' := (wd_Floor_putWeaver E a_t a_t_farSquare a_t_place a_t_way a_t_tell a_t_look t_pillars t_weavers (upd t_place t_weavers.toNatClampNeg p1) (upd t_way t_weavers.toNatClampNeg p2) (upd t_tell t_weavers.toNatClampNeg (4095 : Int32)) t_look)) rfl (fun H locs hW => ?_)
            refine lv_aload_n hx hb dX1_putWeaver_82 rfl (lv_at hl 0 rfl) ?_
            refine m_get X hW fdX1_21 0 rfl rfl dX1_putWeaver_83 ?_
            refine lv_aload_n hx hb dX1_putWeaver_86 rfl (lv_at hl 0 rfl) ?_
            refine m_get X hW fdX1_34 0 rfl rfl dX1_putWeaver_87 ?_
            refine lv_sipush (v := (4095 : Int32)) hx hb dX1_putWeaver_90 (by decide) ?_
            refine m_iast X hW 4 (k := t_weavers.toNatClampNeg) rfl g7 rfl dX1_putWeaver_93 (ws' := (wd_Floor_putWeaver E a_t a_t_farSquare a_t_place a_t_way a_t_tell a_t_look t_pillars t_weavers (upd t_place t_weavers.toNatClampNeg p1) (upd t_way t_weavers.toNatClampNeg p2) (upd t_tell t_weavers.toNatClampNeg (4095 : Int32)) (upd t_look t_weavers.toNatClampNeg (4095 : Int32)))) rfl (fun H locs hW => ?_)
            refine lv_aload_n hx hb dX1_putWeaver_94 rfl (lv_at hl 0 rfl) ?_
            refine lv_dup hx hb dX1_putWeaver_95 rfl ?_
            refine m_get X hW fdX1_34 0 rfl rfl dX1_putWeaver_96 ?_
            refine lv_iconst (v := (1 : Int32)) hx hb dX1_putWeaver_99 (by decide) ?_
            refine lv_iadd hx hb dX1_putWeaver_100 ?_
            refine m_putf X hW fdX1_34 0 rfl (Nat.le_of_ble_eq_true rfl) rfl rfl dX1_putWeaver_101 (ws' := (wd_Floor_putWeaver E a_t a_t_farSquare a_t_place a_t_way a_t_tell a_t_look t_pillars (t_weavers + (1 : Int32)) (upd t_place t_weavers.toNatClampNeg p1) (upd t_way t_weavers.toNatClampNeg p2) (upd t_tell t_weavers.toNatClampNeg (4095 : Int32)) (upd t_look t_weavers.toNatClampNeg (4095 : Int32)))) rfl (fun H locs hW => ?_)
            refine lv_aload_n hx hb dX1_putWeaver_104 rfl (lv_at hl 0 rfl) ?_
            refine m_get X hW fdX1_34 0 rfl rfl dX1_putWeaver_105 ?_
            refine lv_iconst (v := (1 : Int32)) hx hb dX1_putWeaver_108 (by decide) ?_
            refine lv_isub hx hb dX1_putWeaver_109 ?_
            have hq := Option.some.inj hF
            subst hq
            exact hret _ _ _ _ hW dX1_putWeaver_110
          · have hF := if_n c6 hF
            refine lv_bipush (v := (-4 : Int32)) hx hb dX1_putWeaver_47 (by decide) ?_
            have hq := Option.some.inj hF
            subst hq
            exact hret _ _ _ _ hW dX1_putWeaver_49
        · have hF := if_n c5 hF
          refine lv_bipush (v := (-2 : Int32)) hx hb dX1_putWeaver_35 (by decide) ?_
          have hq := Option.some.inj hF
          subst hq
          exact hret _ _ _ _ hW dX1_putWeaver_37
abbrev wd_S_weaver (E : m_E) (a_t : Nat) (a_t_draft : Nat) (a_t_firstImage : Nat) (a_t_secondImage : Nat) (a_t_news : Nat) (a_t_otherNews : Nat) (a_t_readings : Nat) (a_t_chances : Nat) (a_t_turning : Nat) (a_t_text : Nat) (a_t_fraction : Nat) (a_t_now : Nat) (a_t_now_sightings : Nat) (a_t_now_lexicon : Nat) (a_t_now_level : Nat) (a_t_now_loss : Nat) (a_t_now_floor : Nat) (a_t_now_floor_farSquare : Nat) (a_t_now_floor_place : Nat) (a_t_now_floor_way : Nat) (a_t_now_floor_tell : Nat) (a_t_now_floor_look : Nat) (t_now_clearness : Int32) (t_now_isKept : Int32) (t_now_floor_pillars : Int64) (t_now_floor_weavers : Int32) (t_now_floor_place : Nat → Int32) (t_now_floor_way : Nat → Int32) (t_now_floor_tell : Nat → Int32) (t_now_floor_look : Nat → Int32) : va_W := [(a_t, .inr (11, [.ref a_t_now, .ref a_t_draft, .ref a_t_firstImage, .ref a_t_secondImage, .ref a_t_news, .ref a_t_otherNews, .ref a_t_readings, .ref a_t_chances, .ref a_t_turning, .ref a_t_text, .ref a_t_fraction])), (a_t_now, .inr (7, [.ref a_t_now_floor, .ref a_t_now_sightings, .ref a_t_now_lexicon, .ref a_t_now_level, .ref a_t_now_loss, .int t_now_clearness, .int t_now_isKept])), (a_t_now_floor, .inr (1, [.long t_now_floor_pillars, .int t_now_floor_weavers, .ref a_t_now_floor_place, .ref a_t_now_floor_way, .ref a_t_now_floor_tell, .ref a_t_now_floor_look, .ref a_t_now_floor_farSquare])), (a_t_now_floor_place, .inl (E.2.1 0, 8, .inl t_now_floor_place)), (a_t_now_floor_way, .inl (E.2.1 0, 8, .inl t_now_floor_way)), (a_t_now_floor_tell, .inl (E.2.1 0, 8, .inl t_now_floor_tell)), (a_t_now_floor_look, .inl (E.2.1 0, 8, .inl t_now_floor_look))]
def rm_S_weaver : Room := { frames := 2, cells := 0, slots := 0, locals := 44 }
set_option maxHeartbeats 4000000 in
set_option maxRecDepth 100000 in
theorem c_S_weaver (l : Launch) (E : m_E) (sz N : Nat) (a_t : Nat) (a_t_draft : Nat) (a_t_firstImage : Nat) (a_t_secondImage : Nat) (a_t_news : Nat) (a_t_otherNews : Nat) (a_t_readings : Nat) (a_t_chances : Nat) (a_t_turning : Nat) (a_t_text : Nat) (a_t_fraction : Nat) (a_t_now : Nat) (a_t_now_sightings : Nat) (a_t_now_lexicon : Nat) (a_t_now_level : Nat) (a_t_now_loss : Nat) (a_t_now_floor : Nat) (a_t_now_floor_farSquare : Nat) (a_t_now_floor_place : Nat) (a_t_now_floor_way : Nat) (a_t_now_floor_tell : Nat) (a_t_now_floor_look : Nat) (t_now_clearness : Int32) (t_now_isKept : Int32) (t_now_floor_pillars : Int64) (t_now_floor_weavers : Int32) (t_now_floor_place : Nat → Int32) (t_now_floor_way : Nat → Int32) (t_now_floor_tell : Nat → Int32) (t_now_floor_look : Nat → Int32) (p1 : Int32) (p2 : Int32) (ures : Int32 × Int32 × (Nat → Int32) × (Nat → Int32) × (Nat → Int32) × (Nat → Int32)) (hF : F_S_weaver N p1 p2 t_now_floor_pillars t_now_floor_weavers t_now_floor_place t_now_floor_way t_now_floor_tell t_now_floor_look = some ures) : m_Met l yX11_weaver cX11_weaver 3 (some .int) rm_S_weaver E (wd_S_weaver E a_t a_t_draft a_t_firstImage a_t_secondImage a_t_news a_t_otherNews a_t_readings a_t_chances a_t_turning a_t_text a_t_fraction a_t_now a_t_now_sightings a_t_now_lexicon a_t_now_level a_t_now_loss a_t_now_floor a_t_now_floor_farSquare a_t_now_floor_place a_t_now_floor_way a_t_now_floor_tell a_t_now_floor_look t_now_clearness t_now_isKept t_now_floor_pillars t_now_floor_weavers t_now_floor_place t_now_floor_way t_now_floor_tell t_now_floor_look) (wd_S_weaver E a_t a_t_draft a_t_firstImage a_t_secondImage a_t_news a_t_otherNews a_t_readings a_t_chances a_t_turning a_t_text a_t_fraction a_t_now a_t_now_sightings a_t_now_lexicon a_t_now_level a_t_now_loss a_t_now_floor a_t_now_floor_farSquare a_t_now_floor_place a_t_now_floor_way a_t_now_floor_tell a_t_now_floor_look t_now_clearness t_now_isKept t_now_floor_pillars ures.2.1 ures.2.2.1 ures.2.2.2.1 ures.2.2.2.2.1 ures.2.2.2.2.2) sz [.ref a_t, .int p1, .int p2] (some (.int ures.1)) := by
  refine m_ofI (by decide) (Nat.le_of_ble_eq_true rfl) ?_
  intro p e s m args below meth c A Q ls X hW hA hl hret
  obtain ⟨hx, hb, -, hown, hts, hK, -, hG⟩ := id X
  have hl : lv_has ls 3 [(0, .ref a_t), (1, .int p1), (2, .int p2)] := hl
  unfold F_S_weaver at hF
  refine lv_aload_n hx hb dX11_weaver_0 rfl (lv_at hl 0 rfl) ?_
  refine m_get X hW fdX11_10 0 rfl rfl dX11_weaver_1 ?_
  refine m_get X hW fdX11_70 1 rfl rfl dX11_weaver_4 ?_
  refine lv_iload_n hx hb dX11_weaver_7 rfl (lv_at hl 1 rfl) ?_
  refine lv_iload_n hx hb dX11_weaver_8 rfl (lv_at hl 2 rfl) ?_
  obtain ⟨r9, t_now_floor_weavers'_2, t_now_floor_place'_2, t_now_floor_way'_2, t_now_floor_tell'_2, t_now_floor_look'_2, hC1, hF⟩ := bO_s6 hF
  refine m_callV X hW hA hl.1 lkX11_80 (c_Floor_putWeaver l E _ N a_t_now_floor a_t_now_floor_farSquare a_t_now_floor_place a_t_now_floor_way a_t_now_floor_tell a_t_now_floor_look t_now_floor_pillars t_now_floor_weavers t_now_floor_place t_now_floor_way t_now_floor_tell t_now_floor_look p1 p2 (r9, t_now_floor_weavers'_2, t_now_floor_place'_2, t_now_floor_way'_2, t_now_floor_tell'_2, t_now_floor_look'_2) hC1) ([2, 3, 4, 5, 6]) (by decide) rfl rfl (ws' := (wd_S_weaver E a_t a_t_draft a_t_firstImage a_t_secondImage a_t_news a_t_otherNews a_t_readings a_t_chances a_t_turning a_t_text a_t_fraction a_t_now a_t_now_sightings a_t_now_lexicon a_t_now_level a_t_now_loss a_t_now_floor a_t_now_floor_farSquare a_t_now_floor_place a_t_now_floor_way a_t_now_floor_tell a_t_now_floor_look t_now_clearness t_now_isKept t_now_floor_pillars t_now_floor_weavers'_2 t_now_floor_place'_2 t_now_floor_way'_2 t_now_floor_tell'_2 t_now_floor_look'_2)) rfl 2 rfl rfl rfl (As := [.int p1, .int p2]) (rest := []) rfl rfl ⟨rfl, rfl, Nat.le_of_ble_eq_true rfl, Nat.le_of_ble_eq_true rfl⟩ (Nat.le_of_ble_eq_true rfl) (Nat.zero_le _) (Nat.zero_le _) dX11_weaver_9 (fun H locs hW => ?_)
  clear hC1
  have hq := Option.some.inj hF
  subst hq
  exact hret _ _ _ _ hW dX11_weaver_12
abbrev wd_Floor_isWeaver (E : m_E) (a_t : Nat) (a_t_place : Nat) (a_t_way : Nat) (a_t_tell : Nat) (a_t_look : Nat) (a_t_farSquare : Nat) (t_pillars : Int64) (t_weavers : Int32) : va_W := [(a_t, .inr (1, [.long t_pillars, .int t_weavers, .ref a_t_place, .ref a_t_way, .ref a_t_tell, .ref a_t_look, .ref a_t_farSquare]))]
def rm_Floor_isWeaver : Room := { frames := 1, cells := 0, slots := 0, locals := 22 }
set_option maxHeartbeats 4000000 in
set_option maxRecDepth 100000 in
theorem c_Floor_isWeaver (l : Launch) (E : m_E) (sz N : Nat) (a_t : Nat) (a_t_place : Nat) (a_t_way : Nat) (a_t_tell : Nat) (a_t_look : Nat) (a_t_farSquare : Nat) (t_pillars : Int64) (t_weavers : Int32) (p1 : Int32) (ures : Int32) (hF : F_Floor_isWeaver p1 t_weavers = ures) : m_Met l yX1_isWeaver cX1_isWeaver 2 (some .boolean) rm_Floor_isWeaver E (wd_Floor_isWeaver E a_t a_t_place a_t_way a_t_tell a_t_look a_t_farSquare t_pillars t_weavers) (wd_Floor_isWeaver E a_t a_t_place a_t_way a_t_tell a_t_look a_t_farSquare t_pillars t_weavers) sz [.ref a_t, .int p1] (some (.int ures)) := by
  refine m_ofZ (by decide) (Nat.le_of_ble_eq_true rfl) ?_
  intro p e s m args below meth c A Q ls X hW hA hl hret
  obtain ⟨hx, hb, -, hown, hts, hK, -, hG⟩ := id X
  have hl : lv_has ls 2 [(0, .ref a_t), (1, .int p1)] := hl
  unfold F_Floor_isWeaver at hF
  refine lv_iload_n hx hb dX1_isWeaver_0 rfl (lv_at hl 1 rfl) ?_
  refine lv_iconst (v := (0 : Int32)) hx hb dX1_isWeaver_1 (by decide) ?_
  refine lv_aload_n hx hb dX1_isWeaver_2 rfl (lv_at hl 0 rfl) ?_
  refine m_get X hW fdX1_34 0 rfl rfl dX1_isWeaver_3 ?_
  refine lv_iconst (v := (1 : Int32)) hx hb dX1_isWeaver_6 (by decide) ?_
  refine lv_isub hx hb dX1_isWeaver_7 ?_
  refine m_callN X hW hA hl.1 lkX1_44 (c_S_within l E _ N   p1 (0 : Int32) (t_weavers - (1 : Int32)) (F_S_within p1 (0 : Int32) (t_weavers - (1 : Int32))) rfl) ([]) (by decide) rfl rfl (ws' := (wd_Floor_isWeaver E a_t a_t_place a_t_way a_t_tell a_t_look a_t_farSquare t_pillars t_weavers)) rfl (As := [.int p1, .int (0 : Int32), .int (t_weavers - (1 : Int32))]) (rest := []) rfl rfl ⟨rfl, rfl, Nat.le_of_ble_eq_true rfl, Nat.le_of_ble_eq_true rfl⟩ (Nat.le_of_ble_eq_true rfl) (Nat.zero_le _) (Nat.zero_le _) dX1_isWeaver_8 (fun H locs hW => ?_)
  have hq := hF
  subst hq
  exact hret _ _ _ _ _ rfl hW dX1_isWeaver_11
abbrev wd_Floor_turn (E : m_E) (a_t : Nat) (a_t_place : Nat) (a_t_tell : Nat) (a_t_look : Nat) (a_t_farSquare : Nat) (a_t_way : Nat) (t_pillars : Int64) (t_weavers : Int32) (t_way : Nat → Int32) : va_W := [(a_t, .inr (1, [.long t_pillars, .int t_weavers, .ref a_t_place, .ref a_t_way, .ref a_t_tell, .ref a_t_look, .ref a_t_farSquare])), (a_t_way, .inl (E.2.1 0, 8, .inl t_way))]
def rm_Floor_turn : Room := { frames := 2, cells := 0, slots := 0, locals := 43 }
set_option maxHeartbeats 4000000 in
set_option maxRecDepth 100000 in
theorem c_Floor_turn (l : Launch) (E : m_E) (sz N : Nat) (a_t : Nat) (a_t_place : Nat) (a_t_tell : Nat) (a_t_look : Nat) (a_t_farSquare : Nat) (a_t_way : Nat) (t_pillars : Int64) (t_weavers : Int32) (t_way : Nat → Int32) (p1 : Int32) (p2 : Int32) (ures : Int32 × (Nat → Int32)) (hF : F_Floor_turn p1 p2 t_weavers t_way = some ures) : m_Met l yX1_turn cX1_turn 4 (some .int) rm_Floor_turn E (wd_Floor_turn E a_t a_t_place a_t_tell a_t_look a_t_farSquare a_t_way t_pillars t_weavers t_way) (wd_Floor_turn E a_t a_t_place a_t_tell a_t_look a_t_farSquare a_t_way t_pillars t_weavers ures.2) sz [.ref a_t, .int p1, .int p2] (some (.int ures.1)) := by
  refine m_ofI (by decide) (Nat.le_of_ble_eq_true rfl) ?_
  intro p e s m args below meth c A Q ls X hW hA hl hret
  obtain ⟨hx, hb, -, hown, hts, hK, -, hG⟩ := id X
  have hl : lv_has ls 4 [(0, .ref a_t), (1, .int p1), (2, .int p2)] := hl
  unfold F_Floor_turn at hF
  refine lv_aload_n hx hb dX1_turn_0 rfl (lv_at hl 0 rfl) ?_
  refine lv_iload_n hx hb dX1_turn_1 rfl (lv_at hl 1 rfl) ?_
  refine m_callV X hW hA hl.1 lkX1_48 (c_Floor_isWeaver l E _ N a_t a_t_place a_t_way a_t_tell a_t_look a_t_farSquare t_pillars t_weavers p1 (F_Floor_isWeaver p1 t_weavers) rfl) ([0]) (by decide) rfl rfl (ws' := (wd_Floor_turn E a_t a_t_place a_t_tell a_t_look a_t_farSquare a_t_way t_pillars t_weavers t_way)) rfl 0 rfl rfl rfl (As := [.int p1]) (rest := []) rfl rfl ⟨rfl, rfl, Nat.le_of_ble_eq_true rfl, Nat.le_of_ble_eq_true rfl⟩ (Nat.le_of_ble_eq_true rfl) (Nat.zero_le _) (Nat.zero_le _) dX1_turn_2 (fun H locs hW => ?_)
  refine lv_if_eq (tgt := 17) hx hb dX1_turn_5 (by decide) (fun c1 => ?_) (fun c1 => ?_)
  · have hF := if_y c1 hF
    refine lv_bipush (v := (-2 : Int32)) hx hb dX1_turn_17 (by decide) ?_
    have hq := Option.some.inj hF
    subst hq
    exact hret _ _ _ _ hW dX1_turn_19
  · have hF := if_n c1 hF
    refine lv_iload_n hx hb dX1_turn_8 rfl (lv_at hl 2 rfl) ?_
    refine lv_iconst (v := (0 : Int32)) hx hb dX1_turn_9 (by decide) ?_
    refine lv_iconst (v := (3 : Int32)) hx hb dX1_turn_10 (by decide) ?_
    refine m_callN X hW hA hl.1 lkX1_44 (c_S_within l E _ N   p2 (0 : Int32) (3 : Int32) (F_S_within p2 (0 : Int32) (3 : Int32)) rfl) ([]) (by decide) rfl rfl (ws' := (wd_Floor_turn E a_t a_t_place a_t_tell a_t_look a_t_farSquare a_t_way t_pillars t_weavers t_way)) rfl (As := [.int p2, .int (0 : Int32), .int (3 : Int32)]) (rest := []) rfl rfl ⟨rfl, rfl, Nat.le_of_ble_eq_true rfl, Nat.le_of_ble_eq_true rfl⟩ (Nat.le_of_ble_eq_true rfl) (Nat.zero_le _) (Nat.zero_le _) dX1_turn_11 (fun H locs hW => ?_)
    refine lv_if_ne (tgt := 20) hx hb dX1_turn_14 (by decide) (fun c2 => ?_) (fun c2 => ?_)
    · have hF := if_n c2 hF
      refine lv_aload_n hx hb dX1_turn_20 rfl (lv_at hl 0 rfl) ?_
      refine m_get X hW fdX1_15 0 rfl rfl dX1_turn_21 ?_
      refine lv_iload_n hx hb dX1_turn_24 rfl (lv_at hl 1 rfl) ?_
      obtain ⟨g3, hF⟩ := gd_some hF
      refine m_iald X hW 1 (k := p1.toNatClampNeg) rfl g3 rfl dX1_turn_25 ?_
      refine lv_istore_n (lv' := [(3, .int (t_way p1.toNatClampNeg)), (0, .ref a_t), (1, .int p1), (2, .int p2)]) hx hb dX1_turn_26 rfl hl (by decide) rfl (fun ls hl => ?_)
      refine lv_aload_n hx hb dX1_turn_27 rfl (lv_at hl 1 rfl) ?_
      refine m_get X hW fdX1_15 0 rfl rfl dX1_turn_28 ?_
      refine lv_iload_n hx hb dX1_turn_31 rfl (lv_at hl 2 rfl) ?_
      refine lv_iload_n hx hb dX1_turn_32 rfl (lv_at hl 3 rfl) ?_
      refine m_iast X hW 1 (k := p1.toNatClampNeg) rfl g3 rfl dX1_turn_33 (ws' := (wd_Floor_turn E a_t a_t_place a_t_tell a_t_look a_t_farSquare a_t_way t_pillars t_weavers (upd t_way p1.toNatClampNeg p2))) rfl (fun H locs hW => ?_)
      refine lv_iload_n hx hb dX1_turn_34 rfl (lv_at hl 0 rfl) ?_
      have hq := Option.some.inj hF
      subst hq
      exact hret _ _ _ _ hW dX1_turn_35
    · have hF := if_y c2 hF
      refine lv_bipush (v := (-2 : Int32)) hx hb dX1_turn_17 (by decide) ?_
      have hq := Option.some.inj hF
      subst hq
      exact hret _ _ _ _ hW dX1_turn_19
abbrev wd_S_face (E : m_E) (a_t : Nat) (a_t_draft : Nat) (a_t_firstImage : Nat) (a_t_secondImage : Nat) (a_t_news : Nat) (a_t_otherNews : Nat) (a_t_readings : Nat) (a_t_chances : Nat) (a_t_turning : Nat) (a_t_text : Nat) (a_t_fraction : Nat) (a_t_now : Nat) (a_t_now_sightings : Nat) (a_t_now_lexicon : Nat) (a_t_now_level : Nat) (a_t_now_loss : Nat) (a_t_now_floor : Nat) (a_t_now_floor_place : Nat) (a_t_now_floor_tell : Nat) (a_t_now_floor_look : Nat) (a_t_now_floor_farSquare : Nat) (a_t_now_floor_way : Nat) (t_now_clearness : Int32) (t_now_isKept : Int32) (t_now_floor_pillars : Int64) (t_now_floor_weavers : Int32) (t_now_floor_way : Nat → Int32) : va_W := [(a_t, .inr (11, [.ref a_t_now, .ref a_t_draft, .ref a_t_firstImage, .ref a_t_secondImage, .ref a_t_news, .ref a_t_otherNews, .ref a_t_readings, .ref a_t_chances, .ref a_t_turning, .ref a_t_text, .ref a_t_fraction])), (a_t_now, .inr (7, [.ref a_t_now_floor, .ref a_t_now_sightings, .ref a_t_now_lexicon, .ref a_t_now_level, .ref a_t_now_loss, .int t_now_clearness, .int t_now_isKept])), (a_t_now_floor, .inr (1, [.long t_now_floor_pillars, .int t_now_floor_weavers, .ref a_t_now_floor_place, .ref a_t_now_floor_way, .ref a_t_now_floor_tell, .ref a_t_now_floor_look, .ref a_t_now_floor_farSquare])), (a_t_now_floor_way, .inl (E.2.1 0, 8, .inl t_now_floor_way))]
def rm_S_face : Room := { frames := 3, cells := 0, slots := 0, locals := 66 }
set_option maxHeartbeats 4000000 in
set_option maxRecDepth 100000 in
theorem c_S_face (l : Launch) (E : m_E) (sz N : Nat) (a_t : Nat) (a_t_draft : Nat) (a_t_firstImage : Nat) (a_t_secondImage : Nat) (a_t_news : Nat) (a_t_otherNews : Nat) (a_t_readings : Nat) (a_t_chances : Nat) (a_t_turning : Nat) (a_t_text : Nat) (a_t_fraction : Nat) (a_t_now : Nat) (a_t_now_sightings : Nat) (a_t_now_lexicon : Nat) (a_t_now_level : Nat) (a_t_now_loss : Nat) (a_t_now_floor : Nat) (a_t_now_floor_place : Nat) (a_t_now_floor_tell : Nat) (a_t_now_floor_look : Nat) (a_t_now_floor_farSquare : Nat) (a_t_now_floor_way : Nat) (t_now_clearness : Int32) (t_now_isKept : Int32) (t_now_floor_pillars : Int64) (t_now_floor_weavers : Int32) (t_now_floor_way : Nat → Int32) (p1 : Int32) (p2 : Int32) (ures : Int32 × (Nat → Int32)) (hF : F_S_face p1 p2 t_now_floor_weavers t_now_floor_way = some ures) : m_Met l yX11_face cX11_face 3 (some .int) rm_S_face E (wd_S_face E a_t a_t_draft a_t_firstImage a_t_secondImage a_t_news a_t_otherNews a_t_readings a_t_chances a_t_turning a_t_text a_t_fraction a_t_now a_t_now_sightings a_t_now_lexicon a_t_now_level a_t_now_loss a_t_now_floor a_t_now_floor_place a_t_now_floor_tell a_t_now_floor_look a_t_now_floor_farSquare a_t_now_floor_way t_now_clearness t_now_isKept t_now_floor_pillars t_now_floor_weavers t_now_floor_way) (wd_S_face E a_t a_t_draft a_t_firstImage a_t_secondImage a_t_news a_t_otherNews a_t_readings a_t_chances a_t_turning a_t_text a_t_fraction a_t_now a_t_now_sightings a_t_now_lexicon a_t_now_level a_t_now_loss a_t_now_floor a_t_now_floor_place a_t_now_floor_tell a_t_now_floor_look a_t_now_floor_farSquare a_t_now_floor_way t_now_clearness t_now_isKept t_now_floor_pillars t_now_floor_weavers ures.2) sz [.ref a_t, .int p1, .int p2] (some (.int ures.1)) := by
  refine m_ofI (by decide) (Nat.le_of_ble_eq_true rfl) ?_
  intro p e s m args below meth c A Q ls X hW hA hl hret
  obtain ⟨hx, hb, -, hown, hts, hK, -, hG⟩ := id X
  have hl : lv_has ls 3 [(0, .ref a_t), (1, .int p1), (2, .int p2)] := hl
  unfold F_S_face at hF
  refine lv_aload_n hx hb dX11_face_0 rfl (lv_at hl 0 rfl) ?_
  refine m_get X hW fdX11_10 0 rfl rfl dX11_face_1 ?_
  refine m_get X hW fdX11_70 1 rfl rfl dX11_face_4 ?_
  refine lv_iload_n hx hb dX11_face_7 rfl (lv_at hl 1 rfl) ?_
  refine lv_iload_n hx hb dX11_face_8 rfl (lv_at hl 2 rfl) ?_
  obtain ⟨r9, t_now_floor_way'_2, hC1, hF⟩ := bO_s2 hF
  refine m_callV X hW hA hl.1 lkX11_84 (c_Floor_turn l E _ N a_t_now_floor a_t_now_floor_place a_t_now_floor_tell a_t_now_floor_look a_t_now_floor_farSquare a_t_now_floor_way t_now_floor_pillars t_now_floor_weavers t_now_floor_way p1 p2 (r9, t_now_floor_way'_2) hC1) ([2, 3]) (by decide) rfl rfl (ws' := (wd_S_face E a_t a_t_draft a_t_firstImage a_t_secondImage a_t_news a_t_otherNews a_t_readings a_t_chances a_t_turning a_t_text a_t_fraction a_t_now a_t_now_sightings a_t_now_lexicon a_t_now_level a_t_now_loss a_t_now_floor a_t_now_floor_place a_t_now_floor_tell a_t_now_floor_look a_t_now_floor_farSquare a_t_now_floor_way t_now_clearness t_now_isKept t_now_floor_pillars t_now_floor_weavers t_now_floor_way'_2)) rfl 2 rfl rfl rfl (As := [.int p1, .int p2]) (rest := []) rfl rfl ⟨rfl, rfl, Nat.le_of_ble_eq_true rfl, Nat.le_of_ble_eq_true rfl⟩ (Nat.le_of_ble_eq_true rfl) (Nat.zero_le _) (Nat.zero_le _) dX11_face_9 (fun H locs hW => ?_)
  clear hC1
  have hq := Option.some.inj hF
  subst hq
  exact hret _ _ _ _ hW dX11_face_12
abbrev wd_Floor_setFree (E : m_E) (a_t : Nat) (a_t_place : Nat) (a_t_way : Nat) (a_t_farSquare : Nat) (a_t_tell : Nat) (a_t_look : Nat) (t_pillars : Int64) (t_weavers : Int32) (t_tell : Nat → Int32) (t_look : Nat → Int32) : va_W := [(a_t, .inr (1, [.long t_pillars, .int t_weavers, .ref a_t_place, .ref a_t_way, .ref a_t_tell, .ref a_t_look, .ref a_t_farSquare])), (a_t_tell, .inl (E.2.1 0, 8, .inl t_tell)), (a_t_look, .inl (E.2.1 0, 8, .inl t_look))]
def rm_Floor_setFree : Room := { frames := 2, cells := 0, slots := 0, locals := 43 }
set_option maxHeartbeats 4000000 in
set_option maxRecDepth 100000 in
theorem c_Floor_setFree (l : Launch) (E : m_E) (sz N : Nat) (a_t : Nat) (a_t_place : Nat) (a_t_way : Nat) (a_t_farSquare : Nat) (a_t_tell : Nat) (a_t_look : Nat) (t_pillars : Int64) (t_weavers : Int32) (t_tell : Nat → Int32) (t_look : Nat → Int32) (p1 : Int32) (p2 : Int32) (p3 : Int32) (p4 : Int32) (ures : Int32 × (Nat → Int32) × (Nat → Int32)) (hF : F_Floor_setFree p1 p2 p3 p4 t_weavers t_tell t_look = some ures) : m_Met l yX1_setFree cX1_setFree 6 (some .int) rm_Floor_setFree E (wd_Floor_setFree E a_t a_t_place a_t_way a_t_farSquare a_t_tell a_t_look t_pillars t_weavers t_tell t_look) (wd_Floor_setFree E a_t a_t_place a_t_way a_t_farSquare a_t_tell a_t_look t_pillars t_weavers ures.2.1 ures.2.2) sz [.ref a_t, .int p1, .int p2, .int p3, .int p4] (some (.int ures.1)) := by
  refine m_ofI (by decide) (Nat.le_of_ble_eq_true rfl) ?_
  intro p e s m args below meth c A Q ls X hW hA hl hret
  obtain ⟨hx, hb, -, hown, hts, hK, -, hG⟩ := id X
  have hl : lv_has ls 6 [(0, .ref a_t), (1, .int p1), (2, .int p2), (3, .int p3), (4, .int p4)] := hl
  unfold F_Floor_setFree at hF
  refine lv_aload_n hx hb dX1_setFree_0 rfl (lv_at hl 0 rfl) ?_
  refine lv_iload_n hx hb dX1_setFree_1 rfl (lv_at hl 1 rfl) ?_
  refine m_callV X hW hA hl.1 lkX1_48 (c_Floor_isWeaver l E _ N a_t a_t_place a_t_way a_t_tell a_t_look a_t_farSquare t_pillars t_weavers p1 (F_Floor_isWeaver p1 t_weavers) rfl) ([0]) (by decide) rfl rfl (ws' := (wd_Floor_setFree E a_t a_t_place a_t_way a_t_farSquare a_t_tell a_t_look t_pillars t_weavers t_tell t_look)) rfl 0 rfl rfl rfl (As := [.int p1]) (rest := []) rfl rfl ⟨rfl, rfl, Nat.le_of_ble_eq_true rfl, Nat.le_of_ble_eq_true rfl⟩ (Nat.le_of_ble_eq_true rfl) (Nat.zero_le _) (Nat.zero_le _) dX1_setFree_2 (fun H locs hW => ?_)
  refine lv_if_eq (tgt := 17) hx hb dX1_setFree_5 (by decide) (fun c1 => ?_) (fun c1 => ?_)
  · have hF := if_y c1 hF
    refine lv_bipush (v := (-2 : Int32)) hx hb dX1_setFree_17 (by decide) ?_
    have hq := Option.some.inj hF
    subst hq
    exact hret _ _ _ _ hW dX1_setFree_19
  · have hF := if_n c1 hF
    refine lv_iload_n hx hb dX1_setFree_8 rfl (lv_at hl 2 rfl) ?_
    refine lv_iconst (v := (0 : Int32)) hx hb dX1_setFree_9 (by decide) ?_
    refine lv_iconst (v := (1 : Int32)) hx hb dX1_setFree_10 (by decide) ?_
    refine m_callN X hW hA hl.1 lkX1_44 (c_S_within l E _ N   p2 (0 : Int32) (1 : Int32) (F_S_within p2 (0 : Int32) (1 : Int32)) rfl) ([]) (by decide) rfl rfl (ws' := (wd_Floor_setFree E a_t a_t_place a_t_way a_t_farSquare a_t_tell a_t_look t_pillars t_weavers t_tell t_look)) rfl (As := [.int p2, .int (0 : Int32), .int (1 : Int32)]) (rest := []) rfl rfl ⟨rfl, rfl, Nat.le_of_ble_eq_true rfl, Nat.le_of_ble_eq_true rfl⟩ (Nat.le_of_ble_eq_true rfl) (Nat.zero_le _) (Nat.zero_le _) dX1_setFree_11 (fun H locs hW => ?_)
    refine lv_if_ne (tgt := 20) hx hb dX1_setFree_14 (by decide) (fun c2 => ?_) (fun c2 => ?_)
    · have hF := if_n c2 hF
      refine lv_iload_n hx hb dX1_setFree_20 rfl (lv_at hl 3 rfl) ?_
      refine lv_iconst (v := (0 : Int32)) hx hb dX1_setFree_21 (by decide) ?_
      refine lv_bipush (v := (11 : Int32)) hx hb dX1_setFree_22 (by decide) ?_
      refine m_callN X hW hA hl.1 lkX1_44 (c_S_within l E _ N   p3 (0 : Int32) (11 : Int32) (F_S_within p3 (0 : Int32) (11 : Int32)) rfl) ([]) (by decide) rfl rfl (ws' := (wd_Floor_setFree E a_t a_t_place a_t_way a_t_farSquare a_t_tell a_t_look t_pillars t_weavers t_tell t_look)) rfl (As := [.int p3, .int (0 : Int32), .int (11 : Int32)]) (rest := []) rfl rfl ⟨rfl, rfl, Nat.le_of_ble_eq_true rfl, Nat.le_of_ble_eq_true rfl⟩ (Nat.le_of_ble_eq_true rfl) (Nat.zero_le _) (Nat.zero_le _) dX1_setFree_24 (fun H locs hW => ?_)
      refine lv_if_eq (tgt := 41) hx hb dX1_setFree_27 (by decide) (fun c3 => ?_) (fun c3 => ?_)
      · have hF := if_y c3 hF
        refine lv_bipush (v := (-2 : Int32)) hx hb dX1_setFree_41 (by decide) ?_
        have hq := Option.some.inj hF
        subst hq
        exact hret _ _ _ _ hW dX1_setFree_43
      · have hF := if_n c3 hF
        refine lv_iload hx hb dX1_setFree_30 (lv_at hl 4 rfl) ?_
        refine lv_iload_n hx hb dX1_setFree_32 rfl (lv_at hl 3 rfl) ?_
        refine lv_bipush (v := (11 : Int32)) hx hb dX1_setFree_33 (by decide) ?_
        refine m_callN X hW hA hl.1 lkX1_44 (c_S_within l E _ N   p4 p3 (11 : Int32) (F_S_within p4 p3 (11 : Int32)) rfl) ([]) (by decide) rfl rfl (ws' := (wd_Floor_setFree E a_t a_t_place a_t_way a_t_farSquare a_t_tell a_t_look t_pillars t_weavers t_tell t_look)) rfl (As := [.int p4, .int p3, .int (11 : Int32)]) (rest := []) rfl rfl ⟨rfl, rfl, Nat.le_of_ble_eq_true rfl, Nat.le_of_ble_eq_true rfl⟩ (Nat.le_of_ble_eq_true rfl) (Nat.zero_le _) (Nat.zero_le _) dX1_setFree_35 (fun H locs hW => ?_)
        refine lv_if_ne (tgt := 44) hx hb dX1_setFree_38 (by decide) (fun c4 => ?_) (fun c4 => ?_)
        · have hF := if_n c4 hF
          refine lv_iconst (v := (1 : Int32)) hx hb dX1_setFree_44 (by decide) ?_
          refine lv_iload hx hb dX1_setFree_45 (lv_at hl 4 rfl) ?_
          refine lv_iconst (v := (1 : Int32)) hx hb dX1_setFree_47 (by decide) ?_
          refine lv_iadd hx hb dX1_setFree_48 ?_
          refine m_ishl hx hb dX1_setFree_49 ?_
          refine lv_iconst (v := (1 : Int32)) hx hb dX1_setFree_50 (by decide) ?_
          refine lv_iload_n hx hb dX1_setFree_51 rfl (lv_at hl 3 rfl) ?_
          refine m_ishl hx hb dX1_setFree_52 ?_
          refine lv_isub hx hb dX1_setFree_53 ?_
          refine lv_istore (lv' := [(5, .int ((jshl (1 : Int32) (p4 + (1 : Int32))) - (jshl (1 : Int32) p3))), (0, .ref a_t), (1, .int p1), (2, .int p2), (3, .int p3), (4, .int p4)]) hx hb dX1_setFree_54 hl (by decide) rfl (fun ls hl => ?_)
          refine lv_iload_n hx hb dX1_setFree_56 rfl (lv_at hl 3 rfl) ?_
          refine lv_if_ne (tgt := 71) hx hb dX1_setFree_57 (by decide) (fun c5 => ?_) (fun c5 => ?_)
          · have hF := if_n c5 hF
            refine lv_aload_n hx hb dX1_setFree_71 rfl (lv_at hl 1 rfl) ?_
            refine m_get X hW fdX1_21 0 rfl rfl dX1_setFree_72 ?_
            refine lv_iload_n hx hb dX1_setFree_75 rfl (lv_at hl 2 rfl) ?_
            refine lv_iload hx hb dX1_setFree_76 (lv_at hl 0 rfl) ?_
            obtain ⟨g6, hF⟩ := gd_some hF
            refine m_iast X hW 2 (k := p1.toNatClampNeg) rfl g6 rfl dX1_setFree_78 (ws' := (wd_Floor_setFree E a_t a_t_place a_t_way a_t_farSquare a_t_tell a_t_look t_pillars t_weavers t_tell (upd t_look p1.toNatClampNeg ((jshl (1 : Int32) (p4 + (1 : Int32))) - (jshl (1 : Int32) p3))))) rfl (fun H locs hW => ?_)
            refine lv_iconst (v := (1 : Int32)) hx hb dX1_setFree_79 (by decide) ?_
            have hq := Option.some.inj hF
            subst hq
            exact hret _ _ _ _ hW dX1_setFree_80
          · have hF := if_y c5 hF
            refine lv_aload_n hx hb dX1_setFree_60 rfl (lv_at hl 1 rfl) ?_
            refine m_get X hW fdX1_18 0 rfl rfl dX1_setFree_61 ?_
            refine lv_iload_n hx hb dX1_setFree_64 rfl (lv_at hl 2 rfl) ?_
            refine lv_iload hx hb dX1_setFree_65 (lv_at hl 0 rfl) ?_
            obtain ⟨g7, hF⟩ := gd_some hF
            refine m_iast X hW 1 (k := p1.toNatClampNeg) rfl g7 rfl dX1_setFree_67 (ws' := (wd_Floor_setFree E a_t a_t_place a_t_way a_t_farSquare a_t_tell a_t_look t_pillars t_weavers (upd t_tell p1.toNatClampNeg ((jshl (1 : Int32) (p4 + (1 : Int32))) - (jshl (1 : Int32) p3))) t_look)) rfl (fun H locs hW => ?_)
            refine lv_goto (tgt := 79) hx hb dX1_setFree_68 (by decide) ?_
            refine lv_iconst (v := (1 : Int32)) hx hb dX1_setFree_79 (by decide) ?_
            have hq := Option.some.inj hF
            subst hq
            exact hret _ _ _ _ hW dX1_setFree_80
        · have hF := if_y c4 hF
          refine lv_bipush (v := (-2 : Int32)) hx hb dX1_setFree_41 (by decide) ?_
          have hq := Option.some.inj hF
          subst hq
          exact hret _ _ _ _ hW dX1_setFree_43
    · have hF := if_y c2 hF
      refine lv_bipush (v := (-2 : Int32)) hx hb dX1_setFree_17 (by decide) ?_
      have hq := Option.some.inj hF
      subst hq
      exact hret _ _ _ _ hW dX1_setFree_19
abbrev wd_S_free (E : m_E) (a_t : Nat) (a_t_draft : Nat) (a_t_firstImage : Nat) (a_t_secondImage : Nat) (a_t_news : Nat) (a_t_otherNews : Nat) (a_t_readings : Nat) (a_t_chances : Nat) (a_t_turning : Nat) (a_t_text : Nat) (a_t_fraction : Nat) (a_t_now : Nat) (a_t_now_sightings : Nat) (a_t_now_lexicon : Nat) (a_t_now_level : Nat) (a_t_now_loss : Nat) (a_t_now_floor : Nat) (a_t_now_floor_place : Nat) (a_t_now_floor_way : Nat) (a_t_now_floor_farSquare : Nat) (a_t_now_floor_tell : Nat) (a_t_now_floor_look : Nat) (t_now_clearness : Int32) (t_now_isKept : Int32) (t_now_floor_pillars : Int64) (t_now_floor_weavers : Int32) (t_now_floor_tell : Nat → Int32) (t_now_floor_look : Nat → Int32) : va_W := [(a_t, .inr (11, [.ref a_t_now, .ref a_t_draft, .ref a_t_firstImage, .ref a_t_secondImage, .ref a_t_news, .ref a_t_otherNews, .ref a_t_readings, .ref a_t_chances, .ref a_t_turning, .ref a_t_text, .ref a_t_fraction])), (a_t_now, .inr (7, [.ref a_t_now_floor, .ref a_t_now_sightings, .ref a_t_now_lexicon, .ref a_t_now_level, .ref a_t_now_loss, .int t_now_clearness, .int t_now_isKept])), (a_t_now_floor, .inr (1, [.long t_now_floor_pillars, .int t_now_floor_weavers, .ref a_t_now_floor_place, .ref a_t_now_floor_way, .ref a_t_now_floor_tell, .ref a_t_now_floor_look, .ref a_t_now_floor_farSquare])), (a_t_now_floor_tell, .inl (E.2.1 0, 8, .inl t_now_floor_tell)), (a_t_now_floor_look, .inl (E.2.1 0, 8, .inl t_now_floor_look))]
def rm_S_free : Room := { frames := 3, cells := 0, slots := 0, locals := 68 }
set_option maxHeartbeats 4000000 in
set_option maxRecDepth 100000 in
theorem c_S_free (l : Launch) (E : m_E) (sz N : Nat) (a_t : Nat) (a_t_draft : Nat) (a_t_firstImage : Nat) (a_t_secondImage : Nat) (a_t_news : Nat) (a_t_otherNews : Nat) (a_t_readings : Nat) (a_t_chances : Nat) (a_t_turning : Nat) (a_t_text : Nat) (a_t_fraction : Nat) (a_t_now : Nat) (a_t_now_sightings : Nat) (a_t_now_lexicon : Nat) (a_t_now_level : Nat) (a_t_now_loss : Nat) (a_t_now_floor : Nat) (a_t_now_floor_place : Nat) (a_t_now_floor_way : Nat) (a_t_now_floor_farSquare : Nat) (a_t_now_floor_tell : Nat) (a_t_now_floor_look : Nat) (t_now_clearness : Int32) (t_now_isKept : Int32) (t_now_floor_pillars : Int64) (t_now_floor_weavers : Int32) (t_now_floor_tell : Nat → Int32) (t_now_floor_look : Nat → Int32) (p1 : Int32) (p2 : Int32) (p3 : Int32) (p4 : Int32) (ures : Int32 × (Nat → Int32) × (Nat → Int32)) (hF : F_S_free p1 p2 p3 p4 t_now_floor_weavers t_now_floor_tell t_now_floor_look = some ures) : m_Met l yX11_free cX11_free 5 (some .int) rm_S_free E (wd_S_free E a_t a_t_draft a_t_firstImage a_t_secondImage a_t_news a_t_otherNews a_t_readings a_t_chances a_t_turning a_t_text a_t_fraction a_t_now a_t_now_sightings a_t_now_lexicon a_t_now_level a_t_now_loss a_t_now_floor a_t_now_floor_place a_t_now_floor_way a_t_now_floor_farSquare a_t_now_floor_tell a_t_now_floor_look t_now_clearness t_now_isKept t_now_floor_pillars t_now_floor_weavers t_now_floor_tell t_now_floor_look) (wd_S_free E a_t a_t_draft a_t_firstImage a_t_secondImage a_t_news a_t_otherNews a_t_readings a_t_chances a_t_turning a_t_text a_t_fraction a_t_now a_t_now_sightings a_t_now_lexicon a_t_now_level a_t_now_loss a_t_now_floor a_t_now_floor_place a_t_now_floor_way a_t_now_floor_farSquare a_t_now_floor_tell a_t_now_floor_look t_now_clearness t_now_isKept t_now_floor_pillars t_now_floor_weavers ures.2.1 ures.2.2) sz [.ref a_t, .int p1, .int p2, .int p3, .int p4] (some (.int ures.1)) := by
  refine m_ofI (by decide) (Nat.le_of_ble_eq_true rfl) ?_
  intro p e s m args below meth c A Q ls X hW hA hl hret
  obtain ⟨hx, hb, -, hown, hts, hK, -, hG⟩ := id X
  have hl : lv_has ls 5 [(0, .ref a_t), (1, .int p1), (2, .int p2), (3, .int p3), (4, .int p4)] := hl
  unfold F_S_free at hF
  refine lv_aload_n hx hb dX11_free_0 rfl (lv_at hl 0 rfl) ?_
  refine m_get X hW fdX11_10 0 rfl rfl dX11_free_1 ?_
  refine m_get X hW fdX11_70 1 rfl rfl dX11_free_4 ?_
  refine lv_iload_n hx hb dX11_free_7 rfl (lv_at hl 1 rfl) ?_
  refine lv_iload_n hx hb dX11_free_8 rfl (lv_at hl 2 rfl) ?_
  refine lv_iload_n hx hb dX11_free_9 rfl (lv_at hl 3 rfl) ?_
  refine lv_iload hx hb dX11_free_10 (lv_at hl 4 rfl) ?_
  obtain ⟨r12, t_now_floor_tell'_2, t_now_floor_look'_2, hC1, hF⟩ := bO_s3 hF
  refine m_callV X hW hA hl.1 lkX11_87 (c_Floor_setFree l E _ N a_t_now_floor a_t_now_floor_place a_t_now_floor_way a_t_now_floor_farSquare a_t_now_floor_tell a_t_now_floor_look t_now_floor_pillars t_now_floor_weavers t_now_floor_tell t_now_floor_look p1 p2 p3 p4 (r12, t_now_floor_tell'_2, t_now_floor_look'_2) hC1) ([2, 3, 4]) (by decide) rfl rfl (ws' := (wd_S_free E a_t a_t_draft a_t_firstImage a_t_secondImage a_t_news a_t_otherNews a_t_readings a_t_chances a_t_turning a_t_text a_t_fraction a_t_now a_t_now_sightings a_t_now_lexicon a_t_now_level a_t_now_loss a_t_now_floor a_t_now_floor_place a_t_now_floor_way a_t_now_floor_farSquare a_t_now_floor_tell a_t_now_floor_look t_now_clearness t_now_isKept t_now_floor_pillars t_now_floor_weavers t_now_floor_tell'_2 t_now_floor_look'_2)) rfl 2 rfl rfl rfl (As := [.int p1, .int p2, .int p3, .int p4]) (rest := []) rfl rfl ⟨rfl, rfl, Nat.le_of_ble_eq_true rfl, Nat.le_of_ble_eq_true rfl⟩ (Nat.le_of_ble_eq_true rfl) (Nat.zero_le _) (Nat.zero_le _) dX11_free_12 (fun H locs hW => ?_)
  clear hC1
  have hq := Option.some.inj hF
  subst hq
  exact hret _ _ _ _ hW dX11_free_15
abbrev wd_Floor_setFar (E : m_E) (a_t : Nat) (a_t_place : Nat) (a_t_way : Nat) (a_t_tell : Nat) (a_t_look : Nat) (a_t_farSquare : Nat) (t_pillars : Int64) (t_weavers : Int32) (t_farSquare : Nat → Int32) : va_W := [(a_t, .inr (1, [.long t_pillars, .int t_weavers, .ref a_t_place, .ref a_t_way, .ref a_t_tell, .ref a_t_look, .ref a_t_farSquare])), (a_t_farSquare, .inl (E.2.1 0, 2, .inl t_farSquare))]
def rm_Floor_setFar : Room := { frames := 1, cells := 0, slots := 0, locals := 22 }
set_option maxHeartbeats 4000000 in
set_option maxRecDepth 100000 in
theorem c_Floor_setFar (l : Launch) (E : m_E) (sz N : Nat) (a_t : Nat) (a_t_place : Nat) (a_t_way : Nat) (a_t_tell : Nat) (a_t_look : Nat) (a_t_farSquare : Nat) (t_pillars : Int64) (t_weavers : Int32) (t_farSquare : Nat → Int32) (p1 : Int32) (p2 : Int32) (ures : Int32 × (Nat → Int32)) (hF : F_Floor_setFar p1 p2 t_farSquare = some ures) : m_Met l yX1_setFar cX1_setFar 4 (some .int) rm_Floor_setFar E (wd_Floor_setFar E a_t a_t_place a_t_way a_t_tell a_t_look a_t_farSquare t_pillars t_weavers t_farSquare) (wd_Floor_setFar E a_t a_t_place a_t_way a_t_tell a_t_look a_t_farSquare t_pillars t_weavers ures.2) sz [.ref a_t, .int p1, .int p2] (some (.int ures.1)) := by
  refine m_ofI (by decide) (Nat.le_of_ble_eq_true rfl) ?_
  intro p e s m args below meth c A Q ls X hW hA hl hret
  obtain ⟨hx, hb, -, hown, hts, hK, -, hG⟩ := id X
  have hl : lv_has ls 4 [(0, .ref a_t), (1, .int p1), (2, .int p2)] := hl
  unfold F_Floor_setFar at hF
  refine lv_iload_n hx hb dX1_setFar_0 rfl (lv_at hl 1 rfl) ?_
  refine lv_iconst (v := (0 : Int32)) hx hb dX1_setFar_1 (by decide) ?_
  refine lv_iconst (v := (1 : Int32)) hx hb dX1_setFar_2 (by decide) ?_
  refine m_callN X hW hA hl.1 lkX1_44 (c_S_within l E _ N   p1 (0 : Int32) (1 : Int32) (F_S_within p1 (0 : Int32) (1 : Int32)) rfl) ([]) (by decide) rfl rfl (ws' := (wd_Floor_setFar E a_t a_t_place a_t_way a_t_tell a_t_look a_t_farSquare t_pillars t_weavers t_farSquare)) rfl (As := [.int p1, .int (0 : Int32), .int (1 : Int32)]) (rest := []) rfl rfl ⟨rfl, rfl, Nat.le_of_ble_eq_true rfl, Nat.le_of_ble_eq_true rfl⟩ (Nat.le_of_ble_eq_true rfl) (Nat.zero_le _) (Nat.zero_le _) dX1_setFar_3 (fun H locs hW => ?_)
  refine lv_if_eq (tgt := 19) hx hb dX1_setFar_6 (by decide) (fun c1 => ?_) (fun c1 => ?_)
  · have hF := if_y c1 hF
    refine lv_bipush (v := (-2 : Int32)) hx hb dX1_setFar_19 (by decide) ?_
    have hq := Option.some.inj hF
    subst hq
    exact hret _ _ _ _ hW dX1_setFar_21
  · have hF := if_n c1 hF
    refine lv_iload_n hx hb dX1_setFar_9 rfl (lv_at hl 2 rfl) ?_
    refine lv_iconst (v := (1 : Int32)) hx hb dX1_setFar_10 (by decide) ?_
    refine lv_bipush (v := (98 : Int32)) hx hb dX1_setFar_11 (by decide) ?_
    refine m_callN X hW hA hl.1 lkX1_44 (c_S_within l E _ N   p2 (1 : Int32) (98 : Int32) (F_S_within p2 (1 : Int32) (98 : Int32)) rfl) ([]) (by decide) rfl rfl (ws' := (wd_Floor_setFar E a_t a_t_place a_t_way a_t_tell a_t_look a_t_farSquare t_pillars t_weavers t_farSquare)) rfl (As := [.int p2, .int (1 : Int32), .int (98 : Int32)]) (rest := []) rfl rfl ⟨rfl, rfl, Nat.le_of_ble_eq_true rfl, Nat.le_of_ble_eq_true rfl⟩ (Nat.le_of_ble_eq_true rfl) (Nat.zero_le _) (Nat.zero_le _) dX1_setFar_13 (fun H locs hW => ?_)
    refine lv_if_ne (tgt := 22) hx hb dX1_setFar_16 (by decide) (fun c2 => ?_) (fun c2 => ?_)
    · have hF := if_n c2 hF
      refine lv_aload_n hx hb dX1_setFar_22 rfl (lv_at hl 0 rfl) ?_
      refine m_get X hW fdX1_24 0 rfl rfl dX1_setFar_23 ?_
      refine lv_iload_n hx hb dX1_setFar_26 rfl (lv_at hl 1 rfl) ?_
      obtain ⟨g3, hF⟩ := gd_some hF
      refine m_iald X hW 1 (k := p1.toNatClampNeg) rfl g3 rfl dX1_setFar_27 ?_
      refine lv_istore_n (lv' := [(3, .int (t_farSquare p1.toNatClampNeg)), (0, .ref a_t), (1, .int p1), (2, .int p2)]) hx hb dX1_setFar_28 rfl hl (by decide) rfl (fun ls hl => ?_)
      refine lv_aload_n hx hb dX1_setFar_29 rfl (lv_at hl 1 rfl) ?_
      refine m_get X hW fdX1_24 0 rfl rfl dX1_setFar_30 ?_
      refine lv_iload_n hx hb dX1_setFar_33 rfl (lv_at hl 2 rfl) ?_
      refine lv_iload_n hx hb dX1_setFar_34 rfl (lv_at hl 3 rfl) ?_
      refine m_iast X hW 1 (k := p1.toNatClampNeg) rfl g3 rfl dX1_setFar_35 (ws' := (wd_Floor_setFar E a_t a_t_place a_t_way a_t_tell a_t_look a_t_farSquare t_pillars t_weavers (upd t_farSquare p1.toNatClampNeg p2))) rfl (fun H locs hW => ?_)
      refine lv_iload_n hx hb dX1_setFar_36 rfl (lv_at hl 0 rfl) ?_
      have hq := Option.some.inj hF
      subst hq
      exact hret _ _ _ _ hW dX1_setFar_37
    · have hF := if_y c2 hF
      refine lv_bipush (v := (-2 : Int32)) hx hb dX1_setFar_19 (by decide) ?_
      have hq := Option.some.inj hF
      subst hq
      exact hret _ _ _ _ hW dX1_setFar_21
abbrev wd_S_far (E : m_E) (a_t : Nat) (a_t_draft : Nat) (a_t_firstImage : Nat) (a_t_secondImage : Nat) (a_t_news : Nat) (a_t_otherNews : Nat) (a_t_readings : Nat) (a_t_chances : Nat) (a_t_turning : Nat) (a_t_text : Nat) (a_t_fraction : Nat) (a_t_now : Nat) (a_t_now_sightings : Nat) (a_t_now_lexicon : Nat) (a_t_now_level : Nat) (a_t_now_loss : Nat) (a_t_now_floor : Nat) (a_t_now_floor_place : Nat) (a_t_now_floor_way : Nat) (a_t_now_floor_tell : Nat) (a_t_now_floor_look : Nat) (a_t_now_floor_farSquare : Nat) (t_now_clearness : Int32) (t_now_isKept : Int32) (t_now_floor_pillars : Int64) (t_now_floor_weavers : Int32) (t_now_floor_farSquare : Nat → Int32) : va_W := [(a_t, .inr (11, [.ref a_t_now, .ref a_t_draft, .ref a_t_firstImage, .ref a_t_secondImage, .ref a_t_news, .ref a_t_otherNews, .ref a_t_readings, .ref a_t_chances, .ref a_t_turning, .ref a_t_text, .ref a_t_fraction])), (a_t_now, .inr (7, [.ref a_t_now_floor, .ref a_t_now_sightings, .ref a_t_now_lexicon, .ref a_t_now_level, .ref a_t_now_loss, .int t_now_clearness, .int t_now_isKept])), (a_t_now_floor, .inr (1, [.long t_now_floor_pillars, .int t_now_floor_weavers, .ref a_t_now_floor_place, .ref a_t_now_floor_way, .ref a_t_now_floor_tell, .ref a_t_now_floor_look, .ref a_t_now_floor_farSquare])), (a_t_now_floor_farSquare, .inl (E.2.1 0, 2, .inl t_now_floor_farSquare))]
def rm_S_far : Room := { frames := 2, cells := 0, slots := 0, locals := 45 }
set_option maxHeartbeats 4000000 in
set_option maxRecDepth 100000 in
theorem c_S_far (l : Launch) (E : m_E) (sz N : Nat) (a_t : Nat) (a_t_draft : Nat) (a_t_firstImage : Nat) (a_t_secondImage : Nat) (a_t_news : Nat) (a_t_otherNews : Nat) (a_t_readings : Nat) (a_t_chances : Nat) (a_t_turning : Nat) (a_t_text : Nat) (a_t_fraction : Nat) (a_t_now : Nat) (a_t_now_sightings : Nat) (a_t_now_lexicon : Nat) (a_t_now_level : Nat) (a_t_now_loss : Nat) (a_t_now_floor : Nat) (a_t_now_floor_place : Nat) (a_t_now_floor_way : Nat) (a_t_now_floor_tell : Nat) (a_t_now_floor_look : Nat) (a_t_now_floor_farSquare : Nat) (t_now_clearness : Int32) (t_now_isKept : Int32) (t_now_floor_pillars : Int64) (t_now_floor_weavers : Int32) (t_now_floor_farSquare : Nat → Int32) (p1 : Int32) (p2 : Int32) (ures : Int32 × (Nat → Int32)) (hF : F_S_far p1 p2 t_now_floor_farSquare = some ures) : m_Met l yX11_far cX11_far 3 (some .int) rm_S_far E (wd_S_far E a_t a_t_draft a_t_firstImage a_t_secondImage a_t_news a_t_otherNews a_t_readings a_t_chances a_t_turning a_t_text a_t_fraction a_t_now a_t_now_sightings a_t_now_lexicon a_t_now_level a_t_now_loss a_t_now_floor a_t_now_floor_place a_t_now_floor_way a_t_now_floor_tell a_t_now_floor_look a_t_now_floor_farSquare t_now_clearness t_now_isKept t_now_floor_pillars t_now_floor_weavers t_now_floor_farSquare) (wd_S_far E a_t a_t_draft a_t_firstImage a_t_secondImage a_t_news a_t_otherNews a_t_readings a_t_chances a_t_turning a_t_text a_t_fraction a_t_now a_t_now_sightings a_t_now_lexicon a_t_now_level a_t_now_loss a_t_now_floor a_t_now_floor_place a_t_now_floor_way a_t_now_floor_tell a_t_now_floor_look a_t_now_floor_farSquare t_now_clearness t_now_isKept t_now_floor_pillars t_now_floor_weavers ures.2) sz [.ref a_t, .int p1, .int p2] (some (.int ures.1)) := by
  refine m_ofI (by decide) (Nat.le_of_ble_eq_true rfl) ?_
  intro p e s m args below meth c A Q ls X hW hA hl hret
  obtain ⟨hx, hb, -, hown, hts, hK, -, hG⟩ := id X
  have hl : lv_has ls 3 [(0, .ref a_t), (1, .int p1), (2, .int p2)] := hl
  unfold F_S_far at hF
  refine lv_aload_n hx hb dX11_far_0 rfl (lv_at hl 0 rfl) ?_
  refine m_get X hW fdX11_10 0 rfl rfl dX11_far_1 ?_
  refine m_get X hW fdX11_70 1 rfl rfl dX11_far_4 ?_
  refine lv_iload_n hx hb dX11_far_7 rfl (lv_at hl 1 rfl) ?_
  refine lv_iload_n hx hb dX11_far_8 rfl (lv_at hl 2 rfl) ?_
  obtain ⟨r9, t_now_floor_farSquare'_2, hC1, hF⟩ := bO_s2 hF
  refine m_callV X hW hA hl.1 lkX11_91 (c_Floor_setFar l E _ N a_t_now_floor a_t_now_floor_place a_t_now_floor_way a_t_now_floor_tell a_t_now_floor_look a_t_now_floor_farSquare t_now_floor_pillars t_now_floor_weavers t_now_floor_farSquare p1 p2 (r9, t_now_floor_farSquare'_2) hC1) ([2, 3]) (by decide) rfl rfl (ws' := (wd_S_far E a_t a_t_draft a_t_firstImage a_t_secondImage a_t_news a_t_otherNews a_t_readings a_t_chances a_t_turning a_t_text a_t_fraction a_t_now a_t_now_sightings a_t_now_lexicon a_t_now_level a_t_now_loss a_t_now_floor a_t_now_floor_place a_t_now_floor_way a_t_now_floor_tell a_t_now_floor_look a_t_now_floor_farSquare t_now_clearness t_now_isKept t_now_floor_pillars t_now_floor_weavers t_now_floor_farSquare'_2)) rfl 2 rfl rfl rfl (As := [.int p1, .int p2]) (rest := []) rfl rfl ⟨rfl, rfl, Nat.le_of_ble_eq_true rfl, Nat.le_of_ble_eq_true rfl⟩ (Nat.le_of_ble_eq_true rfl) (Nat.zero_le _) (Nat.zero_le _) dX11_far_9 (fun H locs hW => ?_)
  clear hC1
  have hq := Option.some.inj hF
  subst hq
  exact hret _ _ _ _ hW dX11_far_12
abbrev wd_Floor_areTwo (E : m_E) (a_t : Nat) (a_t_place : Nat) (a_t_way : Nat) (a_t_tell : Nat) (a_t_look : Nat) (a_t_farSquare : Nat) (t_pillars : Int64) (t_weavers : Int32) : va_W := [(a_t, .inr (1, [.long t_pillars, .int t_weavers, .ref a_t_place, .ref a_t_way, .ref a_t_tell, .ref a_t_look, .ref a_t_farSquare]))]
def rm_Floor_areTwo : Room := { frames := 2, cells := 0, slots := 0, locals := 43 }
set_option maxHeartbeats 4000000 in
set_option maxRecDepth 100000 in
theorem c_Floor_areTwo (l : Launch) (E : m_E) (sz N : Nat) (a_t : Nat) (a_t_place : Nat) (a_t_way : Nat) (a_t_tell : Nat) (a_t_look : Nat) (a_t_farSquare : Nat) (t_pillars : Int64) (t_weavers : Int32) (p1 : Int32) (p2 : Int32) (ures : Int32) (hF : F_Floor_areTwo p1 p2 t_weavers = ures) : m_Met l yX1_areTwo cX1_areTwo 3 (some .boolean) rm_Floor_areTwo E (wd_Floor_areTwo E a_t a_t_place a_t_way a_t_tell a_t_look a_t_farSquare t_pillars t_weavers) (wd_Floor_areTwo E a_t a_t_place a_t_way a_t_tell a_t_look a_t_farSquare t_pillars t_weavers) sz [.ref a_t, .int p1, .int p2] (some (.int ures)) := by
  refine m_ofZ (by decide) (Nat.le_of_ble_eq_true rfl) ?_
  intro p e s m args below meth c A Q ls X hW hA hl hret
  obtain ⟨hx, hb, -, hown, hts, hK, -, hG⟩ := id X
  have hl : lv_has ls 3 [(0, .ref a_t), (1, .int p1), (2, .int p2)] := hl
  unfold F_Floor_areTwo at hF
  refine lv_aload_n hx hb dX1_areTwo_0 rfl (lv_at hl 0 rfl) ?_
  refine lv_iload_n hx hb dX1_areTwo_1 rfl (lv_at hl 1 rfl) ?_
  refine m_callV X hW hA hl.1 lkX1_48 (c_Floor_isWeaver l E _ N a_t a_t_place a_t_way a_t_tell a_t_look a_t_farSquare t_pillars t_weavers p1 (F_Floor_isWeaver p1 t_weavers) rfl) ([0]) (by decide) rfl rfl (ws' := (wd_Floor_areTwo E a_t a_t_place a_t_way a_t_tell a_t_look a_t_farSquare t_pillars t_weavers)) rfl 0 rfl rfl rfl (As := [.int p1]) (rest := []) rfl rfl ⟨rfl, rfl, Nat.le_of_ble_eq_true rfl, Nat.le_of_ble_eq_true rfl⟩ (Nat.le_of_ble_eq_true rfl) (Nat.zero_le _) (Nat.zero_le _) dX1_areTwo_2 (fun H locs hW => ?_)
  refine lv_if_eq (tgt := 25) hx hb dX1_areTwo_5 (by decide) (fun c1 => ?_) (fun c1 => ?_)
  · have hF := if_y c1 hF
    refine lv_iconst (v := (0 : Int32)) hx hb dX1_areTwo_25 (by decide) ?_
    have hq := hF
    subst hq
    exact hret _ _ _ _ _ rfl hW dX1_areTwo_26
  · have hF := if_n c1 hF
    refine lv_aload_n hx hb dX1_areTwo_8 rfl (lv_at hl 0 rfl) ?_
    refine lv_iload_n hx hb dX1_areTwo_9 rfl (lv_at hl 2 rfl) ?_
    refine m_callV X hW hA hl.1 lkX1_48 (c_Floor_isWeaver l E _ N a_t a_t_place a_t_way a_t_tell a_t_look a_t_farSquare t_pillars t_weavers p2 (F_Floor_isWeaver p2 t_weavers) rfl) ([0]) (by decide) rfl rfl (ws' := (wd_Floor_areTwo E a_t a_t_place a_t_way a_t_tell a_t_look a_t_farSquare t_pillars t_weavers)) rfl 0 rfl rfl rfl (As := [.int p2]) (rest := []) rfl rfl ⟨rfl, rfl, Nat.le_of_ble_eq_true rfl, Nat.le_of_ble_eq_true rfl⟩ (Nat.le_of_ble_eq_true rfl) (Nat.zero_le _) (Nat.zero_le _) dX1_areTwo_10 (fun H locs hW => ?_)
    refine lv_if_eq (tgt := 25) hx hb dX1_areTwo_13 (by decide) (fun c2 => ?_) (fun c2 => ?_)
    · have hF := if_y c2 hF
      refine lv_iconst (v := (0 : Int32)) hx hb dX1_areTwo_25 (by decide) ?_
      have hq := hF
      subst hq
      exact hret _ _ _ _ _ rfl hW dX1_areTwo_26
    · have hF := if_n c2 hF
      refine lv_iload_n hx hb dX1_areTwo_16 rfl (lv_at hl 1 rfl) ?_
      refine lv_iload_n hx hb dX1_areTwo_17 rfl (lv_at hl 2 rfl) ?_
      refine lv_icmp_eq (tgt := 25) hx hb dX1_areTwo_18 (by decide) (fun c3 => ?_) (fun c3 => ?_)
      · have hF := if_y c3 hF
        refine lv_iconst (v := (0 : Int32)) hx hb dX1_areTwo_25 (by decide) ?_
        have hq := hF
        subst hq
        exact hret _ _ _ _ _ rfl hW dX1_areTwo_26
      · have hF := if_n c3 hF
        refine lv_iconst (v := (1 : Int32)) hx hb dX1_areTwo_21 (by decide) ?_
        refine lv_goto (tgt := 26) hx hb dX1_areTwo_22 (by decide) ?_
        have hq := hF
        subst hq
        exact hret _ _ _ _ _ rfl hW dX1_areTwo_26
abbrev wd_Floor_goesBy (E : m_E)   : va_W := []
def rm_Floor_goesBy : Room := { frames := 0, cells := 0, slots := 0, locals := 0 }
set_option maxHeartbeats 4000000 in
set_option maxRecDepth 100000 in
theorem c_Floor_goesBy (l : Launch) (E : m_E) (sz N : Nat)   (p1 : Int32) (p2 : Int32) (p3 : Int32) (ures : Int32) (hF : F_Floor_goesBy p1 p2 p3 = ures) : m_Met l yX1_goesBy cX1_goesBy 5 (some .int) rm_Floor_goesBy E (wd_Floor_goesBy E) (wd_Floor_goesBy E) sz [.int p1, .int p2, .int p3] (some (.int ures)) := by
  refine m_ofI (by decide) (Nat.le_of_ble_eq_true rfl) ?_
  intro p e s m args below meth c A Q ls X hW hA hl hret
  obtain ⟨hx, hb, -, hown, hts, hK, -, hG⟩ := id X
  have hl : lv_has ls 5 [(0, .int p1), (1, .int p2), (2, .int p3)] := hl
  unfold F_Floor_goesBy at hF
  refine lv_iload_n hx hb dX1_goesBy_0 rfl (lv_at hl 1 rfl) ?_
  refine lv_bipush (v := (8 : Int32)) hx hb dX1_goesBy_1 (by decide) ?_
  refine lv_idiv hx hb dX1_goesBy_3 (by decide) ?_
  refine lv_iload_n hx hb dX1_goesBy_4 rfl (lv_at hl 0 rfl) ?_
  refine lv_bipush (v := (8 : Int32)) hx hb dX1_goesBy_5 (by decide) ?_
  refine lv_idiv hx hb dX1_goesBy_7 (by decide) ?_
  refine lv_isub hx hb dX1_goesBy_8 ?_
  refine lv_istore_n (lv' := [(3, .int ((p2 / (8 : Int32)) - (p1 / (8 : Int32)))), (0, .int p1), (1, .int p2), (2, .int p3)]) hx hb dX1_goesBy_9 rfl hl (by decide) rfl (fun ls hl => ?_)
  refine lv_iload_n hx hb dX1_goesBy_10 rfl (lv_at hl 2 rfl) ?_
  refine lv_bipush (v := (8 : Int32)) hx hb dX1_goesBy_11 (by decide) ?_
  refine m_irem hx hb dX1_goesBy_13 (by decide) ?_
  refine lv_iload_n hx hb dX1_goesBy_14 rfl (lv_at hl 1 rfl) ?_
  refine lv_bipush (v := (8 : Int32)) hx hb dX1_goesBy_15 (by decide) ?_
  refine m_irem hx hb dX1_goesBy_17 (by decide) ?_
  refine lv_isub hx hb dX1_goesBy_18 ?_
  refine lv_istore (lv' := [(4, .int ((jrem p2 (8 : Int32)) - (jrem p1 (8 : Int32)))), (3, .int ((p2 / (8 : Int32)) - (p1 / (8 : Int32)))), (0, .int p1), (1, .int p2), (2, .int p3)]) hx hb dX1_goesBy_19 hl (by decide) rfl (fun ls hl => ?_)
  refine lv_iload_n hx hb dX1_goesBy_21 rfl (lv_at hl 4 rfl) ?_
  by_cases c1 : p3 = (0 : Int32)
  · have hF := if_y c1 hF
    refine lv_tableIn (tgt := 48) hx hb dX1_goesBy_22 (by rw [c1]; decide) (by rw [c1]; decide) (by rw [c1]; rfl) (by decide) ?_
    refine lv_iload_n hx hb dX1_goesBy_48 rfl (lv_at hl 1 rfl) ?_
    refine lv_ineg hx hb dX1_goesBy_49 ?_
    have hq := hF
    subst hq
    exact hret _ _ _ _ hW dX1_goesBy_50
  · have hF := if_n c1 hF
    by_cases c2 : p3 = (1 : Int32)
    · have hF := if_y c2 hF
      refine lv_tableIn (tgt := 51) hx hb dX1_goesBy_22 (by rw [c2]; decide) (by rw [c2]; decide) (by rw [c2]; rfl) (by decide) ?_
      refine lv_iload hx hb dX1_goesBy_51 (lv_at hl 0 rfl) ?_
      have hq := hF
      subst hq
      exact hret _ _ _ _ hW dX1_goesBy_53
    · have hF := if_n c2 hF
      by_cases c3 : p3 = (2 : Int32)
      · have hF := if_y c3 hF
        refine lv_tableIn (tgt := 54) hx hb dX1_goesBy_22 (by rw [c3]; decide) (by rw [c3]; decide) (by rw [c3]; rfl) (by decide) ?_
        refine lv_iload_n hx hb dX1_goesBy_54 rfl (lv_at hl 1 rfl) ?_
        have hq := hF
        subst hq
        exact hret _ _ _ _ hW dX1_goesBy_55
      · have hF := if_n c3 hF
        refine lv_tableOut (tgt := 56) hx hb dX1_goesBy_22 (m_sw_0_2 c1 c2 c3) (by decide) ?_
        refine lv_iload hx hb dX1_goesBy_56 (lv_at hl 0 rfl) ?_
        refine lv_ineg hx hb dX1_goesBy_58 ?_
        have hq := hF
        subst hq
        exact hret _ _ _ _ hW dX1_goesBy_59
abbrev wd_Floor_faceEachOther (E : m_E) (a_t : Nat) (a_t_way : Nat) (a_t_tell : Nat) (a_t_look : Nat) (a_t_farSquare : Nat) (a_t_place : Nat) (t_pillars : Int64) (t_weavers : Int32) (t_place : Nat → Int32) : va_W := [(a_t, .inr (1, [.long t_pillars, .int t_weavers, .ref a_t_place, .ref a_t_way, .ref a_t_tell, .ref a_t_look, .ref a_t_farSquare])), (a_t_place, .inl (E.2.1 0, 8, .inl t_place))]
def rm_Floor_faceEachOther : Room := { frames := 1, cells := 0, slots := 0, locals := 24 }
set_option maxHeartbeats 4000000 in
set_option maxRecDepth 100000 in
theorem c_Floor_faceEachOther (l : Launch) (E : m_E) (sz N : Nat) (a_t : Nat) (a_t_way : Nat) (a_t_tell : Nat) (a_t_look : Nat) (a_t_farSquare : Nat) (a_t_place : Nat) (t_pillars : Int64) (t_weavers : Int32) (t_place : Nat → Int32) (p1 : Int32) (p2 : Int32) (p3 : Int32) (p4 : Int32) (ures : Int32) (hF : F_Floor_faceEachOther p1 p2 p3 p4 t_place = some ures) : m_Met l yX1_faceEachOther cX1_faceEachOther 5 (some .boolean) rm_Floor_faceEachOther E (wd_Floor_faceEachOther E a_t a_t_way a_t_tell a_t_look a_t_farSquare a_t_place t_pillars t_weavers t_place) (wd_Floor_faceEachOther E a_t a_t_way a_t_tell a_t_look a_t_farSquare a_t_place t_pillars t_weavers t_place) sz [.ref a_t, .int p1, .int p2, .int p3, .int p4] (some (.int ures)) := by
  refine m_ofZ (by decide) (Nat.le_of_ble_eq_true rfl) ?_
  intro p e s m args below meth c A Q ls X hW hA hl hret
  obtain ⟨hx, hb, -, hown, hts, hK, -, hG⟩ := id X
  have hl : lv_has ls 5 [(0, .ref a_t), (1, .int p1), (2, .int p2), (3, .int p3), (4, .int p4)] := hl
  unfold F_Floor_faceEachOther at hF
  refine lv_aload_n hx hb dX1_faceEachOther_0 rfl (lv_at hl 0 rfl) ?_
  refine m_get X hW fdX1_11 0 rfl rfl dX1_faceEachOther_1 ?_
  refine lv_iload_n hx hb dX1_faceEachOther_4 rfl (lv_at hl 1 rfl) ?_
  obtain ⟨g1, hF⟩ := gd_some hF
  refine m_iald X hW 1 (k := p1.toNatClampNeg) rfl g1 rfl dX1_faceEachOther_5 ?_
  refine lv_aload_n hx hb dX1_faceEachOther_6 rfl (lv_at hl 0 rfl) ?_
  refine m_get X hW fdX1_11 0 rfl rfl dX1_faceEachOther_7 ?_
  refine lv_iload_n hx hb dX1_faceEachOther_10 rfl (lv_at hl 3 rfl) ?_
  obtain ⟨g2, hF⟩ := gd_some hF
  refine m_iald X hW 1 (k := p3.toNatClampNeg) rfl g2 rfl dX1_faceEachOther_11 ?_
  refine lv_iload_n hx hb dX1_faceEachOther_12 rfl (lv_at hl 2 rfl) ?_
  refine m_callS X hW hA hl.1 lkX1_58 (c_Floor_goesBy l E _ N   (t_place p1.toNatClampNeg) (t_place p3.toNatClampNeg) p2 (F_Floor_goesBy (t_place p1.toNatClampNeg) (t_place p3.toNatClampNeg) p2) rfl) ([]) (by decide) rfl rfl (ws' := (wd_Floor_faceEachOther E a_t a_t_way a_t_tell a_t_look a_t_farSquare a_t_place t_pillars t_weavers t_place)) rfl (As := [.int (t_place p1.toNatClampNeg), .int (t_place p3.toNatClampNeg), .int p2]) (rest := []) rfl rfl ⟨rfl, rfl, Nat.le_of_ble_eq_true rfl, Nat.le_of_ble_eq_true rfl⟩ (Nat.le_of_ble_eq_true rfl) (Nat.zero_le _) (Nat.zero_le _) dX1_faceEachOther_13 (fun H locs hW => ?_)
  refine lv_if_le (tgt := 43) hx hb dX1_faceEachOther_16 (by decide) (fun c3 => ?_) (fun c3 => ?_)
  · have hF := if_y c3 hF
    refine lv_iconst (v := (0 : Int32)) hx hb dX1_faceEachOther_43 (by decide) ?_
    have hq := Option.some.inj hF
    subst hq
    exact hret _ _ _ _ _ rfl hW dX1_faceEachOther_44
  · have hF := if_n c3 hF
    refine lv_aload_n hx hb dX1_faceEachOther_19 rfl (lv_at hl 0 rfl) ?_
    refine m_get X hW fdX1_11 0 rfl rfl dX1_faceEachOther_20 ?_
    refine lv_iload_n hx hb dX1_faceEachOther_23 rfl (lv_at hl 3 rfl) ?_
    refine m_iald X hW 1 (k := p3.toNatClampNeg) rfl g2 rfl dX1_faceEachOther_24 ?_
    refine lv_aload_n hx hb dX1_faceEachOther_25 rfl (lv_at hl 0 rfl) ?_
    refine m_get X hW fdX1_11 0 rfl rfl dX1_faceEachOther_26 ?_
    refine lv_iload_n hx hb dX1_faceEachOther_29 rfl (lv_at hl 1 rfl) ?_
    refine m_iald X hW 1 (k := p1.toNatClampNeg) rfl g1 rfl dX1_faceEachOther_30 ?_
    refine lv_iload hx hb dX1_faceEachOther_31 (lv_at hl 4 rfl) ?_
    refine m_callS X hW hA hl.1 lkX1_58 (c_Floor_goesBy l E _ N   (t_place p3.toNatClampNeg) (t_place p1.toNatClampNeg) p4 (F_Floor_goesBy (t_place p3.toNatClampNeg) (t_place p1.toNatClampNeg) p4) rfl) ([]) (by decide) rfl rfl (ws' := (wd_Floor_faceEachOther E a_t a_t_way a_t_tell a_t_look a_t_farSquare a_t_place t_pillars t_weavers t_place)) rfl (As := [.int (t_place p3.toNatClampNeg), .int (t_place p1.toNatClampNeg), .int p4]) (rest := []) rfl rfl ⟨rfl, rfl, Nat.le_of_ble_eq_true rfl, Nat.le_of_ble_eq_true rfl⟩ (Nat.le_of_ble_eq_true rfl) (Nat.zero_le _) (Nat.zero_le _) dX1_faceEachOther_33 (fun H locs hW => ?_)
    refine lv_if_le (tgt := 43) hx hb dX1_faceEachOther_36 (by decide) (fun c4 => ?_) (fun c4 => ?_)
    · have hF := if_y c4 hF
      refine lv_iconst (v := (0 : Int32)) hx hb dX1_faceEachOther_43 (by decide) ?_
      have hq := Option.some.inj hF
      subst hq
      exact hret _ _ _ _ _ rfl hW dX1_faceEachOther_44
    · have hF := if_n c4 hF
      refine lv_iconst (v := (1 : Int32)) hx hb dX1_faceEachOther_39 (by decide) ?_
      refine lv_goto (tgt := 44) hx hb dX1_faceEachOther_40 (by decide) ?_
      have hq := Option.some.inj hF
      subst hq
      exact hret _ _ _ _ _ rfl hW dX1_faceEachOther_44
abbrev wd_Floor_squareOfWay (E : m_E) (a_t : Nat) (a_t_way : Nat) (a_t_tell : Nat) (a_t_look : Nat) (a_t_farSquare : Nat) (a_t_place : Nat) (t_pillars : Int64) (t_weavers : Int32) (t_place : Nat → Int32) : va_W := [(a_t, .inr (1, [.long t_pillars, .int t_weavers, .ref a_t_place, .ref a_t_way, .ref a_t_tell, .ref a_t_look, .ref a_t_farSquare])), (a_t_place, .inl (E.2.1 0, 8, .inl t_place))]
def rm_Floor_squareOfWay : Room := { frames := 1, cells := 0, slots := 0, locals := 24 }
set_option maxHeartbeats 4000000 in
set_option maxRecDepth 100000 in
theorem c_Floor_squareOfWay (l : Launch) (E : m_E) (sz N : Nat) (a_t : Nat) (a_t_way : Nat) (a_t_tell : Nat) (a_t_look : Nat) (a_t_farSquare : Nat) (a_t_place : Nat) (t_pillars : Int64) (t_weavers : Int32) (t_place : Nat → Int32) (p1 : Int32) (p2 : Int32) (ures : Int32) (hF : F_Floor_squareOfWay p1 p2 t_place = some ures) : m_Met l yX1_squareOfWay cX1_squareOfWay 5 (some .int) rm_Floor_squareOfWay E (wd_Floor_squareOfWay E a_t a_t_way a_t_tell a_t_look a_t_farSquare a_t_place t_pillars t_weavers t_place) (wd_Floor_squareOfWay E a_t a_t_way a_t_tell a_t_look a_t_farSquare a_t_place t_pillars t_weavers t_place) sz [.ref a_t, .int p1, .int p2] (some (.int ures)) := by
  refine m_ofI (by decide) (Nat.le_of_ble_eq_true rfl) ?_
  intro p e s m args below meth c A Q ls X hW hA hl hret
  obtain ⟨hx, hb, -, hown, hts, hK, -, hG⟩ := id X
  have hl : lv_has ls 5 [(0, .ref a_t), (1, .int p1), (2, .int p2)] := hl
  unfold F_Floor_squareOfWay at hF
  refine lv_aload_n hx hb dX1_squareOfWay_0 rfl (lv_at hl 0 rfl) ?_
  refine m_get X hW fdX1_11 0 rfl rfl dX1_squareOfWay_1 ?_
  refine lv_iload_n hx hb dX1_squareOfWay_4 rfl (lv_at hl 1 rfl) ?_
  obtain ⟨g1, hF⟩ := gd_some hF
  refine m_iald X hW 1 (k := p1.toNatClampNeg) rfl g1 rfl dX1_squareOfWay_5 ?_
  refine lv_aload_n hx hb dX1_squareOfWay_6 rfl (lv_at hl 0 rfl) ?_
  refine m_get X hW fdX1_11 0 rfl rfl dX1_squareOfWay_7 ?_
  refine lv_iload_n hx hb dX1_squareOfWay_10 rfl (lv_at hl 2 rfl) ?_
  obtain ⟨g2, hF⟩ := gd_some hF
  refine m_iald X hW 1 (k := p2.toNatClampNeg) rfl g2 rfl dX1_squareOfWay_11 ?_
  refine lv_iconst (v := (2 : Int32)) hx hb dX1_squareOfWay_12 (by decide) ?_
  refine m_callS X hW hA hl.1 lkX1_58 (c_Floor_goesBy l E _ N   (t_place p1.toNatClampNeg) (t_place p2.toNatClampNeg) (2 : Int32) (F_Floor_goesBy (t_place p1.toNatClampNeg) (t_place p2.toNatClampNeg) (2 : Int32)) rfl) ([]) (by decide) rfl rfl (ws' := (wd_Floor_squareOfWay E a_t a_t_way a_t_tell a_t_look a_t_farSquare a_t_place t_pillars t_weavers t_place)) rfl (As := [.int (t_place p1.toNatClampNeg), .int (t_place p2.toNatClampNeg), .int (2 : Int32)]) (rest := []) rfl rfl ⟨rfl, rfl, Nat.le_of_ble_eq_true rfl, Nat.le_of_ble_eq_true rfl⟩ (Nat.le_of_ble_eq_true rfl) (Nat.zero_le _) (Nat.zero_le _) dX1_squareOfWay_13 (fun H locs hW => ?_)
  refine lv_istore_n (lv' := [(3, .int (F_Floor_goesBy (t_place p1.toNatClampNeg) (t_place p2.toNatClampNeg) (2 : Int32))), (0, .ref a_t), (1, .int p1), (2, .int p2)]) hx hb dX1_squareOfWay_16 rfl hl (by decide) rfl (fun ls hl => ?_)
  refine lv_aload_n hx hb dX1_squareOfWay_17 rfl (lv_at hl 1 rfl) ?_
  refine m_get X hW fdX1_11 0 rfl rfl dX1_squareOfWay_18 ?_
  refine lv_iload_n hx hb dX1_squareOfWay_21 rfl (lv_at hl 2 rfl) ?_
  refine m_iald X hW 1 (k := p1.toNatClampNeg) rfl g1 rfl dX1_squareOfWay_22 ?_
  refine lv_aload_n hx hb dX1_squareOfWay_23 rfl (lv_at hl 1 rfl) ?_
  refine m_get X hW fdX1_11 0 rfl rfl dX1_squareOfWay_24 ?_
  refine lv_iload_n hx hb dX1_squareOfWay_27 rfl (lv_at hl 3 rfl) ?_
  refine m_iald X hW 1 (k := p2.toNatClampNeg) rfl g2 rfl dX1_squareOfWay_28 ?_
  refine lv_iconst (v := (1 : Int32)) hx hb dX1_squareOfWay_29 (by decide) ?_
  refine m_callS X hW hA hl.1 lkX1_58 (c_Floor_goesBy l E _ N   (t_place p1.toNatClampNeg) (t_place p2.toNatClampNeg) (1 : Int32) (F_Floor_goesBy (t_place p1.toNatClampNeg) (t_place p2.toNatClampNeg) (1 : Int32)) rfl) ([]) (by decide) rfl rfl (ws' := (wd_Floor_squareOfWay E a_t a_t_way a_t_tell a_t_look a_t_farSquare a_t_place t_pillars t_weavers t_place)) rfl (As := [.int (t_place p1.toNatClampNeg), .int (t_place p2.toNatClampNeg), .int (1 : Int32)]) (rest := []) rfl rfl ⟨rfl, rfl, Nat.le_of_ble_eq_true rfl, Nat.le_of_ble_eq_true rfl⟩ (Nat.le_of_ble_eq_true rfl) (Nat.zero_le _) (Nat.zero_le _) dX1_squareOfWay_30 (fun H locs hW => ?_)
  refine lv_istore (lv' := [(4, .int (F_Floor_goesBy (t_place p1.toNatClampNeg) (t_place p2.toNatClampNeg) (1 : Int32))), (3, .int (F_Floor_goesBy (t_place p1.toNatClampNeg) (t_place p2.toNatClampNeg) (2 : Int32))), (0, .ref a_t), (1, .int p1), (2, .int p2)]) hx hb dX1_squareOfWay_33 hl (by decide) rfl (fun ls hl => ?_)
  refine lv_iload_n hx hb dX1_squareOfWay_35 rfl (lv_at hl 1 rfl) ?_
  refine lv_iload_n hx hb dX1_squareOfWay_36 rfl (lv_at hl 1 rfl) ?_
  refine lv_imul hx hb dX1_squareOfWay_37 ?_
  refine lv_iload hx hb dX1_squareOfWay_38 (lv_at hl 0 rfl) ?_
  refine lv_iload hx hb dX1_squareOfWay_40 (lv_at hl 0 rfl) ?_
  refine lv_imul hx hb dX1_squareOfWay_42 ?_
  refine lv_iadd hx hb dX1_squareOfWay_43 ?_
  have hq := Option.some.inj hF
  subst hq
  exact hret _ _ _ _ hW dX1_squareOfWay_44
abbrev wd_Floor_isBlockedBy (E : m_E)   : va_W := []
def rm_Floor_isBlockedBy : Room := { frames := 0, cells := 0, slots := 0, locals := 0 }
set_option maxHeartbeats 4000000 in
set_option maxRecDepth 100000 in
theorem c_Floor_isBlockedBy (l : Launch) (E : m_E) (sz N : Nat)   (p1 : Int32) (p2 : Int32) (p3 : Int32) (ures : Int32) (hF : F_Floor_isBlockedBy p1 p2 p3 = ures) : m_Met l yX1_isBlockedBy cX1_isBlockedBy 10 (some .boolean) rm_Floor_isBlockedBy E (wd_Floor_isBlockedBy E) (wd_Floor_isBlockedBy E) sz [.int p1, .int p2, .int p3] (some (.int ures)) := by
  refine m_ofZ (by decide) (Nat.le_of_ble_eq_true rfl) ?_
  intro p e s m args below meth c A Q ls X hW hA hl hret
  obtain ⟨hx, hb, -, hown, hts, hK, -, hG⟩ := id X
  have hl : lv_has ls 10 [(0, .int p1), (1, .int p2), (2, .int p3)] := hl
  unfold F_Floor_isBlockedBy at hF
  refine lv_iload_n hx hb dX1_isBlockedBy_0 rfl (lv_at hl 2 rfl) ?_
  refine lv_bipush (v := (8 : Int32)) hx hb dX1_isBlockedBy_1 (by decide) ?_
  refine lv_idiv hx hb dX1_isBlockedBy_3 (by decide) ?_
  refine lv_iload_n hx hb dX1_isBlockedBy_4 rfl (lv_at hl 1 rfl) ?_
  refine lv_bipush (v := (8 : Int32)) hx hb dX1_isBlockedBy_5 (by decide) ?_
  refine lv_idiv hx hb dX1_isBlockedBy_7 (by decide) ?_
  refine lv_isub hx hb dX1_isBlockedBy_8 ?_
  refine lv_istore_n (lv' := [(3, .int ((p3 / (8 : Int32)) - (p2 / (8 : Int32)))), (0, .int p1), (1, .int p2), (2, .int p3)]) hx hb dX1_isBlockedBy_9 rfl hl (by decide) rfl (fun ls hl => ?_)
  refine lv_iload_n hx hb dX1_isBlockedBy_10 rfl (lv_at hl 3 rfl) ?_
  refine lv_bipush (v := (8 : Int32)) hx hb dX1_isBlockedBy_11 (by decide) ?_
  refine m_irem hx hb dX1_isBlockedBy_13 (by decide) ?_
  refine lv_iload_n hx hb dX1_isBlockedBy_14 rfl (lv_at hl 2 rfl) ?_
  refine lv_bipush (v := (8 : Int32)) hx hb dX1_isBlockedBy_15 (by decide) ?_
  refine m_irem hx hb dX1_isBlockedBy_17 (by decide) ?_
  refine lv_isub hx hb dX1_isBlockedBy_18 ?_
  refine lv_istore (lv' := [(4, .int ((jrem p3 (8 : Int32)) - (jrem p2 (8 : Int32)))), (3, .int ((p3 / (8 : Int32)) - (p2 / (8 : Int32)))), (0, .int p1), (1, .int p2), (2, .int p3)]) hx hb dX1_isBlockedBy_19 hl (by decide) rfl (fun ls hl => ?_)
  refine lv_iload_n hx hb dX1_isBlockedBy_21 rfl (lv_at hl 2 rfl) ?_
  refine lv_bipush (v := (8 : Int32)) hx hb dX1_isBlockedBy_22 (by decide) ?_
  refine lv_idiv hx hb dX1_isBlockedBy_24 (by decide) ?_
  refine lv_iload_n hx hb dX1_isBlockedBy_25 rfl (lv_at hl 3 rfl) ?_
  refine lv_bipush (v := (8 : Int32)) hx hb dX1_isBlockedBy_26 (by decide) ?_
  refine lv_idiv hx hb dX1_isBlockedBy_28 (by decide) ?_
  refine lv_isub hx hb dX1_isBlockedBy_29 ?_
  refine lv_istore (lv' := [(5, .int ((p1 / (8 : Int32)) - (p2 / (8 : Int32)))), (4, .int ((jrem p3 (8 : Int32)) - (jrem p2 (8 : Int32)))), (3, .int ((p3 / (8 : Int32)) - (p2 / (8 : Int32)))), (0, .int p1), (1, .int p2), (2, .int p3)]) hx hb dX1_isBlockedBy_30 hl (by decide) rfl (fun ls hl => ?_)
  refine lv_iload_n hx hb dX1_isBlockedBy_32 rfl (lv_at hl 3 rfl) ?_
  refine lv_bipush (v := (8 : Int32)) hx hb dX1_isBlockedBy_33 (by decide) ?_
  refine m_irem hx hb dX1_isBlockedBy_35 (by decide) ?_
  refine lv_iload_n hx hb dX1_isBlockedBy_36 rfl (lv_at hl 4 rfl) ?_
  refine lv_bipush (v := (8 : Int32)) hx hb dX1_isBlockedBy_37 (by decide) ?_
  refine m_irem hx hb dX1_isBlockedBy_39 (by decide) ?_
  refine lv_isub hx hb dX1_isBlockedBy_40 ?_
  refine lv_istore (lv' := [(6, .int ((jrem p1 (8 : Int32)) - (jrem p2 (8 : Int32)))), (5, .int ((p1 / (8 : Int32)) - (p2 / (8 : Int32)))), (4, .int ((jrem p3 (8 : Int32)) - (jrem p2 (8 : Int32)))), (3, .int ((p3 / (8 : Int32)) - (p2 / (8 : Int32)))), (0, .int p1), (1, .int p2), (2, .int p3)]) hx hb dX1_isBlockedBy_41 hl (by decide) rfl (fun ls hl => ?_)
  refine lv_iload_n hx hb dX1_isBlockedBy_43 rfl (lv_at hl 3 rfl) ?_
  refine lv_iload_n hx hb dX1_isBlockedBy_44 rfl (lv_at hl 3 rfl) ?_
  refine lv_imul hx hb dX1_isBlockedBy_45 ?_
  refine lv_iload hx hb dX1_isBlockedBy_46 (lv_at hl 2 rfl) ?_
  refine lv_iload hx hb dX1_isBlockedBy_48 (lv_at hl 2 rfl) ?_
  refine lv_imul hx hb dX1_isBlockedBy_50 ?_
  refine lv_iadd hx hb dX1_isBlockedBy_51 ?_
  refine lv_istore (lv' := [(7, .int ((((p3 / (8 : Int32)) - (p2 / (8 : Int32))) * ((p3 / (8 : Int32)) - (p2 / (8 : Int32)))) + (((jrem p3 (8 : Int32)) - (jrem p2 (8 : Int32))) * ((jrem p3 (8 : Int32)) - (jrem p2 (8 : Int32)))))), (6, .int ((jrem p1 (8 : Int32)) - (jrem p2 (8 : Int32)))), (5, .int ((p1 / (8 : Int32)) - (p2 / (8 : Int32)))), (4, .int ((jrem p3 (8 : Int32)) - (jrem p2 (8 : Int32)))), (3, .int ((p3 / (8 : Int32)) - (p2 / (8 : Int32)))), (0, .int p1), (1, .int p2), (2, .int p3)]) hx hb dX1_isBlockedBy_52 hl (by decide) rfl (fun ls hl => ?_)
  refine lv_iload_n hx hb dX1_isBlockedBy_54 rfl (lv_at hl 4 rfl) ?_
  refine lv_iload hx hb dX1_isBlockedBy_55 (lv_at hl 2 rfl) ?_
  refine lv_imul hx hb dX1_isBlockedBy_57 ?_
  refine lv_iload hx hb dX1_isBlockedBy_58 (lv_at hl 3 rfl) ?_
  refine lv_iload hx hb dX1_isBlockedBy_60 (lv_at hl 1 rfl) ?_
  refine lv_imul hx hb dX1_isBlockedBy_62 ?_
  refine lv_iadd hx hb dX1_isBlockedBy_63 ?_
  refine lv_istore (lv' := [(8, .int ((((p3 / (8 : Int32)) - (p2 / (8 : Int32))) * ((p1 / (8 : Int32)) - (p2 / (8 : Int32)))) + (((jrem p3 (8 : Int32)) - (jrem p2 (8 : Int32))) * ((jrem p1 (8 : Int32)) - (jrem p2 (8 : Int32)))))), (7, .int ((((p3 / (8 : Int32)) - (p2 / (8 : Int32))) * ((p3 / (8 : Int32)) - (p2 / (8 : Int32)))) + (((jrem p3 (8 : Int32)) - (jrem p2 (8 : Int32))) * ((jrem p3 (8 : Int32)) - (jrem p2 (8 : Int32)))))), (6, .int ((jrem p1 (8 : Int32)) - (jrem p2 (8 : Int32)))), (5, .int ((p1 / (8 : Int32)) - (p2 / (8 : Int32)))), (4, .int ((jrem p3 (8 : Int32)) - (jrem p2 (8 : Int32)))), (3, .int ((p3 / (8 : Int32)) - (p2 / (8 : Int32)))), (0, .int p1), (1, .int p2), (2, .int p3)]) hx hb dX1_isBlockedBy_64 hl (by decide) rfl (fun ls hl => ?_)
  refine lv_iload hx hb dX1_isBlockedBy_66 (lv_at hl 0 rfl) ?_
  refine lv_if_le (tgt := 78) hx hb dX1_isBlockedBy_68 (by decide) (fun c1 => ?_) (fun c1 => ?_)
  · have hF := if_y c1 hF
    refine lv_iconst (v := (0 : Int32)) hx hb dX1_isBlockedBy_78 (by decide) ?_
    have hq := hF
    subst hq
    exact hret _ _ _ _ _ rfl hW dX1_isBlockedBy_79
  · have hF := if_n c1 hF
    refine lv_iload hx hb dX1_isBlockedBy_71 (lv_at hl 0 rfl) ?_
    refine lv_iload hx hb dX1_isBlockedBy_73 (lv_at hl 1 rfl) ?_
    refine lv_icmp_lt (tgt := 80) hx hb dX1_isBlockedBy_75 (by decide) (fun c2 => ?_) (fun c2 => ?_)
    · have hF := if_y c2 hF
      refine lv_iload_n hx hb dX1_isBlockedBy_80 rfl (lv_at hl 5 rfl) ?_
      refine lv_iload hx hb dX1_isBlockedBy_81 (lv_at hl 2 rfl) ?_
      refine lv_imul hx hb dX1_isBlockedBy_83 ?_
      refine lv_iload hx hb dX1_isBlockedBy_84 (lv_at hl 4 rfl) ?_
      refine lv_iload hx hb dX1_isBlockedBy_86 (lv_at hl 3 rfl) ?_
      refine lv_imul hx hb dX1_isBlockedBy_88 ?_
      refine lv_isub hx hb dX1_isBlockedBy_89 ?_
      refine lv_istore (lv' := [(9, .int ((((p3 / (8 : Int32)) - (p2 / (8 : Int32))) * ((jrem p1 (8 : Int32)) - (jrem p2 (8 : Int32)))) - (((jrem p3 (8 : Int32)) - (jrem p2 (8 : Int32))) * ((p1 / (8 : Int32)) - (p2 / (8 : Int32)))))), (8, .int ((((p3 / (8 : Int32)) - (p2 / (8 : Int32))) * ((p1 / (8 : Int32)) - (p2 / (8 : Int32)))) + (((jrem p3 (8 : Int32)) - (jrem p2 (8 : Int32))) * ((jrem p1 (8 : Int32)) - (jrem p2 (8 : Int32)))))), (7, .int ((((p3 / (8 : Int32)) - (p2 / (8 : Int32))) * ((p3 / (8 : Int32)) - (p2 / (8 : Int32)))) + (((jrem p3 (8 : Int32)) - (jrem p2 (8 : Int32))) * ((jrem p3 (8 : Int32)) - (jrem p2 (8 : Int32)))))), (6, .int ((jrem p1 (8 : Int32)) - (jrem p2 (8 : Int32)))), (5, .int ((p1 / (8 : Int32)) - (p2 / (8 : Int32)))), (4, .int ((jrem p3 (8 : Int32)) - (jrem p2 (8 : Int32)))), (3, .int ((p3 / (8 : Int32)) - (p2 / (8 : Int32)))), (0, .int p1), (1, .int p2), (2, .int p3)]) hx hb dX1_isBlockedBy_90 hl (by decide) rfl (fun ls hl => ?_)
      refine lv_iconst (v := (4 : Int32)) hx hb dX1_isBlockedBy_92 (by decide) ?_
      refine lv_iload hx hb dX1_isBlockedBy_93 (lv_at hl 0 rfl) ?_
      refine lv_imul hx hb dX1_isBlockedBy_95 ?_
      refine lv_iload hx hb dX1_isBlockedBy_96 (lv_at hl 0 rfl) ?_
      refine lv_imul hx hb dX1_isBlockedBy_98 ?_
      refine lv_iload hx hb dX1_isBlockedBy_99 (lv_at hl 2 rfl) ?_
      refine lv_icmp_ge (tgt := 108) hx hb dX1_isBlockedBy_101 (by decide) (fun c3 => ?_) (fun c3 => ?_)
      · have hF := if_y c3 hF
        refine lv_iconst (v := (0 : Int32)) hx hb dX1_isBlockedBy_108 (by decide) ?_
        have hq := hF
        subst hq
        exact hret _ _ _ _ _ rfl hW dX1_isBlockedBy_109
      · have hF := if_n c3 hF
        refine lv_iconst (v := (1 : Int32)) hx hb dX1_isBlockedBy_104 (by decide) ?_
        refine lv_goto (tgt := 109) hx hb dX1_isBlockedBy_105 (by decide) ?_
        have hq := hF
        subst hq
        exact hret _ _ _ _ _ rfl hW dX1_isBlockedBy_109
    · have hF := if_n c2 hF
      refine lv_iconst (v := (0 : Int32)) hx hb dX1_isBlockedBy_78 (by decide) ?_
      have hq := hF
      subst hq
      exact hret _ _ _ _ _ rfl hW dX1_isBlockedBy_79
abbrev wd_Floor_isClear (E : m_E) (a_t : Nat) (a_t_way : Nat) (a_t_tell : Nat) (a_t_look : Nat) (a_t_farSquare : Nat) (a_t_place : Nat) (t_pillars : Int64) (t_weavers : Int32) (t_place : Nat → Int32) : va_W := [(a_t, .inr (1, [.long t_pillars, .int t_weavers, .ref a_t_place, .ref a_t_way, .ref a_t_tell, .ref a_t_look, .ref a_t_farSquare])), (a_t_place, .inl (E.2.1 0, 8, .inl t_place))]
def rm_Floor_isClear : Room := { frames := 1, cells := 0, slots := 0, locals := 29 }
set_option maxHeartbeats 4000000 in
set_option maxRecDepth 100000 in
theorem c_Floor_isClear (l : Launch) (E : m_E) (sz N : Nat) (a_t : Nat) (a_t_way : Nat) (a_t_tell : Nat) (a_t_look : Nat) (a_t_farSquare : Nat) (a_t_place : Nat) (t_pillars : Int64) (t_weavers : Int32) (t_place : Nat → Int32) (p1 : Int32) (p2 : Int32) (ures : Int32) (hF : F_Floor_isClear N p1 p2 t_pillars t_place = some ures) : m_Met l yX1_isClear cX1_isClear 4 (some .boolean) rm_Floor_isClear E (wd_Floor_isClear E a_t a_t_way a_t_tell a_t_look a_t_farSquare a_t_place t_pillars t_weavers t_place) (wd_Floor_isClear E a_t a_t_way a_t_tell a_t_look a_t_farSquare a_t_place t_pillars t_weavers t_place) sz [.ref a_t, .int p1, .int p2] (some (.int ures)) := by
  refine m_ofZ (by decide) (Nat.le_of_ble_eq_true rfl) ?_
  intro p e s m args below meth c A Q ls X hW hA hl hret
  obtain ⟨hx, hb, -, hown, hts, hK, -, hG⟩ := id X
  have hl : lv_has ls 4 [(0, .ref a_t), (1, .int p1), (2, .int p2)] := hl
  unfold F_Floor_isClear at hF
  refine lv_aload_n hx hb dX1_isClear_0 rfl (lv_at hl 0 rfl) ?_
  refine m_get X hW fdX1_30 0 rfl rfl dX1_isClear_1 ?_
  refine lv_lconst (v := (0 : Int64)) hx hb dX1_isClear_4 (by decide) ?_
  refine W.lcmp hx hb dX1_isClear_5 ?_
  refine lv_if_ne (tgt := 11) hx hb dX1_isClear_6 (by decide) (fun c1 => ?_) (fun c1 => ?_)
  · have hF := if_n c1 hF
    refine lv_iconst (v := (0 : Int32)) hx hb dX1_isClear_11 (by decide) ?_
    refine lv_istore_n (lv' := [(3, .int (0 : Int32)), (0, .ref a_t), (1, .int p1), (2, .int p2)]) hx hb dX1_isClear_12 rfl hl (by decide) rfl (fun ls hl => ?_)
    obtain ⟨out7, hX3, hr6, hF⟩ := bT_s0 hF
    have L2 : ∀ (k0 : Nat) (x3 : Int32) (out9 : (Int32) ⊕ Unit)  (H : Heap) (locs : List Loc) (ls : Array Slot), Floor_isClear_L13 t_pillars p1 p2 t_place k0 x3 = some out9 → m_H E A (wd_Floor_isClear E a_t a_t_way a_t_tell a_t_look a_t_farSquare a_t_place t_pillars t_weavers t_place) s.heap H locs → lv_has ls 4 [(3, .int x3), (0, .ref a_t), (1, .int p1), (2, .int p2)] → (∀ a, out9 = .inl a → a = ures) → (∀  (H : Heap) (locs : List Loc) (ls : Array Slot), out9 = .inr () → m_H E A (wd_Floor_isClear E a_t a_t_way a_t_tell a_t_look a_t_farSquare a_t_place t_pillars t_weavers t_place) s.heap H locs → lv_has ls 4 [] → W p l e rm_Floor_isClear s m args below meth c H locs 0 0 Q (F0 m 54 ls [])) → W p l e rm_Floor_isClear s m args below meth c H locs 0 0 Q (F0 m 13 ls []) := by
      clear hF
      intro k0
      induction k0 with
      | zero =>
        intro x3 out9 H locs ls hF
        cases hF
      | succ k0 ih5 =>
        intro x3 out9 H locs ls hF hW hl hr8 hk4
        rw [Floor_isClear_L13] at hF
        refine lv_iload_n hx hb dX1_isClear_13 rfl (lv_at hl 0 rfl) ?_
        refine lv_bipush (v := (64 : Int32)) hx hb dX1_isClear_14 (by decide) ?_
        refine lv_icmp_ge (tgt := 54) hx hb dX1_isClear_16 (by decide) (fun c10 => ?_) (fun c10 => ?_)
        · have hF := if_y c10 hF
          exact hk4  _ _ _ (Option.some.inj hF).symm hW (lv_sub hl [] rfl)
        · have hF := if_n c10 hF
          refine lv_aload_n hx hb dX1_isClear_19 rfl (lv_at hl 1 rfl) ?_
          refine lv_iload_n hx hb dX1_isClear_20 rfl (lv_at hl 0 rfl) ?_
          refine m_callV X hW hA hl.1 lkX1_55 (c_Floor_hasPillar l E _ N a_t a_t_place a_t_way a_t_tell a_t_look a_t_farSquare t_pillars t_weavers x3 (F_Floor_hasPillar x3 t_pillars) rfl) ([0]) (by decide) rfl rfl (ws' := (wd_Floor_isClear E a_t a_t_way a_t_tell a_t_look a_t_farSquare a_t_place t_pillars t_weavers t_place)) rfl 0 rfl rfl rfl (As := [.int x3]) (rest := []) rfl rfl ⟨rfl, rfl, Nat.le_of_ble_eq_true rfl, Nat.le_of_ble_eq_true rfl⟩ (Nat.le_of_ble_eq_true rfl) (Nat.zero_le _) (Nat.zero_le _) dX1_isClear_21 (fun H locs hW => ?_)
          refine lv_if_eq (tgt := 48) hx hb dX1_isClear_24 (by decide) (fun c11 => ?_) (fun c11 => ?_)
          · have hF := if_y c11 hF
            refine lv_iinc (v := (x3 + (1 : Int32))) (lv' := [(3, .int (x3 + (1 : Int32))), (0, .ref a_t), (1, .int p1), (2, .int p2)]) hx hb dX1_isClear_48 hl (k := 0) rfl rfl (by decide) rfl (fun ls hl => ?_)
            refine lv_goto (tgt := 13) hx hb dX1_isClear_51 (by decide) ?_
            exact ih5 (x3 + (1 : Int32)) out9 _ _ _ hF hW (lv_sub hl [0, 1, 2, 3] rfl) hr8 hk4
          · have hF := if_n c11 hF
            refine lv_iload_n hx hb dX1_isClear_27 rfl (lv_at hl 0 rfl) ?_
            refine lv_aload_n hx hb dX1_isClear_28 rfl (lv_at hl 1 rfl) ?_
            refine m_get X hW fdX1_11 0 rfl rfl dX1_isClear_29 ?_
            refine lv_iload_n hx hb dX1_isClear_32 rfl (lv_at hl 2 rfl) ?_
            obtain ⟨g12, hF⟩ := gd_some hF
            refine m_iald X hW 1 (k := p1.toNatClampNeg) rfl g12 rfl dX1_isClear_33 ?_
            refine lv_aload_n hx hb dX1_isClear_34 rfl (lv_at hl 1 rfl) ?_
            refine m_get X hW fdX1_11 0 rfl rfl dX1_isClear_35 ?_
            refine lv_iload_n hx hb dX1_isClear_38 rfl (lv_at hl 3 rfl) ?_
            obtain ⟨g13, hF⟩ := gd_some hF
            refine m_iald X hW 1 (k := p2.toNatClampNeg) rfl g13 rfl dX1_isClear_39 ?_
            refine m_callS X hW hA hl.1 lkX1_62 (c_Floor_isBlockedBy l E _ N   x3 (t_place p1.toNatClampNeg) (t_place p2.toNatClampNeg) (F_Floor_isBlockedBy x3 (t_place p1.toNatClampNeg) (t_place p2.toNatClampNeg)) rfl) ([]) (by decide) rfl rfl (ws' := (wd_Floor_isClear E a_t a_t_way a_t_tell a_t_look a_t_farSquare a_t_place t_pillars t_weavers t_place)) rfl (As := [.int x3, .int (t_place p1.toNatClampNeg), .int (t_place p2.toNatClampNeg)]) (rest := []) rfl rfl ⟨rfl, rfl, Nat.le_of_ble_eq_true rfl, Nat.le_of_ble_eq_true rfl⟩ (Nat.le_of_ble_eq_true rfl) (Nat.zero_le _) (Nat.zero_le _) dX1_isClear_40 (fun H locs hW => ?_)
            refine lv_if_eq (tgt := 48) hx hb dX1_isClear_43 (by decide) (fun c14 => ?_) (fun c14 => ?_)
            · have hF := if_y c14 hF
              refine lv_iinc (v := (x3 + (1 : Int32))) (lv' := [(3, .int (x3 + (1 : Int32))), (0, .ref a_t), (1, .int p1), (2, .int p2)]) hx hb dX1_isClear_48 hl (k := 0) rfl rfl (by decide) rfl (fun ls hl => ?_)
              refine lv_goto (tgt := 13) hx hb dX1_isClear_51 (by decide) ?_
              exact ih5 (x3 + (1 : Int32)) out9 _ _ _ hF hW (lv_sub hl [0, 1, 2, 3] rfl) hr8 hk4
            · have hF := if_n c14 hF
              refine lv_iconst (v := (0 : Int32)) hx hb dX1_isClear_46 (by decide) ?_
              have hq := (Option.some.inj hF).symm
              have hq := hr8 _ hq
              subst hq
              exact hret _ _ _ _ _ rfl hW dX1_isClear_47
    refine L2 N (0 : Int32) out7 _ _ _ hX3 hW (lv_sub hl [0, 1, 2, 3] rfl) hr6 ?_
    intro  H locs ls ho hW hl
    have hF := hF  ho
    clear L2
    refine lv_iconst (v := (1 : Int32)) hx hb dX1_isClear_54 (by decide) ?_
    have hq := Option.some.inj hF
    subst hq
    exact hret _ _ _ _ _ rfl hW dX1_isClear_55
  · have hF := if_y c1 hF
    refine lv_iconst (v := (1 : Int32)) hx hb dX1_isClear_9 (by decide) ?_
    have hq := Option.some.inj hF
    subst hq
    exact hret _ _ _ _ _ rfl hW dX1_isClear_10
abbrev wd_Floor_mayRead (E : m_E) (a_t : Nat) (a_t_way : Nat) (a_t_tell : Nat) (a_t_look : Nat) (a_t_place : Nat) (a_t_farSquare : Nat) (t_pillars : Int64) (t_weavers : Int32) (t_place : Nat → Int32) (t_farSquare : Nat → Int32) : va_W := [(a_t, .inr (1, [.long t_pillars, .int t_weavers, .ref a_t_place, .ref a_t_way, .ref a_t_tell, .ref a_t_look, .ref a_t_farSquare])), (a_t_place, .inl (E.2.1 0, 8, .inl t_place)), (a_t_farSquare, .inl (E.2.1 0, 2, .inl t_farSquare))]
def rm_Floor_mayRead : Room := { frames := 2, cells := 0, slots := 0, locals := 52 }
set_option maxHeartbeats 4000000 in
set_option maxRecDepth 100000 in
theorem c_Floor_mayRead (l : Launch) (E : m_E) (sz N : Nat) (a_t : Nat) (a_t_way : Nat) (a_t_tell : Nat) (a_t_look : Nat) (a_t_place : Nat) (a_t_farSquare : Nat) (t_pillars : Int64) (t_weavers : Int32) (t_place : Nat → Int32) (t_farSquare : Nat → Int32) (p1 : Int32) (p2 : Int32) (ures : Int32) (hF : F_Floor_mayRead N p1 p2 t_pillars t_place t_farSquare = some ures) : m_Met l yX1_mayRead cX1_mayRead 3 (some .boolean) rm_Floor_mayRead E (wd_Floor_mayRead E a_t a_t_way a_t_tell a_t_look a_t_place a_t_farSquare t_pillars t_weavers t_place t_farSquare) (wd_Floor_mayRead E a_t a_t_way a_t_tell a_t_look a_t_place a_t_farSquare t_pillars t_weavers t_place t_farSquare) sz [.ref a_t, .int p1, .int p2] (some (.int ures)) := by
  refine m_ofZ (by decide) (Nat.le_of_ble_eq_true rfl) ?_
  intro p e s m args below meth c A Q ls X hW hA hl hret
  obtain ⟨hx, hb, -, hown, hts, hK, -, hG⟩ := id X
  have hl : lv_has ls 3 [(0, .ref a_t), (1, .int p1), (2, .int p2)] := hl
  unfold F_Floor_mayRead at hF
  refine lv_aload_n hx hb dX1_mayRead_0 rfl (lv_at hl 0 rfl) ?_
  refine lv_iload_n hx hb dX1_mayRead_1 rfl (lv_at hl 1 rfl) ?_
  refine lv_iload_n hx hb dX1_mayRead_2 rfl (lv_at hl 2 rfl) ?_
  obtain ⟨r3, hC1, hF⟩ := bO_s1 hF
  refine m_callV X hW hA hl.1 lkX1_65 (c_Floor_squareOfWay l E _ N a_t a_t_way a_t_tell a_t_look a_t_farSquare a_t_place t_pillars t_weavers t_place p1 p2 r3 hC1) ([0, 1]) (by decide) rfl rfl (ws' := (wd_Floor_mayRead E a_t a_t_way a_t_tell a_t_look a_t_place a_t_farSquare t_pillars t_weavers t_place t_farSquare)) rfl 0 rfl rfl rfl (As := [.int p1, .int p2]) (rest := []) rfl rfl ⟨rfl, rfl, Nat.le_of_ble_eq_true rfl, Nat.le_of_ble_eq_true rfl⟩ (Nat.le_of_ble_eq_true rfl) (Nat.zero_le _) (Nat.zero_le _) dX1_mayRead_3 (fun H locs hW => ?_)
  clear hC1
  refine lv_aload_n hx hb dX1_mayRead_6 rfl (lv_at hl 0 rfl) ?_
  refine m_get X hW fdX1_24 0 rfl rfl dX1_mayRead_7 ?_
  refine lv_iconst (v := (0 : Int32)) hx hb dX1_mayRead_10 (by decide) ?_
  refine m_iald X hW 2 (k := 0) rfl (by decide) rfl dX1_mayRead_11 ?_
  refine lv_icmp_gt (tgt := 28) hx hb dX1_mayRead_12 (by decide) (fun c2 => ?_) (fun c2 => ?_)
  · have hF := if_y c2 hF
    refine lv_iconst (v := (0 : Int32)) hx hb dX1_mayRead_28 (by decide) ?_
    have hq := Option.some.inj hF
    subst hq
    exact hret _ _ _ _ _ rfl hW dX1_mayRead_29
  · have hF := if_n c2 hF
    refine lv_aload_n hx hb dX1_mayRead_15 rfl (lv_at hl 0 rfl) ?_
    refine lv_iload_n hx hb dX1_mayRead_16 rfl (lv_at hl 1 rfl) ?_
    refine lv_iload_n hx hb dX1_mayRead_17 rfl (lv_at hl 2 rfl) ?_
    obtain ⟨r18, hC3, hF⟩ := bO_s1 hF
    refine m_callV X hW hA hl.1 lkX1_69 (c_Floor_isClear l E _ N a_t a_t_way a_t_tell a_t_look a_t_farSquare a_t_place t_pillars t_weavers t_place p1 p2 r18 hC3) ([0, 1]) (by decide) rfl rfl (ws' := (wd_Floor_mayRead E a_t a_t_way a_t_tell a_t_look a_t_place a_t_farSquare t_pillars t_weavers t_place t_farSquare)) rfl 0 rfl rfl rfl (As := [.int p1, .int p2]) (rest := []) rfl rfl ⟨rfl, rfl, Nat.le_of_ble_eq_true rfl, Nat.le_of_ble_eq_true rfl⟩ (Nat.le_of_ble_eq_true rfl) (Nat.zero_le _) (Nat.zero_le _) dX1_mayRead_18 (fun H locs hW => ?_)
    clear hC3
    refine lv_if_eq (tgt := 28) hx hb dX1_mayRead_21 (by decide) (fun c4 => ?_) (fun c4 => ?_)
    · have hF := if_y c4 hF
      refine lv_iconst (v := (0 : Int32)) hx hb dX1_mayRead_28 (by decide) ?_
      have hq := Option.some.inj hF
      subst hq
      exact hret _ _ _ _ _ rfl hW dX1_mayRead_29
    · have hF := if_n c4 hF
      refine lv_iconst (v := (1 : Int32)) hx hb dX1_mayRead_24 (by decide) ?_
      refine lv_goto (tgt := 29) hx hb dX1_mayRead_25 (by decide) ?_
      have hq := Option.some.inj hF
      subst hq
      exact hret _ _ _ _ _ rfl hW dX1_mayRead_29
abbrev wd_Floor_watches (E : m_E) (a_t : Nat) (a_t_tell : Nat) (a_t_look : Nat) (a_t_place : Nat) (a_t_way : Nat) (a_t_farSquare : Nat) (t_pillars : Int64) (t_weavers : Int32) (t_place : Nat → Int32) (t_way : Nat → Int32) (t_farSquare : Nat → Int32) : va_W := [(a_t, .inr (1, [.long t_pillars, .int t_weavers, .ref a_t_place, .ref a_t_way, .ref a_t_tell, .ref a_t_look, .ref a_t_farSquare])), (a_t_place, .inl (E.2.1 0, 8, .inl t_place)), (a_t_way, .inl (E.2.1 0, 8, .inl t_way)), (a_t_farSquare, .inl (E.2.1 0, 2, .inl t_farSquare))]
def rm_Floor_watches : Room := { frames := 2, cells := 0, slots := 0, locals := 52 }
set_option maxHeartbeats 4000000 in
set_option maxRecDepth 100000 in
theorem c_Floor_watches (l : Launch) (E : m_E) (sz N : Nat) (a_t : Nat) (a_t_tell : Nat) (a_t_look : Nat) (a_t_place : Nat) (a_t_way : Nat) (a_t_farSquare : Nat) (t_pillars : Int64) (t_weavers : Int32) (t_place : Nat → Int32) (t_way : Nat → Int32) (t_farSquare : Nat → Int32) (p1 : Int32) (p2 : Int32) (ures : Int32) (hF : F_Floor_watches N p1 p2 t_pillars t_place t_way t_farSquare = some ures) : m_Met l yX1_watches cX1_watches 3 (some .boolean) rm_Floor_watches E (wd_Floor_watches E a_t a_t_tell a_t_look a_t_place a_t_way a_t_farSquare t_pillars t_weavers t_place t_way t_farSquare) (wd_Floor_watches E a_t a_t_tell a_t_look a_t_place a_t_way a_t_farSquare t_pillars t_weavers t_place t_way t_farSquare) sz [.ref a_t, .int p1, .int p2] (some (.int ures)) := by
  refine m_ofZ (by decide) (Nat.le_of_ble_eq_true rfl) ?_
  intro p e s m args below meth c A Q ls X hW hA hl hret
  obtain ⟨hx, hb, -, hown, hts, hK, -, hG⟩ := id X
  have hl : lv_has ls 3 [(0, .ref a_t), (1, .int p1), (2, .int p2)] := hl
  unfold F_Floor_watches at hF
  refine lv_aload_n hx hb dX1_watches_0 rfl (lv_at hl 0 rfl) ?_
  refine m_get X hW fdX1_11 0 rfl rfl dX1_watches_1 ?_
  refine lv_iload_n hx hb dX1_watches_4 rfl (lv_at hl 1 rfl) ?_
  obtain ⟨g1, hF⟩ := gd_some hF
  refine m_iald X hW 1 (k := p1.toNatClampNeg) rfl g1 rfl dX1_watches_5 ?_
  refine lv_aload_n hx hb dX1_watches_6 rfl (lv_at hl 0 rfl) ?_
  refine m_get X hW fdX1_11 0 rfl rfl dX1_watches_7 ?_
  refine lv_iload_n hx hb dX1_watches_10 rfl (lv_at hl 2 rfl) ?_
  obtain ⟨g2, hF⟩ := gd_some hF
  refine m_iald X hW 1 (k := p2.toNatClampNeg) rfl g2 rfl dX1_watches_11 ?_
  refine lv_aload_n hx hb dX1_watches_12 rfl (lv_at hl 0 rfl) ?_
  refine m_get X hW fdX1_15 0 rfl rfl dX1_watches_13 ?_
  refine lv_iload_n hx hb dX1_watches_16 rfl (lv_at hl 1 rfl) ?_
  refine m_iald X hW 2 (k := p1.toNatClampNeg) rfl g1 rfl dX1_watches_17 ?_
  refine m_callS X hW hA hl.1 lkX1_58 (c_Floor_goesBy l E _ N   (t_place p1.toNatClampNeg) (t_place p2.toNatClampNeg) (t_way p1.toNatClampNeg) (F_Floor_goesBy (t_place p1.toNatClampNeg) (t_place p2.toNatClampNeg) (t_way p1.toNatClampNeg)) rfl) ([]) (by decide) rfl rfl (ws' := (wd_Floor_watches E a_t a_t_tell a_t_look a_t_place a_t_way a_t_farSquare t_pillars t_weavers t_place t_way t_farSquare)) rfl (As := [.int (t_place p1.toNatClampNeg), .int (t_place p2.toNatClampNeg), .int (t_way p1.toNatClampNeg)]) (rest := []) rfl rfl ⟨rfl, rfl, Nat.le_of_ble_eq_true rfl, Nat.le_of_ble_eq_true rfl⟩ (Nat.le_of_ble_eq_true rfl) (Nat.zero_le _) (Nat.zero_le _) dX1_watches_18 (fun H locs hW => ?_)
  refine lv_if_le (tgt := 76) hx hb dX1_watches_21 (by decide) (fun c3 => ?_) (fun c3 => ?_)
  · have hF := if_y c3 hF
    refine lv_iconst (v := (0 : Int32)) hx hb dX1_watches_76 (by decide) ?_
    have hq := Option.some.inj hF
    subst hq
    exact hret _ _ _ _ _ rfl hW dX1_watches_77
  · have hF := if_n c3 hF
    refine lv_aload_n hx hb dX1_watches_24 rfl (lv_at hl 0 rfl) ?_
    refine m_get X hW fdX1_11 0 rfl rfl dX1_watches_25 ?_
    refine lv_iload_n hx hb dX1_watches_28 rfl (lv_at hl 2 rfl) ?_
    refine m_iald X hW 1 (k := p2.toNatClampNeg) rfl g2 rfl dX1_watches_29 ?_
    refine lv_aload_n hx hb dX1_watches_30 rfl (lv_at hl 0 rfl) ?_
    refine m_get X hW fdX1_11 0 rfl rfl dX1_watches_31 ?_
    refine lv_iload_n hx hb dX1_watches_34 rfl (lv_at hl 1 rfl) ?_
    refine m_iald X hW 1 (k := p1.toNatClampNeg) rfl g1 rfl dX1_watches_35 ?_
    refine lv_aload_n hx hb dX1_watches_36 rfl (lv_at hl 0 rfl) ?_
    refine m_get X hW fdX1_15 0 rfl rfl dX1_watches_37 ?_
    refine lv_iload_n hx hb dX1_watches_40 rfl (lv_at hl 2 rfl) ?_
    refine m_iald X hW 2 (k := p2.toNatClampNeg) rfl g2 rfl dX1_watches_41 ?_
    refine m_callS X hW hA hl.1 lkX1_58 (c_Floor_goesBy l E _ N   (t_place p2.toNatClampNeg) (t_place p1.toNatClampNeg) (t_way p2.toNatClampNeg) (F_Floor_goesBy (t_place p2.toNatClampNeg) (t_place p1.toNatClampNeg) (t_way p2.toNatClampNeg)) rfl) ([]) (by decide) rfl rfl (ws' := (wd_Floor_watches E a_t a_t_tell a_t_look a_t_place a_t_way a_t_farSquare t_pillars t_weavers t_place t_way t_farSquare)) rfl (As := [.int (t_place p2.toNatClampNeg), .int (t_place p1.toNatClampNeg), .int (t_way p2.toNatClampNeg)]) (rest := []) rfl rfl ⟨rfl, rfl, Nat.le_of_ble_eq_true rfl, Nat.le_of_ble_eq_true rfl⟩ (Nat.le_of_ble_eq_true rfl) (Nat.zero_le _) (Nat.zero_le _) dX1_watches_42 (fun H locs hW => ?_)
    refine lv_if_lt (tgt := 76) hx hb dX1_watches_45 (by decide) (fun c4 => ?_) (fun c4 => ?_)
    · have hF := if_y c4 hF
      refine lv_iconst (v := (0 : Int32)) hx hb dX1_watches_76 (by decide) ?_
      have hq := Option.some.inj hF
      subst hq
      exact hret _ _ _ _ _ rfl hW dX1_watches_77
    · have hF := if_n c4 hF
      refine lv_aload_n hx hb dX1_watches_48 rfl (lv_at hl 0 rfl) ?_
      refine lv_iload_n hx hb dX1_watches_49 rfl (lv_at hl 1 rfl) ?_
      refine lv_iload_n hx hb dX1_watches_50 rfl (lv_at hl 2 rfl) ?_
      obtain ⟨r51, hC5, hF⟩ := bO_s1 hF
      refine m_callV X hW hA hl.1 lkX1_65 (c_Floor_squareOfWay l E _ N a_t a_t_way a_t_tell a_t_look a_t_farSquare a_t_place t_pillars t_weavers t_place p1 p2 r51 hC5) ([0, 1]) (by decide) rfl rfl (ws' := (wd_Floor_watches E a_t a_t_tell a_t_look a_t_place a_t_way a_t_farSquare t_pillars t_weavers t_place t_way t_farSquare)) rfl 0 rfl rfl rfl (As := [.int p1, .int p2]) (rest := []) rfl rfl ⟨rfl, rfl, Nat.le_of_ble_eq_true rfl, Nat.le_of_ble_eq_true rfl⟩ (Nat.le_of_ble_eq_true rfl) (Nat.zero_le _) (Nat.zero_le _) dX1_watches_51 (fun H locs hW => ?_)
      clear hC5
      refine lv_aload_n hx hb dX1_watches_54 rfl (lv_at hl 0 rfl) ?_
      refine m_get X hW fdX1_24 0 rfl rfl dX1_watches_55 ?_
      refine lv_iconst (v := (1 : Int32)) hx hb dX1_watches_58 (by decide) ?_
      refine m_iald X hW 3 (k := 1) rfl (by decide) rfl dX1_watches_59 ?_
      refine lv_icmp_gt (tgt := 76) hx hb dX1_watches_60 (by decide) (fun c6 => ?_) (fun c6 => ?_)
      · have hF := if_y c6 hF
        refine lv_iconst (v := (0 : Int32)) hx hb dX1_watches_76 (by decide) ?_
        have hq := Option.some.inj hF
        subst hq
        exact hret _ _ _ _ _ rfl hW dX1_watches_77
      · have hF := if_n c6 hF
        refine lv_aload_n hx hb dX1_watches_63 rfl (lv_at hl 0 rfl) ?_
        refine lv_iload_n hx hb dX1_watches_64 rfl (lv_at hl 1 rfl) ?_
        refine lv_iload_n hx hb dX1_watches_65 rfl (lv_at hl 2 rfl) ?_
        obtain ⟨r66, hC7, hF⟩ := bO_s1 hF
        refine m_callV X hW hA hl.1 lkX1_69 (c_Floor_isClear l E _ N a_t a_t_way a_t_tell a_t_look a_t_farSquare a_t_place t_pillars t_weavers t_place p1 p2 r66 hC7) ([0, 1]) (by decide) rfl rfl (ws' := (wd_Floor_watches E a_t a_t_tell a_t_look a_t_place a_t_way a_t_farSquare t_pillars t_weavers t_place t_way t_farSquare)) rfl 0 rfl rfl rfl (As := [.int p1, .int p2]) (rest := []) rfl rfl ⟨rfl, rfl, Nat.le_of_ble_eq_true rfl, Nat.le_of_ble_eq_true rfl⟩ (Nat.le_of_ble_eq_true rfl) (Nat.zero_le _) (Nat.zero_le _) dX1_watches_66 (fun H locs hW => ?_)
        clear hC7
        refine lv_if_eq (tgt := 76) hx hb dX1_watches_69 (by decide) (fun c8 => ?_) (fun c8 => ?_)
        · have hF := if_y c8 hF
          refine lv_iconst (v := (0 : Int32)) hx hb dX1_watches_76 (by decide) ?_
          have hq := Option.some.inj hF
          subst hq
          exact hret _ _ _ _ _ rfl hW dX1_watches_77
        · have hF := if_n c8 hF
          refine lv_iconst (v := (1 : Int32)) hx hb dX1_watches_72 (by decide) ?_
          refine lv_goto (tgt := 77) hx hb dX1_watches_73 (by decide) ?_
          have hq := Option.some.inj hF
          subst hq
          exact hret _ _ _ _ _ rfl hW dX1_watches_77
abbrev wd_Floor_perceives (E : m_E) (a_t : Nat) (a_t_tell : Nat) (a_t_look : Nat) (a_t_place : Nat) (a_t_way : Nat) (a_t_farSquare : Nat) (t_pillars : Int64) (t_weavers : Int32) (t_place : Nat → Int32) (t_way : Nat → Int32) (t_farSquare : Nat → Int32) : va_W := [(a_t, .inr (1, [.long t_pillars, .int t_weavers, .ref a_t_place, .ref a_t_way, .ref a_t_tell, .ref a_t_look, .ref a_t_farSquare])), (a_t_place, .inl (E.2.1 0, 8, .inl t_place)), (a_t_way, .inl (E.2.1 0, 8, .inl t_way)), (a_t_farSquare, .inl (E.2.1 0, 2, .inl t_farSquare))]
def rm_Floor_perceives : Room := { frames := 3, cells := 0, slots := 0, locals := 74 }
set_option maxHeartbeats 4000000 in
set_option maxRecDepth 100000 in
theorem c_Floor_perceives (l : Launch) (E : m_E) (sz N : Nat) (a_t : Nat) (a_t_tell : Nat) (a_t_look : Nat) (a_t_place : Nat) (a_t_way : Nat) (a_t_farSquare : Nat) (t_pillars : Int64) (t_weavers : Int32) (t_place : Nat → Int32) (t_way : Nat → Int32) (t_farSquare : Nat → Int32) (p1 : Int32) (p2 : Int32) (p3 : Int32) (ures : Int32) (hF : F_Floor_perceives N p1 p2 p3 t_pillars t_place t_way t_farSquare = some ures) : m_Met l yX1_perceives cX1_perceives 4 (some .boolean) rm_Floor_perceives E (wd_Floor_perceives E a_t a_t_tell a_t_look a_t_place a_t_way a_t_farSquare t_pillars t_weavers t_place t_way t_farSquare) (wd_Floor_perceives E a_t a_t_tell a_t_look a_t_place a_t_way a_t_farSquare t_pillars t_weavers t_place t_way t_farSquare) sz [.ref a_t, .int p1, .int p2, .int p3] (some (.int ures)) := by
  refine m_ofZ (by decide) (Nat.le_of_ble_eq_true rfl) ?_
  intro p e s m args below meth c A Q ls X hW hA hl hret
  obtain ⟨hx, hb, -, hown, hts, hK, -, hG⟩ := id X
  have hl : lv_has ls 4 [(0, .ref a_t), (1, .int p1), (2, .int p2), (3, .int p3)] := hl
  unfold F_Floor_perceives at hF
  refine lv_iload_n hx hb dX1_perceives_0 rfl (lv_at hl 3 rfl) ?_
  refine lv_if_ne (tgt := 40) hx hb dX1_perceives_1 (by decide) (fun c1 => ?_) (fun c1 => ?_)
  · have hF := if_n c1 hF
    refine lv_aload_n hx hb dX1_perceives_40 rfl (lv_at hl 0 rfl) ?_
    refine lv_iload_n hx hb dX1_perceives_41 rfl (lv_at hl 1 rfl) ?_
    refine lv_iload_n hx hb dX1_perceives_42 rfl (lv_at hl 2 rfl) ?_
    obtain ⟨r43, hC2, hF⟩ := bO_s1 hF
    refine m_callV X hW hA hl.1 lkX1_80 (c_Floor_watches l E _ N a_t a_t_tell a_t_look a_t_place a_t_way a_t_farSquare t_pillars t_weavers t_place t_way t_farSquare p1 p2 r43 hC2) ([0, 1, 2, 3]) (by decide) rfl rfl (ws' := (wd_Floor_perceives E a_t a_t_tell a_t_look a_t_place a_t_way a_t_farSquare t_pillars t_weavers t_place t_way t_farSquare)) rfl 0 rfl rfl rfl (As := [.int p1, .int p2]) (rest := []) rfl rfl ⟨rfl, rfl, Nat.le_of_ble_eq_true rfl, Nat.le_of_ble_eq_true rfl⟩ (Nat.le_of_ble_eq_true rfl) (Nat.zero_le _) (Nat.zero_le _) dX1_perceives_43 (fun H locs hW => ?_)
    clear hC2
    have hq := Option.some.inj hF
    subst hq
    exact hret _ _ _ _ _ rfl hW dX1_perceives_46
  · have hF := if_y c1 hF
    refine lv_aload_n hx hb dX1_perceives_4 rfl (lv_at hl 0 rfl) ?_
    refine lv_iload_n hx hb dX1_perceives_5 rfl (lv_at hl 1 rfl) ?_
    refine lv_aload_n hx hb dX1_perceives_6 rfl (lv_at hl 0 rfl) ?_
    refine m_get X hW fdX1_15 0 rfl rfl dX1_perceives_7 ?_
    refine lv_iload_n hx hb dX1_perceives_10 rfl (lv_at hl 1 rfl) ?_
    obtain ⟨g3, hF⟩ := gd_some hF
    refine m_iald X hW 2 (k := p1.toNatClampNeg) rfl g3 rfl dX1_perceives_11 ?_
    refine lv_iload_n hx hb dX1_perceives_12 rfl (lv_at hl 2 rfl) ?_
    refine lv_aload_n hx hb dX1_perceives_13 rfl (lv_at hl 0 rfl) ?_
    refine m_get X hW fdX1_15 0 rfl rfl dX1_perceives_14 ?_
    refine lv_iload_n hx hb dX1_perceives_17 rfl (lv_at hl 2 rfl) ?_
    obtain ⟨g4, hF⟩ := gd_some hF
    refine m_iald X hW 2 (k := p2.toNatClampNeg) rfl g4 rfl dX1_perceives_18 ?_
    obtain ⟨r19, hC5, hF⟩ := bO_s1 hF
    refine m_callV X hW hA hl.1 lkX1_73 (c_Floor_faceEachOther l E _ N a_t a_t_way a_t_tell a_t_look a_t_farSquare a_t_place t_pillars t_weavers t_place p1 (t_way p1.toNatClampNeg) p2 (t_way p2.toNatClampNeg) r19 hC5) ([0, 1]) (by decide) rfl rfl (ws' := (wd_Floor_perceives E a_t a_t_tell a_t_look a_t_place a_t_way a_t_farSquare t_pillars t_weavers t_place t_way t_farSquare)) rfl 0 rfl rfl rfl (As := [.int p1, .int (t_way p1.toNatClampNeg), .int p2, .int (t_way p2.toNatClampNeg)]) (rest := []) rfl rfl ⟨rfl, rfl, Nat.le_of_ble_eq_true rfl, Nat.le_of_ble_eq_true rfl⟩ (Nat.le_of_ble_eq_true rfl) (Nat.zero_le _) (Nat.zero_le _) dX1_perceives_19 (fun H locs hW => ?_)
    clear hC5
    refine lv_if_eq (tgt := 38) hx hb dX1_perceives_22 (by decide) (fun c6 => ?_) (fun c6 => ?_)
    · have hF := if_y c6 hF
      refine lv_iconst (v := (0 : Int32)) hx hb dX1_perceives_38 (by decide) ?_
      have hq := Option.some.inj hF
      subst hq
      exact hret _ _ _ _ _ rfl hW dX1_perceives_39
    · have hF := if_n c6 hF
      refine lv_aload_n hx hb dX1_perceives_25 rfl (lv_at hl 0 rfl) ?_
      refine lv_iload_n hx hb dX1_perceives_26 rfl (lv_at hl 1 rfl) ?_
      refine lv_iload_n hx hb dX1_perceives_27 rfl (lv_at hl 2 rfl) ?_
      obtain ⟨r28, hC7, hF⟩ := bO_s1 hF
      refine m_callV X hW hA hl.1 lkX1_77 (c_Floor_mayRead l E _ N a_t a_t_way a_t_tell a_t_look a_t_place a_t_farSquare t_pillars t_weavers t_place t_farSquare p1 p2 r28 hC7) ([0, 1, 3]) (by decide) rfl rfl (ws' := (wd_Floor_perceives E a_t a_t_tell a_t_look a_t_place a_t_way a_t_farSquare t_pillars t_weavers t_place t_way t_farSquare)) rfl 0 rfl rfl rfl (As := [.int p1, .int p2]) (rest := []) rfl rfl ⟨rfl, rfl, Nat.le_of_ble_eq_true rfl, Nat.le_of_ble_eq_true rfl⟩ (Nat.le_of_ble_eq_true rfl) (Nat.zero_le _) (Nat.zero_le _) dX1_perceives_28 (fun H locs hW => ?_)
      clear hC7
      refine lv_if_eq (tgt := 38) hx hb dX1_perceives_31 (by decide) (fun c8 => ?_) (fun c8 => ?_)
      · have hF := if_y c8 hF
        refine lv_iconst (v := (0 : Int32)) hx hb dX1_perceives_38 (by decide) ?_
        have hq := Option.some.inj hF
        subst hq
        exact hret _ _ _ _ _ rfl hW dX1_perceives_39
      · have hF := if_n c8 hF
        refine lv_iconst (v := (1 : Int32)) hx hb dX1_perceives_34 (by decide) ?_
        refine lv_goto (tgt := 39) hx hb dX1_perceives_35 (by decide) ?_
        have hq := Option.some.inj hF
        subst hq
        exact hret _ _ _ _ _ rfl hW dX1_perceives_39
abbrev wd_S_oneIf (E : m_E)   : va_W := []
def rm_S_oneIf : Room := { frames := 0, cells := 0, slots := 0, locals := 0 }
set_option maxHeartbeats 4000000 in
set_option maxRecDepth 100000 in
theorem c_S_oneIf (l : Launch) (E : m_E) (sz N : Nat)   (p1 : Int32) (ures : Int32) (hF : F_S_oneIf p1 = ures) : m_Met l yX11_oneIf cX11_oneIf 1 (some .int) rm_S_oneIf E (wd_S_oneIf E) (wd_S_oneIf E) sz [.int p1] (some (.int ures)) := by
  refine m_ofI (by decide) (Nat.le_of_ble_eq_true rfl) ?_
  intro p e s m args below meth c A Q ls X hW hA hl hret
  obtain ⟨hx, hb, -, hown, hts, hK, -, hG⟩ := id X
  have hl : lv_has ls 1 [(0, .int p1)] := hl
  unfold F_S_oneIf at hF
  refine lv_iload_n hx hb dX11_oneIf_0 rfl (lv_at hl 0 rfl) ?_
  refine lv_if_eq (tgt := 8) hx hb dX11_oneIf_1 (by decide) (fun c1 => ?_) (fun c1 => ?_)
  · have hF := if_y c1 hF
    refine lv_iconst (v := (0 : Int32)) hx hb dX11_oneIf_8 (by decide) ?_
    have hq := hF
    subst hq
    exact hret _ _ _ _ hW dX11_oneIf_9
  · have hF := if_n c1 hF
    refine lv_iconst (v := (1 : Int32)) hx hb dX11_oneIf_4 (by decide) ?_
    refine lv_goto (tgt := 9) hx hb dX11_oneIf_5 (by decide) ?_
    have hq := hF
    subst hq
    exact hret _ _ _ _ hW dX11_oneIf_9
abbrev wd_S_sees (E : m_E) (a_t : Nat) (a_t_draft : Nat) (a_t_firstImage : Nat) (a_t_secondImage : Nat) (a_t_news : Nat) (a_t_otherNews : Nat) (a_t_readings : Nat) (a_t_chances : Nat) (a_t_turning : Nat) (a_t_text : Nat) (a_t_fraction : Nat) (a_t_now : Nat) (a_t_now_sightings : Nat) (a_t_now_lexicon : Nat) (a_t_now_level : Nat) (a_t_now_loss : Nat) (a_t_now_floor : Nat) (a_t_now_floor_tell : Nat) (a_t_now_floor_look : Nat) (a_t_now_floor_place : Nat) (a_t_now_floor_way : Nat) (a_t_now_floor_farSquare : Nat) (t_now_clearness : Int32) (t_now_isKept : Int32) (t_now_floor_pillars : Int64) (t_now_floor_weavers : Int32) (t_now_floor_place : Nat → Int32) (t_now_floor_way : Nat → Int32) (t_now_floor_farSquare : Nat → Int32) : va_W := [(a_t, .inr (11, [.ref a_t_now, .ref a_t_draft, .ref a_t_firstImage, .ref a_t_secondImage, .ref a_t_news, .ref a_t_otherNews, .ref a_t_readings, .ref a_t_chances, .ref a_t_turning, .ref a_t_text, .ref a_t_fraction])), (a_t_now, .inr (7, [.ref a_t_now_floor, .ref a_t_now_sightings, .ref a_t_now_lexicon, .ref a_t_now_level, .ref a_t_now_loss, .int t_now_clearness, .int t_now_isKept])), (a_t_now_floor, .inr (1, [.long t_now_floor_pillars, .int t_now_floor_weavers, .ref a_t_now_floor_place, .ref a_t_now_floor_way, .ref a_t_now_floor_tell, .ref a_t_now_floor_look, .ref a_t_now_floor_farSquare])), (a_t_now_floor_place, .inl (E.2.1 0, 8, .inl t_now_floor_place)), (a_t_now_floor_way, .inl (E.2.1 0, 8, .inl t_now_floor_way)), (a_t_now_floor_farSquare, .inl (E.2.1 0, 2, .inl t_now_floor_farSquare))]
def rm_S_sees : Room := { frames := 4, cells := 0, slots := 0, locals := 97 }
set_option maxHeartbeats 4000000 in
set_option maxRecDepth 100000 in
theorem c_S_sees (l : Launch) (E : m_E) (sz N : Nat) (a_t : Nat) (a_t_draft : Nat) (a_t_firstImage : Nat) (a_t_secondImage : Nat) (a_t_news : Nat) (a_t_otherNews : Nat) (a_t_readings : Nat) (a_t_chances : Nat) (a_t_turning : Nat) (a_t_text : Nat) (a_t_fraction : Nat) (a_t_now : Nat) (a_t_now_sightings : Nat) (a_t_now_lexicon : Nat) (a_t_now_level : Nat) (a_t_now_loss : Nat) (a_t_now_floor : Nat) (a_t_now_floor_tell : Nat) (a_t_now_floor_look : Nat) (a_t_now_floor_place : Nat) (a_t_now_floor_way : Nat) (a_t_now_floor_farSquare : Nat) (t_now_clearness : Int32) (t_now_isKept : Int32) (t_now_floor_pillars : Int64) (t_now_floor_weavers : Int32) (t_now_floor_place : Nat → Int32) (t_now_floor_way : Nat → Int32) (t_now_floor_farSquare : Nat → Int32) (p1 : Int32) (p2 : Int32) (p3 : Int32) (ures : Int32) (hF : F_S_sees N p1 p2 p3 t_now_floor_pillars t_now_floor_weavers t_now_floor_place t_now_floor_way t_now_floor_farSquare = some ures) : m_Met l yX11_sees cX11_sees 4 (some .int) rm_S_sees E (wd_S_sees E a_t a_t_draft a_t_firstImage a_t_secondImage a_t_news a_t_otherNews a_t_readings a_t_chances a_t_turning a_t_text a_t_fraction a_t_now a_t_now_sightings a_t_now_lexicon a_t_now_level a_t_now_loss a_t_now_floor a_t_now_floor_tell a_t_now_floor_look a_t_now_floor_place a_t_now_floor_way a_t_now_floor_farSquare t_now_clearness t_now_isKept t_now_floor_pillars t_now_floor_weavers t_now_floor_place t_now_floor_way t_now_floor_farSquare) (wd_S_sees E a_t a_t_draft a_t_firstImage a_t_secondImage a_t_news a_t_otherNews a_t_readings a_t_chances a_t_turning a_t_text a_t_fraction a_t_now a_t_now_sightings a_t_now_lexicon a_t_now_level a_t_now_loss a_t_now_floor a_t_now_floor_tell a_t_now_floor_look a_t_now_floor_place a_t_now_floor_way a_t_now_floor_farSquare t_now_clearness t_now_isKept t_now_floor_pillars t_now_floor_weavers t_now_floor_place t_now_floor_way t_now_floor_farSquare) sz [.ref a_t, .int p1, .int p2, .int p3] (some (.int ures)) := by
  refine m_ofI (by decide) (Nat.le_of_ble_eq_true rfl) ?_
  intro p e s m args below meth c A Q ls X hW hA hl hret
  obtain ⟨hx, hb, -, hown, hts, hK, -, hG⟩ := id X
  have hl : lv_has ls 4 [(0, .ref a_t), (1, .int p1), (2, .int p2), (3, .int p3)] := hl
  unfold F_S_sees at hF
  refine lv_aload_n hx hb dX11_sees_0 rfl (lv_at hl 0 rfl) ?_
  refine m_get X hW fdX11_10 0 rfl rfl dX11_sees_1 ?_
  refine m_get X hW fdX11_70 1 rfl rfl dX11_sees_4 ?_
  refine lv_iload_n hx hb dX11_sees_7 rfl (lv_at hl 1 rfl) ?_
  refine lv_iload_n hx hb dX11_sees_8 rfl (lv_at hl 2 rfl) ?_
  refine m_callV X hW hA hl.1 lkX11_94 (c_Floor_areTwo l E _ N a_t_now_floor a_t_now_floor_place a_t_now_floor_way a_t_now_floor_tell a_t_now_floor_look a_t_now_floor_farSquare t_now_floor_pillars t_now_floor_weavers p1 p2 (F_Floor_areTwo p1 p2 t_now_floor_weavers) rfl) ([2]) (by decide) rfl rfl (ws' := (wd_S_sees E a_t a_t_draft a_t_firstImage a_t_secondImage a_t_news a_t_otherNews a_t_readings a_t_chances a_t_turning a_t_text a_t_fraction a_t_now a_t_now_sightings a_t_now_lexicon a_t_now_level a_t_now_loss a_t_now_floor a_t_now_floor_tell a_t_now_floor_look a_t_now_floor_place a_t_now_floor_way a_t_now_floor_farSquare t_now_clearness t_now_isKept t_now_floor_pillars t_now_floor_weavers t_now_floor_place t_now_floor_way t_now_floor_farSquare)) rfl 2 rfl rfl rfl (As := [.int p1, .int p2]) (rest := []) rfl rfl ⟨rfl, rfl, Nat.le_of_ble_eq_true rfl, Nat.le_of_ble_eq_true rfl⟩ (Nat.le_of_ble_eq_true rfl) (Nat.zero_le _) (Nat.zero_le _) dX11_sees_9 (fun H locs hW => ?_)
  refine lv_if_eq (tgt := 24) hx hb dX11_sees_12 (by decide) (fun c1 => ?_) (fun c1 => ?_)
  · have hF := if_y c1 hF
    refine lv_bipush (v := (-2 : Int32)) hx hb dX11_sees_24 (by decide) ?_
    have hq := Option.some.inj hF
    subst hq
    exact hret _ _ _ _ hW dX11_sees_26
  · have hF := if_n c1 hF
    refine lv_iload_n hx hb dX11_sees_15 rfl (lv_at hl 3 rfl) ?_
    refine lv_iconst (v := (0 : Int32)) hx hb dX11_sees_16 (by decide) ?_
    refine lv_iconst (v := (1 : Int32)) hx hb dX11_sees_17 (by decide) ?_
    refine m_callS X hW hA hl.1 lkX11_98 (c_S_within l E _ N   p3 (0 : Int32) (1 : Int32) (F_S_within p3 (0 : Int32) (1 : Int32)) rfl) ([]) (by decide) rfl rfl (ws' := (wd_S_sees E a_t a_t_draft a_t_firstImage a_t_secondImage a_t_news a_t_otherNews a_t_readings a_t_chances a_t_turning a_t_text a_t_fraction a_t_now a_t_now_sightings a_t_now_lexicon a_t_now_level a_t_now_loss a_t_now_floor a_t_now_floor_tell a_t_now_floor_look a_t_now_floor_place a_t_now_floor_way a_t_now_floor_farSquare t_now_clearness t_now_isKept t_now_floor_pillars t_now_floor_weavers t_now_floor_place t_now_floor_way t_now_floor_farSquare)) rfl (As := [.int p3, .int (0 : Int32), .int (1 : Int32)]) (rest := []) rfl rfl ⟨rfl, rfl, Nat.le_of_ble_eq_true rfl, Nat.le_of_ble_eq_true rfl⟩ (Nat.le_of_ble_eq_true rfl) (Nat.zero_le _) (Nat.zero_le _) dX11_sees_18 (fun H locs hW => ?_)
    refine lv_if_ne (tgt := 27) hx hb dX11_sees_21 (by decide) (fun c2 => ?_) (fun c2 => ?_)
    · have hF := if_n c2 hF
      refine lv_aload_n hx hb dX11_sees_27 rfl (lv_at hl 0 rfl) ?_
      refine m_get X hW fdX11_10 0 rfl rfl dX11_sees_28 ?_
      refine m_get X hW fdX11_70 1 rfl rfl dX11_sees_31 ?_
      refine lv_iload_n hx hb dX11_sees_34 rfl (lv_at hl 1 rfl) ?_
      refine lv_iload_n hx hb dX11_sees_35 rfl (lv_at hl 2 rfl) ?_
      refine lv_iload_n hx hb dX11_sees_36 rfl (lv_at hl 3 rfl) ?_
      obtain ⟨r37, hC3, hF⟩ := bO_s1 hF
      refine m_callV X hW hA hl.1 lkX11_102 (c_Floor_perceives l E _ N a_t_now_floor a_t_now_floor_tell a_t_now_floor_look a_t_now_floor_place a_t_now_floor_way a_t_now_floor_farSquare t_now_floor_pillars t_now_floor_weavers t_now_floor_place t_now_floor_way t_now_floor_farSquare p1 p2 p3 r37 hC3) ([2, 3, 4, 5]) (by decide) rfl rfl (ws' := (wd_S_sees E a_t a_t_draft a_t_firstImage a_t_secondImage a_t_news a_t_otherNews a_t_readings a_t_chances a_t_turning a_t_text a_t_fraction a_t_now a_t_now_sightings a_t_now_lexicon a_t_now_level a_t_now_loss a_t_now_floor a_t_now_floor_tell a_t_now_floor_look a_t_now_floor_place a_t_now_floor_way a_t_now_floor_farSquare t_now_clearness t_now_isKept t_now_floor_pillars t_now_floor_weavers t_now_floor_place t_now_floor_way t_now_floor_farSquare)) rfl 2 rfl rfl rfl (As := [.int p1, .int p2, .int p3]) (rest := []) rfl rfl ⟨rfl, rfl, Nat.le_of_ble_eq_true rfl, Nat.le_of_ble_eq_true rfl⟩ (Nat.le_of_ble_eq_true rfl) (Nat.zero_le _) (Nat.zero_le _) dX11_sees_37 (fun H locs hW => ?_)
      clear hC3
      refine m_callS X hW hA hl.1 lkX11_105 (c_S_oneIf l E _ N   r37 (F_S_oneIf r37) rfl) ([]) (by decide) rfl rfl (ws' := (wd_S_sees E a_t a_t_draft a_t_firstImage a_t_secondImage a_t_news a_t_otherNews a_t_readings a_t_chances a_t_turning a_t_text a_t_fraction a_t_now a_t_now_sightings a_t_now_lexicon a_t_now_level a_t_now_loss a_t_now_floor a_t_now_floor_tell a_t_now_floor_look a_t_now_floor_place a_t_now_floor_way a_t_now_floor_farSquare t_now_clearness t_now_isKept t_now_floor_pillars t_now_floor_weavers t_now_floor_place t_now_floor_way t_now_floor_farSquare)) rfl (As := [.int r37]) (rest := []) rfl rfl ⟨rfl, rfl, Nat.le_of_ble_eq_true rfl, Nat.le_of_ble_eq_true rfl⟩ (Nat.le_of_ble_eq_true rfl) (Nat.zero_le _) (Nat.zero_le _) dX11_sees_40 (fun H locs hW => ?_)
      have hq := Option.some.inj hF
      subst hq
      exact hret _ _ _ _ hW dX11_sees_43
    · have hF := if_y c2 hF
      refine lv_bipush (v := (-2 : Int32)) hx hb dX11_sees_24 (by decide) ?_
      have hq := Option.some.inj hF
      subst hq
      exact hret _ _ _ _ hW dX11_sees_26
abbrev wd_S_clear (E : m_E) (a_t : Nat) (a_t_draft : Nat) (a_t_firstImage : Nat) (a_t_secondImage : Nat) (a_t_news : Nat) (a_t_otherNews : Nat) (a_t_readings : Nat) (a_t_chances : Nat) (a_t_turning : Nat) (a_t_text : Nat) (a_t_fraction : Nat) (a_t_now : Nat) (a_t_now_sightings : Nat) (a_t_now_lexicon : Nat) (a_t_now_level : Nat) (a_t_now_loss : Nat) (a_t_now_floor : Nat) (a_t_now_floor_way : Nat) (a_t_now_floor_tell : Nat) (a_t_now_floor_look : Nat) (a_t_now_floor_farSquare : Nat) (a_t_now_floor_place : Nat) (t_now_clearness : Int32) (t_now_isKept : Int32) (t_now_floor_pillars : Int64) (t_now_floor_weavers : Int32) (t_now_floor_place : Nat → Int32) : va_W := [(a_t, .inr (11, [.ref a_t_now, .ref a_t_draft, .ref a_t_firstImage, .ref a_t_secondImage, .ref a_t_news, .ref a_t_otherNews, .ref a_t_readings, .ref a_t_chances, .ref a_t_turning, .ref a_t_text, .ref a_t_fraction])), (a_t_now, .inr (7, [.ref a_t_now_floor, .ref a_t_now_sightings, .ref a_t_now_lexicon, .ref a_t_now_level, .ref a_t_now_loss, .int t_now_clearness, .int t_now_isKept])), (a_t_now_floor, .inr (1, [.long t_now_floor_pillars, .int t_now_floor_weavers, .ref a_t_now_floor_place, .ref a_t_now_floor_way, .ref a_t_now_floor_tell, .ref a_t_now_floor_look, .ref a_t_now_floor_farSquare])), (a_t_now_floor_place, .inl (E.2.1 0, 8, .inl t_now_floor_place))]
def rm_S_clear : Room := { frames := 3, cells := 0, slots := 0, locals := 65 }
set_option maxHeartbeats 4000000 in
set_option maxRecDepth 100000 in
theorem c_S_clear (l : Launch) (E : m_E) (sz N : Nat) (a_t : Nat) (a_t_draft : Nat) (a_t_firstImage : Nat) (a_t_secondImage : Nat) (a_t_news : Nat) (a_t_otherNews : Nat) (a_t_readings : Nat) (a_t_chances : Nat) (a_t_turning : Nat) (a_t_text : Nat) (a_t_fraction : Nat) (a_t_now : Nat) (a_t_now_sightings : Nat) (a_t_now_lexicon : Nat) (a_t_now_level : Nat) (a_t_now_loss : Nat) (a_t_now_floor : Nat) (a_t_now_floor_way : Nat) (a_t_now_floor_tell : Nat) (a_t_now_floor_look : Nat) (a_t_now_floor_farSquare : Nat) (a_t_now_floor_place : Nat) (t_now_clearness : Int32) (t_now_isKept : Int32) (t_now_floor_pillars : Int64) (t_now_floor_weavers : Int32) (t_now_floor_place : Nat → Int32) (p1 : Int32) (p2 : Int32) (ures : Int32) (hF : F_S_clear N p1 p2 t_now_floor_pillars t_now_floor_weavers t_now_floor_place = some ures) : m_Met l yX11_clear cX11_clear 3 (some .int) rm_S_clear E (wd_S_clear E a_t a_t_draft a_t_firstImage a_t_secondImage a_t_news a_t_otherNews a_t_readings a_t_chances a_t_turning a_t_text a_t_fraction a_t_now a_t_now_sightings a_t_now_lexicon a_t_now_level a_t_now_loss a_t_now_floor a_t_now_floor_way a_t_now_floor_tell a_t_now_floor_look a_t_now_floor_farSquare a_t_now_floor_place t_now_clearness t_now_isKept t_now_floor_pillars t_now_floor_weavers t_now_floor_place) (wd_S_clear E a_t a_t_draft a_t_firstImage a_t_secondImage a_t_news a_t_otherNews a_t_readings a_t_chances a_t_turning a_t_text a_t_fraction a_t_now a_t_now_sightings a_t_now_lexicon a_t_now_level a_t_now_loss a_t_now_floor a_t_now_floor_way a_t_now_floor_tell a_t_now_floor_look a_t_now_floor_farSquare a_t_now_floor_place t_now_clearness t_now_isKept t_now_floor_pillars t_now_floor_weavers t_now_floor_place) sz [.ref a_t, .int p1, .int p2] (some (.int ures)) := by
  refine m_ofI (by decide) (Nat.le_of_ble_eq_true rfl) ?_
  intro p e s m args below meth c A Q ls X hW hA hl hret
  obtain ⟨hx, hb, -, hown, hts, hK, -, hG⟩ := id X
  have hl : lv_has ls 3 [(0, .ref a_t), (1, .int p1), (2, .int p2)] := hl
  unfold F_S_clear at hF
  refine lv_aload_n hx hb dX11_clear_0 rfl (lv_at hl 0 rfl) ?_
  refine m_get X hW fdX11_10 0 rfl rfl dX11_clear_1 ?_
  refine m_get X hW fdX11_70 1 rfl rfl dX11_clear_4 ?_
  refine lv_iload_n hx hb dX11_clear_7 rfl (lv_at hl 1 rfl) ?_
  refine lv_iload_n hx hb dX11_clear_8 rfl (lv_at hl 2 rfl) ?_
  refine m_callV X hW hA hl.1 lkX11_94 (c_Floor_areTwo l E _ N a_t_now_floor a_t_now_floor_place a_t_now_floor_way a_t_now_floor_tell a_t_now_floor_look a_t_now_floor_farSquare t_now_floor_pillars t_now_floor_weavers p1 p2 (F_Floor_areTwo p1 p2 t_now_floor_weavers) rfl) ([2]) (by decide) rfl rfl (ws' := (wd_S_clear E a_t a_t_draft a_t_firstImage a_t_secondImage a_t_news a_t_otherNews a_t_readings a_t_chances a_t_turning a_t_text a_t_fraction a_t_now a_t_now_sightings a_t_now_lexicon a_t_now_level a_t_now_loss a_t_now_floor a_t_now_floor_way a_t_now_floor_tell a_t_now_floor_look a_t_now_floor_farSquare a_t_now_floor_place t_now_clearness t_now_isKept t_now_floor_pillars t_now_floor_weavers t_now_floor_place)) rfl 2 rfl rfl rfl (As := [.int p1, .int p2]) (rest := []) rfl rfl ⟨rfl, rfl, Nat.le_of_ble_eq_true rfl, Nat.le_of_ble_eq_true rfl⟩ (Nat.le_of_ble_eq_true rfl) (Nat.zero_le _) (Nat.zero_le _) dX11_clear_9 (fun H locs hW => ?_)
  refine lv_if_ne (tgt := 18) hx hb dX11_clear_12 (by decide) (fun c1 => ?_) (fun c1 => ?_)
  · have hF := if_n c1 hF
    refine lv_aload_n hx hb dX11_clear_18 rfl (lv_at hl 0 rfl) ?_
    refine m_get X hW fdX11_10 0 rfl rfl dX11_clear_19 ?_
    refine m_get X hW fdX11_70 1 rfl rfl dX11_clear_22 ?_
    refine lv_iload_n hx hb dX11_clear_25 rfl (lv_at hl 1 rfl) ?_
    refine lv_iload_n hx hb dX11_clear_26 rfl (lv_at hl 2 rfl) ?_
    obtain ⟨r27, hC2, hF⟩ := bO_s1 hF
    refine m_callV X hW hA hl.1 lkX11_109 (c_Floor_isClear l E _ N a_t_now_floor a_t_now_floor_way a_t_now_floor_tell a_t_now_floor_look a_t_now_floor_farSquare a_t_now_floor_place t_now_floor_pillars t_now_floor_weavers t_now_floor_place p1 p2 r27 hC2) ([2, 3]) (by decide) rfl rfl (ws' := (wd_S_clear E a_t a_t_draft a_t_firstImage a_t_secondImage a_t_news a_t_otherNews a_t_readings a_t_chances a_t_turning a_t_text a_t_fraction a_t_now a_t_now_sightings a_t_now_lexicon a_t_now_level a_t_now_loss a_t_now_floor a_t_now_floor_way a_t_now_floor_tell a_t_now_floor_look a_t_now_floor_farSquare a_t_now_floor_place t_now_clearness t_now_isKept t_now_floor_pillars t_now_floor_weavers t_now_floor_place)) rfl 2 rfl rfl rfl (As := [.int p1, .int p2]) (rest := []) rfl rfl ⟨rfl, rfl, Nat.le_of_ble_eq_true rfl, Nat.le_of_ble_eq_true rfl⟩ (Nat.le_of_ble_eq_true rfl) (Nat.zero_le _) (Nat.zero_le _) dX11_clear_27 (fun H locs hW => ?_)
    clear hC2
    refine m_callS X hW hA hl.1 lkX11_105 (c_S_oneIf l E _ N   r27 (F_S_oneIf r27) rfl) ([]) (by decide) rfl rfl (ws' := (wd_S_clear E a_t a_t_draft a_t_firstImage a_t_secondImage a_t_news a_t_otherNews a_t_readings a_t_chances a_t_turning a_t_text a_t_fraction a_t_now a_t_now_sightings a_t_now_lexicon a_t_now_level a_t_now_loss a_t_now_floor a_t_now_floor_way a_t_now_floor_tell a_t_now_floor_look a_t_now_floor_farSquare a_t_now_floor_place t_now_clearness t_now_isKept t_now_floor_pillars t_now_floor_weavers t_now_floor_place)) rfl (As := [.int r27]) (rest := []) rfl rfl ⟨rfl, rfl, Nat.le_of_ble_eq_true rfl, Nat.le_of_ble_eq_true rfl⟩ (Nat.le_of_ble_eq_true rfl) (Nat.zero_le _) (Nat.zero_le _) dX11_clear_30 (fun H locs hW => ?_)
    have hq := Option.some.inj hF
    subst hq
    exact hret _ _ _ _ hW dX11_clear_33
  · have hF := if_y c1 hF
    refine lv_bipush (v := (-2 : Int32)) hx hb dX11_clear_15 (by decide) ?_
    have hq := Option.some.inj hF
    subst hq
    exact hret _ _ _ _ hW dX11_clear_17
abbrev wd_S_canAskNews (E : m_E) (a_t : Nat) (a_t_draft : Nat) (a_t_firstImage : Nat) (a_t_secondImage : Nat) (a_t_news : Nat) (a_t_otherNews : Nat) (a_t_readings : Nat) (a_t_chances : Nat) (a_t_turning : Nat) (a_t_text : Nat) (a_t_fraction : Nat) (a_t_now : Nat) (a_t_now_sightings : Nat) (a_t_now_lexicon : Nat) (a_t_now_level : Nat) (a_t_now_loss : Nat) (a_t_now_floor : Nat) (a_t_now_floor_place : Nat) (a_t_now_floor_way : Nat) (a_t_now_floor_tell : Nat) (a_t_now_floor_look : Nat) (a_t_now_floor_farSquare : Nat) (t_now_clearness : Int32) (t_now_isKept : Int32) (t_now_floor_pillars : Int64) (t_now_floor_weavers : Int32) : va_W := [(a_t, .inr (11, [.ref a_t_now, .ref a_t_draft, .ref a_t_firstImage, .ref a_t_secondImage, .ref a_t_news, .ref a_t_otherNews, .ref a_t_readings, .ref a_t_chances, .ref a_t_turning, .ref a_t_text, .ref a_t_fraction])), (a_t_now, .inr (7, [.ref a_t_now_floor, .ref a_t_now_sightings, .ref a_t_now_lexicon, .ref a_t_now_level, .ref a_t_now_loss, .int t_now_clearness, .int t_now_isKept])), (a_t_now_floor, .inr (1, [.long t_now_floor_pillars, .int t_now_floor_weavers, .ref a_t_now_floor_place, .ref a_t_now_floor_way, .ref a_t_now_floor_tell, .ref a_t_now_floor_look, .ref a_t_now_floor_farSquare]))]
def rm_S_canAskNews : Room := { frames := 2, cells := 0, slots := 0, locals := 43 }
set_option maxHeartbeats 4000000 in
set_option maxRecDepth 100000 in
theorem c_S_canAskNews (l : Launch) (E : m_E) (sz N : Nat) (a_t : Nat) (a_t_draft : Nat) (a_t_firstImage : Nat) (a_t_secondImage : Nat) (a_t_news : Nat) (a_t_otherNews : Nat) (a_t_readings : Nat) (a_t_chances : Nat) (a_t_turning : Nat) (a_t_text : Nat) (a_t_fraction : Nat) (a_t_now : Nat) (a_t_now_sightings : Nat) (a_t_now_lexicon : Nat) (a_t_now_level : Nat) (a_t_now_loss : Nat) (a_t_now_floor : Nat) (a_t_now_floor_place : Nat) (a_t_now_floor_way : Nat) (a_t_now_floor_tell : Nat) (a_t_now_floor_look : Nat) (a_t_now_floor_farSquare : Nat) (t_now_clearness : Int32) (t_now_isKept : Int32) (t_now_floor_pillars : Int64) (t_now_floor_weavers : Int32) (p1 : Int32) (p2 : Int32) (p3 : Int32) (p4 : Int32) (ures : Int32) (hF : F_S_canAskNews p1 p2 p3 p4 t_now_floor_weavers = ures) : m_Met l yX11_canAskNews cX11_canAskNews 6 (some .boolean) rm_S_canAskNews E (wd_S_canAskNews E a_t a_t_draft a_t_firstImage a_t_secondImage a_t_news a_t_otherNews a_t_readings a_t_chances a_t_turning a_t_text a_t_fraction a_t_now a_t_now_sightings a_t_now_lexicon a_t_now_level a_t_now_loss a_t_now_floor a_t_now_floor_place a_t_now_floor_way a_t_now_floor_tell a_t_now_floor_look a_t_now_floor_farSquare t_now_clearness t_now_isKept t_now_floor_pillars t_now_floor_weavers) (wd_S_canAskNews E a_t a_t_draft a_t_firstImage a_t_secondImage a_t_news a_t_otherNews a_t_readings a_t_chances a_t_turning a_t_text a_t_fraction a_t_now a_t_now_sightings a_t_now_lexicon a_t_now_level a_t_now_loss a_t_now_floor a_t_now_floor_place a_t_now_floor_way a_t_now_floor_tell a_t_now_floor_look a_t_now_floor_farSquare t_now_clearness t_now_isKept t_now_floor_pillars t_now_floor_weavers) sz [.ref a_t, .int p1, .int p2, .int p3, .int p4] (some (.int ures)) := by
  refine m_ofZ (by decide) (Nat.le_of_ble_eq_true rfl) ?_
  intro p e s m args below meth c A Q ls X hW hA hl hret
  obtain ⟨hx, hb, -, hown, hts, hK, -, hG⟩ := id X
  have hl : lv_has ls 6 [(0, .ref a_t), (1, .int p1), (2, .int p2), (3, .int p3), (4, .int p4)] := hl
  unfold F_S_canAskNews at hF
  refine lv_aload_n hx hb dX11_canAskNews_0 rfl (lv_at hl 0 rfl) ?_
  refine m_get X hW fdX11_10 0 rfl rfl dX11_canAskNews_1 ?_
  refine m_get X hW fdX11_70 1 rfl rfl dX11_canAskNews_4 ?_
  refine lv_astore (lv' := [(5, .ref a_t_now_floor), (0, .ref a_t), (1, .int p1), (2, .int p2), (3, .int p3), (4, .int p4)]) hx hb dX11_canAskNews_7 hl (by decide) rfl (fun ls hl => ?_)
  refine lv_aload hx hb dX11_canAskNews_9 (lv_at hl 0 rfl) ?_
  refine lv_iload_n hx hb dX11_canAskNews_11 rfl (lv_at hl 2 rfl) ?_
  refine m_callV X hW hA hl.1 lkX11_127 (c_Floor_isWeaver l E _ N a_t_now_floor a_t_now_floor_place a_t_now_floor_way a_t_now_floor_tell a_t_now_floor_look a_t_now_floor_farSquare t_now_floor_pillars t_now_floor_weavers p1 (F_Floor_isWeaver p1 t_now_floor_weavers) rfl) ([2]) (by decide) rfl rfl (ws' := (wd_S_canAskNews E a_t a_t_draft a_t_firstImage a_t_secondImage a_t_news a_t_otherNews a_t_readings a_t_chances a_t_turning a_t_text a_t_fraction a_t_now a_t_now_sightings a_t_now_lexicon a_t_now_level a_t_now_loss a_t_now_floor a_t_now_floor_place a_t_now_floor_way a_t_now_floor_tell a_t_now_floor_look a_t_now_floor_farSquare t_now_clearness t_now_isKept t_now_floor_pillars t_now_floor_weavers)) rfl 2 rfl rfl rfl (As := [.int p1]) (rest := []) rfl rfl ⟨rfl, rfl, Nat.le_of_ble_eq_true rfl, Nat.le_of_ble_eq_true rfl⟩ (Nat.le_of_ble_eq_true rfl) (Nat.zero_le _) (Nat.zero_le _) dX11_canAskNews_12 (fun H locs hW => ?_)
  refine lv_if_eq (tgt := 36) hx hb dX11_canAskNews_15 (by decide) (fun c1 => ?_) (fun c1 => ?_)
  · have hF := if_y c1 hF
    refine lv_iconst (v := (0 : Int32)) hx hb dX11_canAskNews_36 (by decide) ?_
    have hq := hF
    subst hq
    exact hret _ _ _ _ _ rfl hW dX11_canAskNews_37
  · have hF := if_n c1 hF
    refine lv_aload hx hb dX11_canAskNews_18 (lv_at hl 0 rfl) ?_
    refine lv_iload_n hx hb dX11_canAskNews_20 rfl (lv_at hl 3 rfl) ?_
    refine m_callV X hW hA hl.1 lkX11_127 (c_Floor_isWeaver l E _ N a_t_now_floor a_t_now_floor_place a_t_now_floor_way a_t_now_floor_tell a_t_now_floor_look a_t_now_floor_farSquare t_now_floor_pillars t_now_floor_weavers p2 (F_Floor_isWeaver p2 t_now_floor_weavers) rfl) ([2]) (by decide) rfl rfl (ws' := (wd_S_canAskNews E a_t a_t_draft a_t_firstImage a_t_secondImage a_t_news a_t_otherNews a_t_readings a_t_chances a_t_turning a_t_text a_t_fraction a_t_now a_t_now_sightings a_t_now_lexicon a_t_now_level a_t_now_loss a_t_now_floor a_t_now_floor_place a_t_now_floor_way a_t_now_floor_tell a_t_now_floor_look a_t_now_floor_farSquare t_now_clearness t_now_isKept t_now_floor_pillars t_now_floor_weavers)) rfl 2 rfl rfl rfl (As := [.int p2]) (rest := []) rfl rfl ⟨rfl, rfl, Nat.le_of_ble_eq_true rfl, Nat.le_of_ble_eq_true rfl⟩ (Nat.le_of_ble_eq_true rfl) (Nat.zero_le _) (Nat.zero_le _) dX11_canAskNews_21 (fun H locs hW => ?_)
    refine lv_if_eq (tgt := 36) hx hb dX11_canAskNews_24 (by decide) (fun c2 => ?_) (fun c2 => ?_)
    · have hF := if_y c2 hF
      refine lv_iconst (v := (0 : Int32)) hx hb dX11_canAskNews_36 (by decide) ?_
      have hq := hF
      subst hq
      exact hret _ _ _ _ _ rfl hW dX11_canAskNews_37
    · have hF := if_n c2 hF
      refine lv_iload_n hx hb dX11_canAskNews_27 rfl (lv_at hl 4 rfl) ?_
      refine lv_iconst (v := (0 : Int32)) hx hb dX11_canAskNews_28 (by decide) ?_
      refine lv_iconst (v := (1 : Int32)) hx hb dX11_canAskNews_29 (by decide) ?_
      refine m_callS X hW hA hl.1 lkX11_98 (c_S_within l E _ N   p3 (0 : Int32) (1 : Int32) (F_S_within p3 (0 : Int32) (1 : Int32)) rfl) ([]) (by decide) rfl rfl (ws' := (wd_S_canAskNews E a_t a_t_draft a_t_firstImage a_t_secondImage a_t_news a_t_otherNews a_t_readings a_t_chances a_t_turning a_t_text a_t_fraction a_t_now a_t_now_sightings a_t_now_lexicon a_t_now_level a_t_now_loss a_t_now_floor a_t_now_floor_place a_t_now_floor_way a_t_now_floor_tell a_t_now_floor_look a_t_now_floor_farSquare t_now_clearness t_now_isKept t_now_floor_pillars t_now_floor_weavers)) rfl (As := [.int p3, .int (0 : Int32), .int (1 : Int32)]) (rest := []) rfl rfl ⟨rfl, rfl, Nat.le_of_ble_eq_true rfl, Nat.le_of_ble_eq_true rfl⟩ (Nat.le_of_ble_eq_true rfl) (Nat.zero_le _) (Nat.zero_le _) dX11_canAskNews_30 (fun H locs hW => ?_)
      refine lv_if_ne (tgt := 38) hx hb dX11_canAskNews_33 (by decide) (fun c3 => ?_) (fun c3 => ?_)
      · have hF := if_n c3 hF
        refine lv_iload hx hb dX11_canAskNews_38 (lv_at hl 5 rfl) ?_
        refine lv_iconst (v := (-1 : Int32)) hx hb dX11_canAskNews_40 (by decide) ?_
        refine lv_icmp_eq (tgt := 60) hx hb dX11_canAskNews_41 (by decide) (fun c4 => ?_) (fun c4 => ?_)
        · have hF := if_y c4 hF
          refine lv_iconst (v := (1 : Int32)) hx hb dX11_canAskNews_60 (by decide) ?_
          refine lv_goto (tgt := 65) hx hb dX11_canAskNews_61 (by decide) ?_
          have hq := hF
          subst hq
          exact hret _ _ _ _ _ rfl hW dX11_canAskNews_65
        · have hF := if_n c4 hF
          refine lv_aload hx hb dX11_canAskNews_44 (lv_at hl 0 rfl) ?_
          refine lv_iload hx hb dX11_canAskNews_46 (lv_at hl 5 rfl) ?_
          refine m_callV X hW hA hl.1 lkX11_127 (c_Floor_isWeaver l E _ N a_t_now_floor a_t_now_floor_place a_t_now_floor_way a_t_now_floor_tell a_t_now_floor_look a_t_now_floor_farSquare t_now_floor_pillars t_now_floor_weavers p4 (F_Floor_isWeaver p4 t_now_floor_weavers) rfl) ([2]) (by decide) rfl rfl (ws' := (wd_S_canAskNews E a_t a_t_draft a_t_firstImage a_t_secondImage a_t_news a_t_otherNews a_t_readings a_t_chances a_t_turning a_t_text a_t_fraction a_t_now a_t_now_sightings a_t_now_lexicon a_t_now_level a_t_now_loss a_t_now_floor a_t_now_floor_place a_t_now_floor_way a_t_now_floor_tell a_t_now_floor_look a_t_now_floor_farSquare t_now_clearness t_now_isKept t_now_floor_pillars t_now_floor_weavers)) rfl 2 rfl rfl rfl (As := [.int p4]) (rest := []) rfl rfl ⟨rfl, rfl, Nat.le_of_ble_eq_true rfl, Nat.le_of_ble_eq_true rfl⟩ (Nat.le_of_ble_eq_true rfl) (Nat.zero_le _) (Nat.zero_le _) dX11_canAskNews_48 (fun H locs hW => ?_)
          refine lv_if_eq (tgt := 64) hx hb dX11_canAskNews_51 (by decide) (fun c5 => ?_) (fun c5 => ?_)
          · have hF := if_y c5 hF
            refine lv_iconst (v := (0 : Int32)) hx hb dX11_canAskNews_64 (by decide) ?_
            have hq := hF
            subst hq
            exact hret _ _ _ _ _ rfl hW dX11_canAskNews_65
          · have hF := if_n c5 hF
            refine lv_iload hx hb dX11_canAskNews_54 (lv_at hl 5 rfl) ?_
            refine lv_iload_n hx hb dX11_canAskNews_56 rfl (lv_at hl 2 rfl) ?_
            refine lv_icmp_eq (tgt := 64) hx hb dX11_canAskNews_57 (by decide) (fun c6 => ?_) (fun c6 => ?_)
            · have hF := if_y c6 hF
              refine lv_iconst (v := (0 : Int32)) hx hb dX11_canAskNews_64 (by decide) ?_
              have hq := hF
              subst hq
              exact hret _ _ _ _ _ rfl hW dX11_canAskNews_65
            · have hF := if_n c6 hF
              refine lv_iconst (v := (1 : Int32)) hx hb dX11_canAskNews_60 (by decide) ?_
              refine lv_goto (tgt := 65) hx hb dX11_canAskNews_61 (by decide) ?_
              have hq := hF
              subst hq
              exact hret _ _ _ _ _ rfl hW dX11_canAskNews_65
      · have hF := if_y c3 hF
        refine lv_iconst (v := (0 : Int32)) hx hb dX11_canAskNews_36 (by decide) ?_
        have hq := hF
        subst hq
        exact hret _ _ _ _ _ rfl hW dX11_canAskNews_37
abbrev wd_Floor_perceiversOf (E : m_E) (a_t : Nat) (a_t_tell : Nat) (a_t_look : Nat) (a_t_place : Nat) (a_t_way : Nat) (a_t_farSquare : Nat) (t_pillars : Int64) (t_weavers : Int32) (t_place : Nat → Int32) (t_way : Nat → Int32) (t_farSquare : Nat → Int32) : va_W := [(a_t, .inr (1, [.long t_pillars, .int t_weavers, .ref a_t_place, .ref a_t_way, .ref a_t_tell, .ref a_t_look, .ref a_t_farSquare])), (a_t_place, .inl (E.2.1 0, 8, .inl t_place)), (a_t_way, .inl (E.2.1 0, 8, .inl t_way)), (a_t_farSquare, .inl (E.2.1 0, 2, .inl t_farSquare))]
def rm_Floor_perceiversOf : Room := { frames := 4, cells := 0, slots := 0, locals := 97 }
set_option maxHeartbeats 4000000 in
set_option maxRecDepth 100000 in
theorem c_Floor_perceiversOf (l : Launch) (E : m_E) (sz N : Nat) (a_t : Nat) (a_t_tell : Nat) (a_t_look : Nat) (a_t_place : Nat) (a_t_way : Nat) (a_t_farSquare : Nat) (t_pillars : Int64) (t_weavers : Int32) (t_place : Nat → Int32) (t_way : Nat → Int32) (t_farSquare : Nat → Int32) (p1 : Int32) (p2 : Int32) (ures : Int32) (hF : F_Floor_perceiversOf N p1 p2 t_pillars t_weavers t_place t_way t_farSquare = some ures) : m_Met l yX1_perceiversOf cX1_perceiversOf 5 (some .int) rm_Floor_perceiversOf E (wd_Floor_perceiversOf E a_t a_t_tell a_t_look a_t_place a_t_way a_t_farSquare t_pillars t_weavers t_place t_way t_farSquare) (wd_Floor_perceiversOf E a_t a_t_tell a_t_look a_t_place a_t_way a_t_farSquare t_pillars t_weavers t_place t_way t_farSquare) sz [.ref a_t, .int p1, .int p2] (some (.int ures)) := by
  refine m_ofI (by decide) (Nat.le_of_ble_eq_true rfl) ?_
  intro p e s m args below meth c A Q ls X hW hA hl hret
  obtain ⟨hx, hb, -, hown, hts, hK, -, hG⟩ := id X
  have hl : lv_has ls 5 [(0, .ref a_t), (1, .int p1), (2, .int p2)] := hl
  unfold F_Floor_perceiversOf at hF
  refine lv_aload_n hx hb dX1_perceiversOf_0 rfl (lv_at hl 0 rfl) ?_
  refine lv_iload_n hx hb dX1_perceiversOf_1 rfl (lv_at hl 1 rfl) ?_
  refine m_callV X hW hA hl.1 lkX1_48 (c_Floor_isWeaver l E _ N a_t a_t_place a_t_way a_t_tell a_t_look a_t_farSquare t_pillars t_weavers p1 (F_Floor_isWeaver p1 t_weavers) rfl) ([0]) (by decide) rfl rfl (ws' := (wd_Floor_perceiversOf E a_t a_t_tell a_t_look a_t_place a_t_way a_t_farSquare t_pillars t_weavers t_place t_way t_farSquare)) rfl 0 rfl rfl rfl (As := [.int p1]) (rest := []) rfl rfl ⟨rfl, rfl, Nat.le_of_ble_eq_true rfl, Nat.le_of_ble_eq_true rfl⟩ (Nat.le_of_ble_eq_true rfl) (Nat.zero_le _) (Nat.zero_le _) dX1_perceiversOf_2 (fun H locs hW => ?_)
  refine lv_if_ne (tgt := 10) hx hb dX1_perceiversOf_5 (by decide) (fun c1 => ?_) (fun c1 => ?_)
  · have hF := if_n c1 hF
    refine lv_iconst (v := (0 : Int32)) hx hb dX1_perceiversOf_10 (by decide) ?_
    refine lv_istore_n (lv' := [(3, .int (0 : Int32)), (0, .ref a_t), (1, .int p1), (2, .int p2)]) hx hb dX1_perceiversOf_11 rfl hl (by decide) rfl (fun ls hl => ?_)
    refine lv_iconst (v := (0 : Int32)) hx hb dX1_perceiversOf_12 (by decide) ?_
    refine lv_istore (lv' := [(4, .int (0 : Int32)), (3, .int (0 : Int32)), (0, .ref a_t), (1, .int p1), (2, .int p2)]) hx hb dX1_perceiversOf_13 hl (by decide) rfl (fun ls hl => ?_)
    obtain ⟨x3_2, hX3, hF⟩ := bO_s1 hF
    have L2 : ∀ (k0 : Nat) (x3 : Int32) (x4 : Int32) (x3_2 : Int32) (H : Heap) (locs : List Loc) (ls : Array Slot), Floor_perceiversOf_L15 N t_weavers p1 p2 t_pillars t_place t_way t_farSquare k0 x3 x4 = some x3_2 → m_H E A (wd_Floor_perceiversOf E a_t a_t_tell a_t_look a_t_place a_t_way a_t_farSquare t_pillars t_weavers t_place t_way t_farSquare) s.heap H locs → lv_has ls 5 [(4, .int x4), (3, .int x3), (0, .ref a_t), (1, .int p1), (2, .int p2)] → (∀ (H : Heap) (locs : List Loc) (ls : Array Slot), m_H E A (wd_Floor_perceiversOf E a_t a_t_tell a_t_look a_t_place a_t_way a_t_farSquare t_pillars t_weavers t_place t_way t_farSquare) s.heap H locs → lv_has ls 5 [(3, .int x3_2)] → W p l e rm_Floor_perceiversOf s m args below meth c H locs 0 0 Q (F0 m 54 ls [])) → W p l e rm_Floor_perceiversOf s m args below meth c H locs 0 0 Q (F0 m 15 ls []) := by
      clear hF
      intro k0
      induction k0 with
      | zero =>
        intro x3 x4 x3_2 H locs ls hF
        cases hF
      | succ k0 ih5 =>
        intro x3 x4 x3_2 H locs ls hF hW hl hk4
        rw [Floor_perceiversOf_L15] at hF
        refine lv_iload hx hb dX1_perceiversOf_15 (lv_at hl 0 rfl) ?_
        refine lv_aload_n hx hb dX1_perceiversOf_17 rfl (lv_at hl 2 rfl) ?_
        refine m_get X hW fdX1_34 0 rfl rfl dX1_perceiversOf_18 ?_
        refine lv_icmp_ge (tgt := 54) hx hb dX1_perceiversOf_21 (by decide) (fun c6 => ?_) (fun c6 => ?_)
        · have hF := if_y c6 hF
          cases hF
          exact hk4 _ _ _ hW (lv_sub hl [1] rfl)
        · have hF := if_n c6 hF
          refine lv_iload hx hb dX1_perceiversOf_24 (lv_at hl 0 rfl) ?_
          refine lv_iload_n hx hb dX1_perceiversOf_26 rfl (lv_at hl 3 rfl) ?_
          refine lv_icmp_eq (tgt := 48) hx hb dX1_perceiversOf_27 (by decide) (fun c7 => ?_) (fun c7 => ?_)
          · have hF := if_y c7 hF
            refine lv_iinc (v := (x4 + (1 : Int32))) (lv' := [(4, .int (x4 + (1 : Int32))), (3, .int x3), (0, .ref a_t), (1, .int p1), (2, .int p2)]) hx hb dX1_perceiversOf_48 hl (k := 0) rfl rfl (by decide) rfl (fun ls hl => ?_)
            refine lv_goto (tgt := 15) hx hb dX1_perceiversOf_51 (by decide) ?_
            exact ih5 x3 (x4 + (1 : Int32)) x3_2 _ _ _ hF hW (lv_sub hl [0, 1, 2, 3, 4] rfl) hk4
          · have hF := if_n c7 hF
            refine lv_aload_n hx hb dX1_perceiversOf_30 rfl (lv_at hl 2 rfl) ?_
            refine lv_iload hx hb dX1_perceiversOf_31 (lv_at hl 0 rfl) ?_
            refine lv_iload_n hx hb dX1_perceiversOf_33 rfl (lv_at hl 3 rfl) ?_
            refine lv_iload_n hx hb dX1_perceiversOf_34 rfl (lv_at hl 4 rfl) ?_
            obtain ⟨r35, hC8, hF⟩ := bO_s1 hF
            refine m_callV X hW hA hl.1 lkX1_83 (c_Floor_perceives l E _ N a_t a_t_tell a_t_look a_t_place a_t_way a_t_farSquare t_pillars t_weavers t_place t_way t_farSquare x4 p1 p2 r35 hC8) ([0, 1, 2, 3]) (by decide) rfl rfl (ws' := (wd_Floor_perceiversOf E a_t a_t_tell a_t_look a_t_place a_t_way a_t_farSquare t_pillars t_weavers t_place t_way t_farSquare)) rfl 0 rfl rfl rfl (As := [.int x4, .int p1, .int p2]) (rest := []) rfl rfl ⟨rfl, rfl, Nat.le_of_ble_eq_true rfl, Nat.le_of_ble_eq_true rfl⟩ (Nat.le_of_ble_eq_true rfl) (Nat.zero_le _) (Nat.zero_le _) dX1_perceiversOf_35 (fun H locs hW => ?_)
            clear hC8
            refine lv_if_eq (tgt := 48) hx hb dX1_perceiversOf_38 (by decide) (fun c9 => ?_) (fun c9 => ?_)
            · have hF := if_y c9 hF
              refine lv_iinc (v := (x4 + (1 : Int32))) (lv' := [(4, .int (x4 + (1 : Int32))), (3, .int x3), (0, .ref a_t), (1, .int p1), (2, .int p2)]) hx hb dX1_perceiversOf_48 hl (k := 0) rfl rfl (by decide) rfl (fun ls hl => ?_)
              refine lv_goto (tgt := 15) hx hb dX1_perceiversOf_51 (by decide) ?_
              exact ih5 x3 (x4 + (1 : Int32)) x3_2 _ _ _ hF hW (lv_sub hl [0, 1, 2, 3, 4] rfl) hk4
            · have hF := if_n c9 hF
              refine lv_iload_n hx hb dX1_perceiversOf_41 rfl (lv_at hl 1 rfl) ?_
              refine lv_iconst (v := (1 : Int32)) hx hb dX1_perceiversOf_42 (by decide) ?_
              refine lv_iload hx hb dX1_perceiversOf_43 (lv_at hl 0 rfl) ?_
              refine m_ishl hx hb dX1_perceiversOf_45 ?_
              refine lv_ior hx hb dX1_perceiversOf_46 ?_
              refine lv_istore_n (lv' := [(3, .int (x3 ||| (jshl (1 : Int32) x4))), (4, .int x4), (0, .ref a_t), (1, .int p1), (2, .int p2)]) hx hb dX1_perceiversOf_47 rfl hl (by decide) rfl (fun ls hl => ?_)
              refine lv_iinc (v := (x4 + (1 : Int32))) (lv' := [(4, .int (x4 + (1 : Int32))), (3, .int (x3 ||| (jshl (1 : Int32) x4))), (0, .ref a_t), (1, .int p1), (2, .int p2)]) hx hb dX1_perceiversOf_48 hl (k := 1) rfl rfl (by decide) rfl (fun ls hl => ?_)
              refine lv_goto (tgt := 15) hx hb dX1_perceiversOf_51 (by decide) ?_
              exact ih5 (x3 ||| (jshl (1 : Int32) x4)) (x4 + (1 : Int32)) x3_2 _ _ _ hF hW (lv_sub hl [0, 1, 2, 3, 4] rfl) hk4
    refine L2 N (0 : Int32) (0 : Int32) x3_2 _ _ _ hX3 hW (lv_sub hl [0, 1, 2, 3, 4] rfl) ?_
    intro H locs ls hW hl
    clear L2
    refine lv_iload_n hx hb dX1_perceiversOf_54 rfl (lv_at hl 0 rfl) ?_
    have hq := Option.some.inj hF
    subst hq
    exact hret _ _ _ _ hW dX1_perceiversOf_55
  · have hF := if_y c1 hF
    refine lv_iconst (v := (0 : Int32)) hx hb dX1_perceiversOf_8 (by decide) ?_
    have hq := Option.some.inj hF
    subst hq
    exact hret _ _ _ _ hW dX1_perceiversOf_9
