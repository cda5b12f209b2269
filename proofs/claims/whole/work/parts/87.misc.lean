-- TEXT'S BYTES, THE FRACTION'S LIMBS, IMAGES
theorem byte_eq (p : Int64) {k : Nat} (hk : k < 57) : (jshrL p (nI k)) &&& 255 = (jushrL p (nI k)) &&& 255 ∧ ∃ z, z < 256 ∧ ((jushrL p (nI k)) &&& 255).toInt32 = nI z := by
  have e1 : jushrL p (nI k) &&& 255 = lN (p.toBitVec.toNat / 2 ^ k % 256) := by
    have hp : p = lN p.toBitVec.toNat := wb_inj (by rw [wb_tb]; simp)
    have hn := p.toBitVec.isLt
    generalize p.toBitVec.toNat = n at hp hn
    subst hp
    unfold jushrL
    rw [wb_shr hn (by omega)]
    have : n / 2 ^ k ≤ n := Nat.div_le_self _ _
    exact wb_mask (n := n / 2 ^ k) (k := 8) (by omega) (by omega)
  refine ⟨?_, p.toBitVec.toNat / 2 ^ k % 256, Nat.mod_lt _ (by decide), by rw [e1, lN_i]⟩
  apply wb_inj
  rw [Int64.toBitVec_and, Int64.toBitVec_and]
  apply BitVec.eq_of_getLsbD_eq
  intro i hi
  rw [BitVec.getLsbD_and, BitVec.getLsbD_and]
  by_cases h8 : i < 8
  · congr 1
    unfold jshrL jushrL
    rw [wb_c k (by omega), wb_cu k (by omega), Int64.toBitVec_shiftRight, wb_tb]
    show (p.toBitVec.sshiftRight ((BitVec.ofNat 64 k).smod 64).toNat).getLsbD i = (p.toUInt64 >>> UInt64.ofNat k).toBitVec.getLsbD i
    have hk2 : (BitVec.ofNat 64 k).toNat = k := by rw [BitVec.toNat_ofNat, Nat.mod_eq_of_lt (by omega)]
    rw [wb_sm k (by omega), hk2, BitVec.getLsbD_sshiftRight, UInt64.toBitVec_shiftRight]
    show _ = (p.toBitVec >>> ((BitVec.ofNat 64 k) % 64).toNat).getLsbD i
    have hk3 : ((BitVec.ofNat 64 k) % 64).toNat = k := by
      rw [BitVec.toNat_umod, hk2, show (64 : BitVec 64).toNat = 64 by decide]
      exact Nat.mod_eq_of_lt (by omega)
    rw [hk3, BitVec.getLsbD_ushiftRight]
    simp [show ¬ 64 ≤ i by omega, show k + i < 64 by omega]
  · have : ∀ j : Fin 64, 8 ≤ j.val → (255 : Int64).toBitVec.getLsbD j.val = false := by decide +kernel
    rw [this ⟨i, hi⟩ (show 8 ≤ i by omega), Bool.and_false, Bool.and_false]
theorem P_type_ok {N : Nat} (hN : 100 ≤ N) : P_type N Rel := by
  intro x y p q h
  obtain ⟨n, tx, hn, h1, h2, h3⟩ := h.2.2.2.1
  unfold F_S_type F_Text_add F_R_type
  rw [in_lit q (a' := 1) (b' := 8) (by decide) (by decide), h1, h2]
  rcases sw_cases q 1 8 (ia := 1) (ib := 8) rfl rfl (by omega) (by omega) with ⟨hq, _⟩ | ⟨hq, m, hm1, hm, rfl⟩
  · rw [hq, if_pos rfl, if_pos rfl, bO_s]
    exact ⟨_, _, rfl, rfl, rfl, by
      refine ⟨h.1, h.2.1, h.2.2.1, ⟨n, tx, hn, rfl, rfl, h3⟩, h.2.2.2.2⟩⟩
  rw [hq, if_neg n10, if_neg n10, nI_add]
  by_cases hf : n + m ≤ 240
  · have c : nI (n + m) ≤ 240 := nI_le (b := 240) hf (by omega)
    rw [if_pos c, if_pos c]
    have key : ∀ (d f g n : Nat) (tx : Nat → Nat) (row text : Nat → Int32), n + d ≤ 240 → d ≤ 8 → d < f → d < g → (∀ i, i < n → tx i < 256 ∧ row i = nI (tx i) ∧ text i = nI (tx i)) →
        ∃ (row' text' : Nat → Int32) (tx' : Nat → Nat), Text_add_L33 p f (nI d - 1) row (nI n) = some (row', nI (n + d)) ∧ R_type_L35 p g (nI d - 1) text (nI n) = some (text', nI (n + d)) ∧ (∀ i, i < n + d → tx' i < 256 ∧ row' i = nI (tx' i) ∧ text' i = nI (tx' i)) := by
      intro d
      induction d with
      | zero =>
        intro f g n tx row text h1 h2 hf hg h3
        obtain ⟨f, rfl⟩ : ∃ z, f = z + 1 := ⟨f - 1, by omega⟩
        obtain ⟨g, rfl⟩ : ∃ z, g = z + 1 := ⟨g - 1, by omega⟩
        rw [Text_add_L33, R_type_L35, if_pos m1_lt0, if_pos m1_lt0]
        exact ⟨row, text, tx, rfl, rfl, h3⟩
      | succ d ih =>
        intro f g n tx row text h1 h2 hf hg h3
        obtain ⟨f, rfl⟩ : ∃ z, f = z + 1 := ⟨f - 1, by omega⟩
        obtain ⟨g, rfl⟩ : ∃ z, g = z + 1 := ⟨g - 1, by omega⟩
        have e8 : 8 * nI d = nI (8 * d) := pk_mul 8 d
        obtain ⟨b1, z, b2, b3⟩ := byte_eq p (k := 8 * d) (by omega)
        rw [Text_add_L33, R_type_L35, nI_pred, if_neg (nI_pos (by omega)), if_neg (nI_pos (by omega)), gd_ix (by omega) (by omega), gd_ix (by omega) (by omega), nI_clamp (by omega), e8, b1, b3, nI_1, dec1]
        obtain ⟨row', text', tx', q1, q2, q3⟩ := ih f g (n + 1) (fun i => if i = n then z else tx i) (upd row n (nI z)) (upd text n (nI z)) (by omega) (by omega) (by omega) (by omega) (by
          intro i hi
          by_cases e : i = n
          · subst e; rw [if_pos rfl, pk_us, pk_us]; exact ⟨b2, rfl, rfl⟩
          · rw [if_neg e, pk_un e, pk_un e]; exact h3 i (by omega))
        rw [show n + (d + 1) = n + 1 + d by omega]
        exact ⟨row', text', tx', q1, q2, q3⟩
    obtain ⟨row', text', tx', q1, q2, q3⟩ := key m N N n tx (Text_row (S_text x)) (R_text y) hf hm (by omega) (by omega) h3
    have q1' : Text_add_L33 p N (nI m - 1) _ (nI n) = _ := q1
    have q2' : R_type_L35 p N (nI m - 1) _ (nI n) = _ := q2
    rw [q1', bO_s, q2', bO_s]
    exact ⟨_, _, rfl, rfl, rfl, h.1, h.2.1, h.2.2.1, ⟨n + m, tx', hf, rfl, rfl, q3⟩, h.2.2.2.2⟩
  · have c : ¬ nI (n + m) ≤ 240 := nI_ge (b := n + m) (a := 240) (by omega) (by omega)
    rw [if_neg c, if_neg c, bO_s]
    exact ⟨_, _, rfl, rfl, rfl, h.1, h.2.1, h.2.2.1, ⟨n, tx, hn, rfl, rfl, h3⟩, h.2.2.2.2⟩
theorem P_erase_ok {N : Nat} : P_erase N Rel := by
  intro x y h
  obtain ⟨n, tx, hn, h1, h2, h3⟩ := h.2.2.2.1
  exact ⟨_, _, rfl, rfl, h1.trans h2.symm, h.1, h.2.1, h.2.2.1, ⟨0, tx, by omega, rfl, rfl, fun i hi => absurd hi (Nat.not_lt_zero i)⟩, h.2.2.2.2⟩
theorem sign0_eq {k : Nat} (hk : k ≤ 40) : (if nI k = 0 then (0 : Int32) else 1) = (if nI k ≤ 0 then 0 else 1) := by
  by_cases e : k = 0
  · subst e; rfl
  · rw [if_neg (nI_ne0 (by omega) (by omega)), if_neg (nI_nle (by omega) (by omega))]
theorem P_sign_ok {N : Nat} : P_sign N Rel := by
  intro x y p h
  obtain ⟨a, c, ha, hc, h1, h2, h3, h4⟩ := h.2.2.2.2
  refine ⟨_, _, rfl, rfl, ?_, h⟩
  unfold F_S_sign F_R_sign F_Fraction_signNumber
  rw [h1.1, h2.1, h3.1, h4.1, sign0_eq ha]
theorem P_limb_ok {N : Nat} : P_limb N Rel := by
  intro x y p q h
  obtain ⟨a, c, ha, hc, h1, h2, h3, h4⟩ := h.2.2.2.2
  have one : ∀ (limb : Nat → Int32) (limbs : Int32) (r v : Nat), r < 2 → nL v ≤ 40 → CN limb limbs v → RN (R_limbs y) (R_wide y) r v → 0 ≤ q → ∃ u, F_Natural_limbAt q limbs limb = some u ∧ gd (ixb (nI r) 28) (if R_wide y (nI r).toNatClampNeg ≤ q then some (-1) else gd (ixb (60 * nI r + q) 1680) (some (R_limbs y (60 * nI r + q).toNatClampNeg))) = some u := by
    intro limb limbs r v hr hv hC hR hq
    unfold F_Natural_limbAt
    rw [hC.1, gd_ix (by omega) (by omega), nI_clamp (by omega), hR.1]
    have hnq : ¬ q < 0 := by intro z; rw [fa_lt] at z; rw [fa_le] at hq; omega
    obtain ⟨j, hj, rfl⟩ := nI_of hnq
    by_cases e : j < nL v
    · rw [wv_t e (by omega), if_neg n10, if_neg (nI_ge e (by omega)), gd_ix (by omega) (by omega), nI_clamp (by omega)]
      have e6 : 60 * nI r + nI j = nI (60 * r + j) := by
        show nI 60 * nI r + nI j = _
        rw [pk_mul, nI_add]
      rw [e6, gd_ix (by omega) (by omega), nI_clamp (by omega), hC.2 j e, hR.2 j (by omega)]
      exact ⟨_, rfl, rfl⟩
    · have e0 : F_S_within (nI j) 0 (nI (nL v) - 1) = 0 := by
        rcases wv_cases (nI j) (n := nL v) (by omega) with ⟨z, _⟩ | ⟨_, i, hi, z⟩
        · exact z
        · have := (nI_eq (by omega) (by omega)).mp z
          omega
      rw [e0, if_pos rfl, if_pos (nI_le (by omega) (by omega))]
      exact ⟨_, rfl, rfl⟩
  unfold F_S_limb F_R_limb
  rw [in_lit p (a' := 0) (b' := 1) (by decide) (by decide)]
  rcases sw_cases p 0 1 (ia := 0) (ib := 1) rfl rfl (by omega) (by omega) with ⟨hp, _⟩ | ⟨hp, m, _, hm, rfl⟩
  · rw [hp, if_pos rfl, if_pos rfl]; exact ⟨_, _, rfl, rfl, rfl, h⟩
  rw [hp, if_neg n10, if_neg n10]
  by_cases hq : 0 ≤ q
  · rw [if_pos hq, if_pos hq]
    have hm2 : m = 0 ∨ m = 1 := by omega
    rcases hm2 with rfl | rfl
    · obtain ⟨u, e1, e2⟩ := one _ _ 0 a (by omega) ha h1 h3 hq
      rw [if_pos nI_0, e1, bO_s, e2]
      exact ⟨_, _, rfl, rfl, rfl, h⟩
    · obtain ⟨u, e1, e2⟩ := one _ _ 1 c (by omega) hc h2 h4 hq
      rw [if_neg nI1n, e1, bO_s, e2]
      exact ⟨_, _, rfl, rfl, rfl, h⟩
  · rw [if_neg hq, if_neg hq]
    exact ⟨_, _, rfl, rfl, rfl, h⟩
/-- a shed copied -/
def cpSh (d s : T_Shed) : T_Shed :=
  ((Floor_pillars (Shed_floor s), Floor_weavers (Shed_floor s), va_cpy (Floor_place (Shed_floor s)) (Floor_place (Shed_floor d)) 0 0 8, va_cpy (Floor_way (Shed_floor s)) (Floor_way (Shed_floor d)) 0 0 8, va_cpy (Floor_tell (Shed_floor s)) (Floor_tell (Shed_floor d)) 0 0 8, va_cpy (Floor_look (Shed_floor s)) (Floor_look (Shed_floor d)) 0 0 8, va_cpy (Floor_farSquare (Shed_floor s)) (Floor_farSquare (Shed_floor d)) 0 0 2),
   (Sightings_many (Shed_sightings s), va_cpy (Sightings_weaver (Shed_sightings s)) (Sightings_weaver (Shed_sightings d)) 0 0 10, va_cpy (Sightings_second (Shed_sightings s)) (Sightings_second (Shed_sightings d)) 0 0 10, va_cpy (Sightings_knew (Shed_sightings s)) (Sightings_knew (Shed_sightings d)) 0 0 10),
   (Lexicon_words (Shed_lexicon s), va_cpy (Lexicon_length (Shed_lexicon s)) (Lexicon_length (Shed_lexicon d)) 0 0 10, va_cpy (Lexicon_number (Shed_lexicon s)) (Lexicon_number (Shed_lexicon d)) 0 0 10, va_cpy (Lexicon_weight (Shed_lexicon s)) (Lexicon_weight (Shed_lexicon d)) 0 0 10, va_cpy (Lexicon_leastLike (Shed_lexicon s)) (Lexicon_leastLike (Shed_lexicon d)) 0 0 6, va_cpy (Lexicon_row (Shed_lexicon s)) (Lexicon_row (Shed_lexicon d)) 0 0 24, Lexicon_rowLips (Shed_lexicon s), Lexicon_girlKnows (Shed_lexicon s), va_cpy (Lexicon_lipsOf (Shed_lexicon s)) (Lexicon_lipsOf (Shed_lexicon d)) 0 0 60, Lexicon_others (Shed_lexicon d)),
   va_cpy (Shed_level s) (Shed_level d) 0 0 6, va_cpy (Shed_loss s) (Shed_loss d) 0 0 6, Shed_clearness s, Shed_isKept d)
theorem cpSh_R {d s : T_Shed} {b : Nat → Int32} (h : RSh s b) : RSh (cpSh d s) b := by
  obtain ⟨hF, hS, hL, hB⟩ := h
  refine ⟨?_, ?_, ?_, ?_⟩
  · obtain ⟨pil, n, pl, wy, te, lo, fr, hn, h1, h2, h6, h7, h8, h9, h10⟩ := hF
    refine ⟨pil, n, pl, wy, te, lo, fr, hn, h1, h2, ?_, ?_, ?_, ?_, ?_⟩
    · intro w hw; obtain ⟨a, c, e⟩ := h6 w hw; exact ⟨a, (sb_cpy0 (by omega)).trans c, e⟩
    · intro w hw; obtain ⟨a, c, e⟩ := h7 w hw; exact ⟨a, (sb_cpy0 (by omega)).trans c, e⟩
    · intro w hw; obtain ⟨a, c, e⟩ := h8 w hw; exact ⟨a, (sb_cpy0 (by omega)).trans c, e⟩
    · intro w hw; obtain ⟨a, c, e⟩ := h9 w hw; exact ⟨a, (sb_cpy0 (by omega)).trans c, e⟩
    · intro w hw; obtain ⟨a, c, e, e2⟩ := h10 w hw; exact ⟨a, c, (sb_cpy0 (by omega)).trans e, e2⟩
  · obtain ⟨n, sw, ss, sk, hn, h1, h6, h7, h8⟩ := hS
    refine ⟨n, sw, ss, sk, hn, h1, ?_, ?_, ?_⟩
    · intro w hw; obtain ⟨a, c, e⟩ := h6 w hw; exact ⟨a, (sb_cpy0 (by omega)).trans c, e⟩
    · intro w hw; obtain ⟨a, c, e⟩ := h7 w hw; exact ⟨a, (sb_cpy0 (by omega)).trans c, e⟩
    · intro w hw; obtain ⟨c, e⟩ := h8 w hw; exact ⟨(sb_cpy0 (by omega)).trans c, e⟩
  · obtain ⟨n, ln, nu, wt, ll, nr, ro, gi, hn, hnr, hgi, h1, h2, h3, h7, h8, h9, h10, h11, h12⟩ := hL
    refine ⟨n, ln, nu, wt, ll, nr, ro, gi, hn, hnr, hgi, h1, h2, h3, ?_, ?_, ?_, ?_, ?_, ?_⟩
    · intro w hw; obtain ⟨a, a2, c, e⟩ := h7 w hw; exact ⟨a, a2, (sb_cpy0 (by omega)).trans c, e⟩
    · intro w hw; obtain ⟨a, c, e⟩ := h8 w hw; exact ⟨a, (sb_cpy0 (by omega)).trans c, e⟩
    · intro w hw; obtain ⟨a, a2, c, e⟩ := h9 w hw; exact ⟨a, a2, (sb_cpy0 (by omega)).trans c, e⟩
    · intro w i hw hi; have := (h7 w hw).2.1; exact (sb_cpy0 (by omega)).trans (h10 w i hw hi)
    · intro w hw; obtain ⟨a, c, e⟩ := h11 w hw; exact ⟨a, (sb_cpy0 (by omega)).trans c, e⟩
    · intro w hw; obtain ⟨a, c, e⟩ := h12 w hw; exact ⟨a, (sb_cpy0 (by omega)).trans c, e⟩
  · obtain ⟨lv, ls, cl, a1, a2, h1, h6, h7⟩ := hB
    refine ⟨lv, ls, cl, a1, a2, h1, ?_, ?_⟩
    · intro w hw; obtain ⟨a, c, e⟩ := h6 w hw; exact ⟨a, (sb_cpy0 (by omega)).trans c, e⟩
    · intro w hw; obtain ⟨a, c, e⟩ := h7 w hw; exact ⟨a, (sb_cpy0 (by omega)).trans c, e⟩
theorem RSh.kept {s : T_Shed} {b : Nat → Int32} (h : RSh s b) (k : Int32) : RSh (Shed_floor s, Shed_sightings s, Shed_lexicon s, Shed_level s, Shed_loss s, Shed_clearness s, k) b := h
theorem Rimg_ok {N i : Nat} {b im : Nat → Int32} (hN : 300 ≤ N) (hi : i < 2) : R_image_L15 (nI i) b N 0 im = some (fun k => if 240 * i ≤ k ∧ k < 240 * i + 240 then b (k - 240 * i) else im k) := by
  have t := lp0 (L := fun f j => R_image_L15 (nI i) b f (nI j) (fun k => if 240 * i ≤ k ∧ k < 240 * i + j then b (k - 240 * i) else im k)) (n := 240) (N := N) (r := fun k => if 240 * i ≤ k ∧ k < 240 * i + 240 then b (k - 240 * i) else im k) (fun f j hj => by
      have h5 : ¬ (240 : Nat) ≤ j := by omega
      show R_image_L15 (nI i) b (f + 1) (nI j) _ = R_image_L15 (nI i) b f (nI (j + 1)) _
      rw [R_image_L15]
      simp (disch := omega) only [k240, nI_leI, nI_ltI, nI_eq, nI_1, nI_add, pk_mul, nI_clamp, gd_ix, h5, if_false]
      congr 1
      funext k
      by_cases e : k = 240 * i + j
      · subst e; rw [pk_us, if_pos (by omega), show 240 * i + j - 240 * i = j by omega]
      · rw [pk_un e]; simp only [show (240 * i ≤ k ∧ k < 240 * i + (j + 1)) ↔ (240 * i ≤ k ∧ k < 240 * i + j) by omega]) (fun f => by
      show R_image_L15 (nI i) b (f + 1) (nI 240) _ = _
      rw [R_image_L15]; rfl) (by omega)
  have e0 : (fun k => if 240 * i ≤ k ∧ k < 240 * i + 0 then b (k - 240 * i) else im k) = im := funext (fun k => if_neg (by omega))
  have t2 : R_image_L15 (nI i) b N (nI 0) (fun k => if 240 * i ≤ k ∧ k < 240 * i + 0 then b (k - 240 * i) else im k) = _ := t
  rw [e0] at t2
  exact t2
theorem Rfrom_ok {N i : Nat} {b im : Nat → Int32} (hN : 300 ≤ N) (hi : i < 2) : R_from_L27 (nI i) im N 0 b = some (fun k => if k < 240 then im (240 * i + k) else b k) := by
  refine lp0 (L := fun f j => R_from_L27 (nI i) im f (nI j) (fun k => if k < j then im (240 * i + k) else b k)) (n := 240) (fun f j hj => ?_) (fun f => ?_) (by omega)
  · have h5 : ¬ (240 : Nat) ≤ j := by omega
    show R_from_L27 (nI i) im (f + 1) (nI j) _ = R_from_L27 (nI i) im f (nI (j + 1)) _
    rw [R_from_L27]
    simp (disch := omega) only [k240, nI_leI, nI_ltI, nI_eq, nI_1, nI_add, pk_mul, nI_clamp, gd_ix, h5, if_false]
    congr 1
    funext k
    by_cases e : k = j
    · subst e; rw [pk_us, if_pos (by omega)]
    · rw [pk_un e]; simp only [show k < j + 1 ↔ k < j by omega]
  · show R_from_L27 (nI i) im (f + 1) (nI 240) _ = _
    rw [R_from_L27]; rfl
theorem P_image_ok {N : Nat} (hN : 300 ≤ N) : P_image N Rel := by
  intro x y p h
  obtain ⟨h1, h2, h3, h4, h5⟩ := h
  rcases sw_cases p 0 1 (ia := 0) (ib := 1) rfl rfl (by omega) (by omega) with ⟨hp, _⟩ | ⟨hp, m, _, hm, rfl⟩
  · unfold F_S_image F_R_image
    rw [in_lit p (a' := 0) (b' := 1) (by decide) (by decide), hp, if_pos rfl, if_pos rfl]; exact ⟨_, _, rfl, rfl, rfl, h1, h2, h3, h4, h5⟩
  have eR : F_R_image N (nI m) (R_book y) (R_images y) (R_kept y) = some (1, (fun k => if 240 * m ≤ k ∧ k < 240 * m + 240 then R_book y (k - 240 * m) else R_images y k), upd (R_kept y) m 1) := by
    unfold F_R_image
    rw [in_lit (nI m) (a' := 0) (b' := 1) (by decide) (by decide), hp, if_neg n10, Rimg_ok hN (show m < 2 by omega), bO_s, gd_ix (by omega) (by omega), nI_clamp (by omega), nar_1]
  unfold F_S_image F_Shed_copyFrom F_Floor_copyFrom F_Sightings_copyFrom F_Lexicon_copyFrom
  rw [hp, if_neg n10]
  have hm2 : m = 0 ∨ m = 1 := by omega
  rcases hm2 with rfl | rfl
  · rw [if_pos nI_0]
    refine ⟨_, _, rfl, eR, rfl, h1, Or.inr ⟨rfl, rfl, ?_⟩, ?_, h4, h5⟩
    · exact (cpSh_R (d := S_firstImage x) h1).frame (fun k hk => by
        show (if 240 * 0 ≤ k ∧ k < 240 * 0 + 240 then R_book y (k - 240 * 0) else R_images y k) = _
        rw [if_pos (by omega)]; rfl)
    · rcases h3 with ⟨a1, a2⟩ | ⟨a1, a2, a3⟩
      · exact Or.inl ⟨a1, a2⟩
      · refine Or.inr ⟨a1, a2, a3.frame (fun k hk => ?_)⟩
        show (if 240 * 0 ≤ 240 + k ∧ 240 + k < 240 * 0 + 240 then R_book y (240 + k - 240 * 0) else R_images y (240 + k)) = _
        rw [if_neg (by omega)]
  · rw [if_neg nI1n]
    refine ⟨_, _, rfl, eR, rfl, h1, ?_, Or.inr ⟨rfl, rfl, ?_⟩, h4, h5⟩
    · rcases h2 with ⟨a1, a2⟩ | ⟨a1, a2, a3⟩
      · exact Or.inl ⟨a1, a2⟩
      · refine Or.inr ⟨a1, a2, a3.frame (fun k hk => ?_)⟩
        show (if 240 * 1 ≤ k ∧ k < 240 * 1 + 240 then R_book y (k - 240 * 1) else R_images y k) = _
        rw [if_neg (by omega)]
    · exact (cpSh_R (d := S_secondImage x) h1).frame (fun k hk => by
        show (if 240 * 1 ≤ 240 + k ∧ 240 + k < 240 * 1 + 240 then R_book y (240 + k - 240 * 1) else R_images y (240 + k)) = _
        rw [if_pos (by omega), show 240 + k - 240 * 1 = k by omega])
theorem P_from_ok {N : Nat} (hN : 300 ≤ N) : P_from N Rel := by
  intro x y p h
  obtain ⟨h1, h2, h3, h4, h5⟩ := h
  rcases sw_cases p 0 1 (ia := 0) (ib := 1) rfl rfl (by omega) (by omega) with ⟨hp, _⟩ | ⟨hp, m, _, hm, rfl⟩
  · unfold F_S_from F_R_from
    rw [in_lit p (a' := 0) (b' := 1) (by decide) (by decide), hp, if_pos rfl, if_pos rfl]; exact ⟨_, _, rfl, rfl, rfl, h1, h2, h3, h4, h5⟩
  have eR : F_R_from N (nI m) (R_book y) (R_images y) (R_kept y) = if R_kept y m = 0 then some (-3, R_book y) else some (1, (fun k => if k < 240 then R_images y (240 * m + k) else R_book y k)) := by
    unfold F_R_from
    rw [in_lit (nI m) (a' := 0) (b' := 1) (by decide) (by decide), hp, if_neg n10, Rfrom_ok hN (show m < 2 by omega), bO_s, gd_ix (by omega) (by omega), nI_clamp (by omega)]
  rw [eR]
  unfold F_S_from F_Shed_copyFrom F_Floor_copyFrom F_Sightings_copyFrom F_Lexicon_copyFrom
  rw [hp, if_neg n10]
  have hm2 : m = 0 ∨ m = 1 := by omega
  rcases hm2 with rfl | rfl
  · rw [if_pos nI_0]
    rcases h2 with ⟨a1, a2⟩ | ⟨a1, a2, a3⟩
    · rw [a1, a2, if_pos rfl, if_pos rfl]
      exact ⟨_, _, rfl, rfl, rfl, h1, Or.inl ⟨a1, a2⟩, h3, h4, h5⟩
    · rw [a1, a2, if_neg n10, if_neg n10]
      refine ⟨_, _, rfl, rfl, rfl, ?_, Or.inr ⟨a1, a2, a3⟩, h3, h4, h5⟩
      exact (cpSh_R (d := S_now x) a3).frame (fun k hk => by
        show (if k < 240 then R_images y (240 * 0 + k) else R_book y k) = _
        rw [if_pos hk, Nat.mul_zero, Nat.zero_add])
  · rw [if_neg nI1n]
    rcases h3 with ⟨a1, a2⟩ | ⟨a1, a2, a3⟩
    · rw [a1, a2, if_pos rfl, if_pos rfl]
      exact ⟨_, _, rfl, rfl, rfl, h1, h2, Or.inl ⟨a1, a2⟩, h4, h5⟩
    · rw [a1, a2, if_neg n10, if_neg n10]
      refine ⟨_, _, rfl, rfl, rfl, ?_, h2, Or.inr ⟨a1, a2, a3⟩, h4, h5⟩
      exact (cpSh_R (d := S_now x) a3).frame (fun k hk => by
        show (if k < 240 then R_images y (240 * 1 + k) else R_book y k) = _
        rw [if_pos hk])
