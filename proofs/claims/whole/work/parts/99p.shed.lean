-- A SHED TOLD BY A TEXT: both sides
theorem shCopy_ok (d s : T_Shed) : F_Shed_copyFrom (Floor_place (Shed_floor d)) (Floor_way (Shed_floor d)) (Floor_tell (Shed_floor d)) (Floor_look (Shed_floor d)) (Floor_farSquare (Shed_floor d)) (Sightings_weaver (Shed_sightings d)) (Sightings_second (Shed_sightings d)) (Sightings_knew (Shed_sightings d)) (Lexicon_length (Shed_lexicon d)) (Lexicon_number (Shed_lexicon d)) (Lexicon_weight (Shed_lexicon d)) (Lexicon_leastLike (Shed_lexicon d)) (Lexicon_row (Shed_lexicon d)) (Lexicon_lipsOf (Shed_lexicon d)) (Shed_level d) (Shed_loss d) (Shed_clearness s) (Floor_pillars (Shed_floor s)) (Floor_weavers (Shed_floor s)) (Floor_place (Shed_floor s)) (Floor_way (Shed_floor s)) (Floor_tell (Shed_floor s)) (Floor_look (Shed_floor s)) (Floor_farSquare (Shed_floor s)) (Sightings_many (Shed_sightings s)) (Sightings_weaver (Shed_sightings s)) (Sightings_second (Shed_sightings s)) (Sightings_knew (Shed_sightings s)) (Lexicon_words (Shed_lexicon s)) (Lexicon_rowLips (Shed_lexicon s)) (Lexicon_girlKnows (Shed_lexicon s)) (Lexicon_length (Shed_lexicon s)) (Lexicon_number (Shed_lexicon s)) (Lexicon_weight (Shed_lexicon s)) (Lexicon_leastLike (Shed_lexicon s)) (Lexicon_row (Shed_lexicon s)) (Lexicon_lipsOf (Shed_lexicon s)) (Shed_level s) (Shed_loss s) = some (Shed_clearness (cpSh d s), Floor_pillars (Shed_floor (cpSh d s)), Floor_weavers (Shed_floor (cpSh d s)), Floor_place (Shed_floor (cpSh d s)), Floor_way (Shed_floor (cpSh d s)), Floor_tell (Shed_floor (cpSh d s)), Floor_look (Shed_floor (cpSh d s)), Floor_farSquare (Shed_floor (cpSh d s)), Sightings_many (Shed_sightings (cpSh d s)), Sightings_weaver (Shed_sightings (cpSh d s)), Sightings_second (Shed_sightings (cpSh d s)), Sightings_knew (Shed_sightings (cpSh d s)), Lexicon_words (Shed_lexicon (cpSh d s)), Lexicon_rowLips (Shed_lexicon (cpSh d s)), Lexicon_girlKnows (Shed_lexicon (cpSh d s)), Lexicon_length (Shed_lexicon (cpSh d s)), Lexicon_number (Shed_lexicon (cpSh d s)), Lexicon_weight (Shed_lexicon (cpSh d s)), Lexicon_leastLike (Shed_lexicon (cpSh d s)), Lexicon_row (Shed_lexicon (cpSh d s)), Lexicon_lipsOf (Shed_lexicon (cpSh d s)), Shed_level (cpSh d s), Shed_loss (cpSh d s)) := by
  unfold F_Shed_copyFrom F_Floor_copyFrom F_Sightings_copyFrom F_Lexicon_copyFrom
  rfl
theorem lexEmpty {N : Nat} {l : Nat → Int32} (hN : 300 ≤ N) : Lexicon_makeEmpty_L17 N 0 l = some (fun k => if k < 6 then nI k else l k) := by
  refine lp0 (L := fun f j => Lexicon_makeEmpty_L17 f (nI j) (fun k => if k < j then nI k else l k)) (n := 6) (fun f j hj => ?_) (fun f => ?_) (by omega)
  · have h5 : ¬ (6 : Nat) ≤ j := by omega
    show Lexicon_makeEmpty_L17 (f + 1) (nI j) _ = Lexicon_makeEmpty_L17 f (nI (j + 1)) _
    rw [Lexicon_makeEmpty_L17]
    simp (disch := omega) only [k6, nI_leI, nI_ltI, nI_eq, nI_1, nI_add, pk_mul, nI_clamp, gd_ix, h5, if_false]
    congr 1
    funext k
    by_cases e : k = j
    · subst e; rw [pk_us, if_pos (by omega)]
    · rw [pk_un e]; simp only [show k < j + 1 ↔ k < j by omega]
  · show Lexicon_makeEmpty_L17 (f + 1) (nI 6) _ = _
    rw [Lexicon_makeEmpty_L17]; rfl
def ll0 (l : Nat → Int32) : Nat → Int32 := fun k => if k < 6 then nI k else l k
theorem begS_ok {N : Nat} (hN : 300 ≤ N) (far l : Nat → Int32) : F_Shed_beginAnew N far l = some (0, 0, upd (upd far 0 18) 1 50, 0, 0, 0, 0, ll0 l) := by
  unfold F_Shed_beginAnew F_Floor_makeEmpty F_Lexicon_makeEmpty
  rw [bO_s]; dsimp only [u3]
  rw [lexEmpty hN]; rfl
def bg1 (b : Nat → Int32) : Nat → Int32 := fun k => if k < 5 then 0 else b k
def bg2 (b : Nat → Int32) : Nat → Int32 := upd (upd (upd (bg1 b) 6 18) 7 50) 9 0
def bg3 (b : Nat → Int32) : Nat → Int32 := fun k => if 10 ≤ k ∧ k < 74 then 0 else bg2 b k
def bg4 (b : Nat → Int32) : Nat → Int32 := fun k => if 150 ≤ k ∧ k < 156 then nI (k - 150) else bg3 b k
theorem beg1 {N : Nat} {b : Nat → Int32} (hN : 300 ≤ N) : R_begins_L2 N 0 b = some (bg1 b) := by
  refine lp0 (L := fun f j => R_begins_L2 f (nI j) (fun k => if k < j then 0 else b k)) (n := 5) (fun f j hj => ?_) (fun f => ?_) (by omega)
  · have h5 : ¬ (5 : Nat) ≤ j := by omega
    show R_begins_L2 (f + 1) (nI j) _ = R_begins_L2 f (nI (j + 1)) _
    rw [R_begins_L2]
    simp (disch := omega) only [k5, k240, nI_leI, nI_ltI, nI_eq, nI_1, nI_add, pk_mul, nI_clamp, gd_ix, h5, if_false]
    congr 1
    funext k
    by_cases e : k = j
    · subst e; rw [pk_us, if_pos (by omega)]
    · rw [pk_un e]; simp only [show k < j + 1 ↔ k < j by omega]
  · show R_begins_L2 (f + 1) (nI 5) _ = _
    rw [R_begins_L2]; rfl
theorem beg3 {N : Nat} {b : Nat → Int32} (hN : 300 ≤ N) : R_begins_L48 N 0 b = some (fun k => if 10 ≤ k ∧ k < 74 then 0 else b k) := by
  have t := lp0 (L := fun f j => R_begins_L48 f (nI j) (fun k => if 10 ≤ k ∧ k < 10 + j then 0 else b k)) (n := 64) (N := N) (r := fun k => if 10 ≤ k ∧ k < 74 then 0 else b k) (fun f j hj => by
      have h5 : ¬ (64 : Nat) ≤ j := by omega
      show R_begins_L48 (f + 1) (nI j) _ = R_begins_L48 f (nI (j + 1)) _
      rw [R_begins_L48]
      simp (disch := omega) only [k64, k10, k240, nI_leI, nI_ltI, nI_eq, nI_1, nI_add, pk_mul, nI_clamp, gd_ix, h5, if_false]
      congr 1
      funext k
      by_cases e : k = 10 + j
      · subst e; rw [pk_us, if_pos (by omega)]
      · rw [pk_un e]; simp only [show (10 ≤ k ∧ k < 10 + (j + 1)) ↔ (10 ≤ k ∧ k < 10 + j) by omega]) (fun f => by
      show R_begins_L48 (f + 1) (nI 64) _ = _
      rw [R_begins_L48]; rfl) (by omega)
  have e0 : (fun k : Nat => if 10 ≤ k ∧ k < 10 + 0 then (0 : Int32) else b k) = b := funext (fun k => if_neg (by omega))
  have t2 : R_begins_L48 N (nI 0) (fun k => if 10 ≤ k ∧ k < 10 + 0 then 0 else b k) = _ := t
  rw [e0] at t2
  exact t2
theorem beg4 {N : Nat} {b : Nat → Int32} (hN : 300 ≤ N) : R_begins_L72 N 0 b = some (fun k => if 150 ≤ k ∧ k < 156 then nI (k - 150) else b k) := by
  have t := lp0 (L := fun f j => R_begins_L72 f (nI j) (fun k => if 150 ≤ k ∧ k < 150 + j then nI (k - 150) else b k)) (n := 6) (N := N) (r := fun k => if 150 ≤ k ∧ k < 156 then nI (k - 150) else b k) (fun f j hj => by
      have h5 : ¬ (6 : Nat) ≤ j := by omega
      show R_begins_L72 (f + 1) (nI j) _ = R_begins_L72 f (nI (j + 1)) _
      rw [R_begins_L72]
      simp (disch := omega) only [k6, k150, k240, nI_leI, nI_ltI, nI_eq, nI_1, nI_add, pk_mul, nI_clamp, gd_ix, h5, if_false]
      congr 1
      funext k
      by_cases e : k = 150 + j
      · subst e; rw [pk_us, if_pos (by omega), show 150 + j - 150 = j by omega]
      · rw [pk_un e]; simp only [show (150 ≤ k ∧ k < 150 + (j + 1)) ↔ (150 ≤ k ∧ k < 150 + j) by omega]) (fun f => by
      show R_begins_L72 (f + 1) (nI 6) _ = _
      rw [R_begins_L72]; rfl) (by omega)
  have e0 : (fun k : Nat => if 150 ≤ k ∧ k < 150 + 0 then nI (k - 150) else b k) = b := funext (fun k => if_neg (by omega))
  have t2 : R_begins_L72 N (nI 0) (fun k => if 150 ≤ k ∧ k < 150 + 0 then nI (k - 150) else b k) = _ := t
  rw [e0] at t2
  exact t2
theorem begR_ok {N : Nat} {b : Nat → Int32} (hN : 300 ≤ N) : F_R_begins N b = some (bg4 b) := by
  unfold F_R_begins
  rw [beg1 hN, bO_s]
  show bO (R_begins_L48 N 0 (bg2 b)) _ = _
  rw [beg3 hN, bO_s]
  show bO (R_begins_L72 N 0 (bg3 b)) _ = _
  rw [beg4 hN]; rfl
theorem bg_low {b : Nat → Int32} {k : Nat} (h : k < 5) : bg4 b k = 0 := by
  unfold bg4 bg3 bg2 bg1
  rw [if_neg (by omega), if_neg (by omega), pk_un (by omega), pk_un (by omega), pk_un (by omega), if_pos h]
theorem bg_6 {b : Nat → Int32} : bg4 b 6 = 18 := by
  unfold bg4 bg3 bg2 bg1
  rw [if_neg (by omega), if_neg (by omega), pk_un (by omega), pk_un (by omega), pk_us]
theorem bg_7 {b : Nat → Int32} : bg4 b 7 = 50 := by
  unfold bg4 bg3 bg2 bg1
  rw [if_neg (by omega), if_neg (by omega), pk_un (by omega), pk_us]
theorem bg_9 {b : Nat → Int32} : bg4 b 9 = 0 := by
  unfold bg4 bg3 bg2 bg1
  rw [if_neg (by omega), if_neg (by omega), pk_us]
theorem bg_pil {b : Nat → Int32} {p : Nat} (h : p < 64) : bg4 b (10 + p) = 0 := by
  unfold bg4 bg3
  rw [if_neg (by omega), if_pos (by omega)]
theorem bg_like {b : Nat → Int32} {l : Nat} (h : l < 6) : bg4 b (150 + l) = nI l := by
  unfold bg4
  rw [if_pos (by omega), show 150 + l - 150 = l by omega]
theorem bg_band {b : Nat → Int32} {k : Nat} (h : gB k) : bg4 b k = b k := by
  unfold gB at h
  unfold bg4 bg3 bg2 bg1
  rw [if_neg (by omega), if_neg (by omega), pk_un (by omega), pk_un (by omega), pk_un (by omega), if_neg (by omega)]
/-- a draft begun anew -/
def begSh (s : T_Shed) : T_Shed := ((0, 0, Floor_place (Shed_floor s), Floor_way (Shed_floor s), Floor_tell (Shed_floor s), Floor_look (Shed_floor s), upd (upd (Floor_farSquare (Shed_floor s)) 0 18) 1 50), (0, Sightings_weaver (Shed_sightings s), Sightings_second (Shed_sightings s), Sightings_knew (Shed_sightings s)), (0, Lexicon_length (Shed_lexicon s), Lexicon_number (Shed_lexicon s), Lexicon_weight (Shed_lexicon s), ll0 (Lexicon_leastLike (Shed_lexicon s)), Lexicon_row (Shed_lexicon s), 0, 0, Lexicon_lipsOf (Shed_lexicon s), Lexicon_others (Shed_lexicon s)), Shed_level s, Shed_loss s, Shed_clearness s, Shed_isKept s)
theorem sB_zeroB : ∀ n : Nat, sB n (fun p => if (fun _ : Nat => false) p = true then 1 else 0) = 0
  | 0 => rfl
  | n + 1 => by rw [sB_s, sB_zeroB n]; rfl
theorem begSh_R {s : T_Shed} {b : Nat → Int32} (h : RBd s b) : RSh (begSh s) (bg4 b) := by
  refine ⟨?_, ?_, ?_, ?_⟩
  · refine ⟨fun _ => false, 0, fun _ => 0, fun _ => 0, fun _ => 0, fun _ => 0, fun i => if i = 0 then 18 else 50, by omega, ⟨?_, ?_, fun p hp => ?_⟩, ⟨rfl, bg_low (by omega)⟩, fun w hw => by omega, fun w hw => by omega, fun w hw => by omega, fun w hw => by omega, fun i hi => ?_⟩
    · rw [(bm_zero (n := 64) (c := fun _ => false)).2 (fun _ _ => rfl)]; rfl
    · rw [sB_zeroB]; exact bg_low (by omega)
    · rw [bg_pil hp]; rfl
    · have hi2 : i = 0 ∨ i = 1 := by omega
      rcases hi2 with rfl | rfl
      · refine ⟨by decide, by decide, ?_, ?_⟩
        · show upd (upd (Floor_farSquare (Shed_floor s)) 0 18) 1 50 0 = nI 18
          rw [pk_un (by omega), pk_us]; rfl
        · exact bg_6
      · refine ⟨by decide, by decide, ?_, ?_⟩
        · show upd (upd (Floor_farSquare (Shed_floor s)) 0 18) 1 50 1 = nI 50
          rw [pk_us]; rfl
        · exact bg_7
  · exact ⟨0, fun _ => 0, fun _ => 0, fun _ => false, by omega, ⟨rfl, bg_low (by omega)⟩, fun w hw => by omega, fun w hw => by omega, fun w hw => by omega⟩
  · exact ⟨0, fun _ => 0, fun _ => 0, fun _ => 0, fun l => l, 0, fun _ => 0, 0, by omega, by omega, by decide, ⟨rfl, bg_low (by omega)⟩, ⟨rfl, bg_low (by omega)⟩, ⟨rfl, bg_9⟩, fun w hw => by omega, fun w hw => by omega, fun w hw => by omega, fun w i hw => by omega, fun l hl => ⟨hl, if_pos hl, bg_like hl⟩, fun w hw => by omega⟩
  · exact RBd.frame (x := begSh s) (b := b) h (fun k hk => bg_band hk)
theorem restore {N : Nat} {asd b : Nat → Int32} (hN : 300 ≤ N) : R_shed_L66 asd N 0 b = some (fun k => if k < 240 then asd k else b k) := by
  refine lp0 (L := fun f j => R_shed_L66 asd f (nI j) (fun k => if k < j then asd k else b k)) (n := 240) (fun f j hj => ?_) (fun f => ?_) (by omega)
  · have h5 : ¬ (240 : Nat) ≤ j := by omega
    show R_shed_L66 asd (f + 1) (nI j) _ = R_shed_L66 asd f (nI (j + 1)) _
    rw [R_shed_L66]
    simp (disch := omega) only [k240, nI_leI, nI_ltI, nI_eq, nI_1, nI_add, pk_mul, nI_clamp, gd_ix, h5, if_false]
    congr 1
    funext k
    by_cases e : k = j
    · subst e; rw [pk_us, if_pos (by omega)]
    · rw [pk_un e]; simp only [show k < j + 1 ↔ k < j by omega]
  · show R_shed_L66 asd (f + 1) (nI 240) _ = _
    rw [R_shed_L66]; rfl
theorem setAside {N : Nat} {asd b : Nat → Int32} (hN : 300 ≤ N) : R_shed_L17 b N 0 asd = some (fun k => if k < 240 then b k else asd k) := by
  refine lp0 (L := fun f j => R_shed_L17 b f (nI j) (fun k => if k < j then b k else asd k)) (n := 240) (fun f j hj => ?_) (fun f => ?_) (by omega)
  · have h5 : ¬ (240 : Nat) ≤ j := by omega
    show R_shed_L17 b (f + 1) (nI j) _ = R_shed_L17 b f (nI (j + 1)) _
    rw [R_shed_L17]
    simp (disch := omega) only [k240, nI_leI, nI_ltI, nI_eq, nI_1, nI_add, pk_mul, nI_clamp, gd_ix, h5, if_false]
    congr 1
    funext k
    by_cases e : k = j
    · subst e; rw [pk_us, if_pos (by omega)]
    · rw [pk_un e]; simp only [show k < j + 1 ↔ k < j by omega]
  · show R_shed_L17 b (f + 1) (nI 240) _ = _
    rw [R_shed_L17]; rfl
theorem shedL {N cnt : Nat} {ik no : Nat → Int32} {nu : Nat → Nat → Int32} {vb mn ns : Nat → Int32} (hN : 1000 ≤ N) (hc : cnt ≤ 34) (hI : ItR cnt ik no nu vb mn ns) (nw : T_Shed) (cl mm rl gk at1 tok1 ta1 tn1 : Int32) (sw sn sk rw lv ls : Nat → Int32) (asd : Nat → Int32) (at2 st2 tk2 va2 : Int32) :
    ∀ (d f g x : Nat) (fl : T_Floor) (lx : T_Lexicon) (b : Nat → Int32), x + d = cnt → d < f → d < g → RFl fl b → RLx lx b →
      (∃ (fl' : T_Floor) (lx' : T_Lexicon) (b' : Nat → Int32), S_shed_L38 N (nI cnt) ik no nu (Shed_clearness nw) (Floor_pillars (Shed_floor nw)) (Floor_weavers (Shed_floor nw)) (Floor_place (Shed_floor nw)) (Floor_way (Shed_floor nw)) (Floor_tell (Shed_floor nw)) (Floor_look (Shed_floor nw)) (Floor_farSquare (Shed_floor nw)) (Sightings_many (Shed_sightings nw)) (Sightings_weaver (Shed_sightings nw)) (Sightings_second (Shed_sightings nw)) (Sightings_knew (Shed_sightings nw)) (Lexicon_words (Shed_lexicon nw)) (Lexicon_rowLips (Shed_lexicon nw)) (Lexicon_girlKnows (Shed_lexicon nw)) (Lexicon_length (Shed_lexicon nw)) (Lexicon_number (Shed_lexicon nw)) (Lexicon_weight (Shed_lexicon nw)) (Lexicon_leastLike (Shed_lexicon nw)) (Lexicon_row (Shed_lexicon nw)) (Lexicon_lipsOf (Shed_lexicon nw)) (Shed_level nw) (Shed_loss nw) cl mm sw sn sk rl gk rw lv ls at1 tok1 ta1 tn1 f (nI x) (Floor_place fl) (Floor_way fl) (Floor_tell fl) (Floor_look fl) (Floor_farSquare fl) (Floor_pillars fl) (Floor_weavers fl) (Lexicon_length lx) (Lexicon_number lx) (Lexicon_weight lx) (Lexicon_leastLike lx) (Lexicon_lipsOf lx) (Lexicon_words lx) = some (.inr (Floor_place fl', Floor_way fl', Floor_tell fl', Floor_look fl', Floor_farSquare fl', Floor_pillars fl', Floor_weavers fl', Lexicon_length lx', Lexicon_number lx', Lexicon_weight lx', Lexicon_leastLike lx', Lexicon_lipsOf lx', Lexicon_words lx')) ∧ R_shed_L48 N (nI cnt) vb mn ns asd at2 st2 tk2 va2 g (nI x) b = some (.inr b') ∧ RFl fl' b' ∧ RLx lx' b' ∧ (∀ k, ¬ gF k → ¬ gL k → b' k = b k) ∧ Lexicon_row lx' = Lexicon_row lx ∧ Lexicon_rowLips lx' = Lexicon_rowLips lx ∧ Lexicon_girlKnows lx' = Lexicon_girlKnows lx) ∨
      (∃ (a : Int32) (fl' : T_Floor) (lx' : T_Lexicon) (b' : Nat → Int32), S_shed_L38 N (nI cnt) ik no nu (Shed_clearness nw) (Floor_pillars (Shed_floor nw)) (Floor_weavers (Shed_floor nw)) (Floor_place (Shed_floor nw)) (Floor_way (Shed_floor nw)) (Floor_tell (Shed_floor nw)) (Floor_look (Shed_floor nw)) (Floor_farSquare (Shed_floor nw)) (Sightings_many (Shed_sightings nw)) (Sightings_weaver (Shed_sightings nw)) (Sightings_second (Shed_sightings nw)) (Sightings_knew (Shed_sightings nw)) (Lexicon_words (Shed_lexicon nw)) (Lexicon_rowLips (Shed_lexicon nw)) (Lexicon_girlKnows (Shed_lexicon nw)) (Lexicon_length (Shed_lexicon nw)) (Lexicon_number (Shed_lexicon nw)) (Lexicon_weight (Shed_lexicon nw)) (Lexicon_leastLike (Shed_lexicon nw)) (Lexicon_row (Shed_lexicon nw)) (Lexicon_lipsOf (Shed_lexicon nw)) (Shed_level nw) (Shed_loss nw) cl mm sw sn sk rl gk rw lv ls at1 tok1 ta1 tn1 f (nI x) (Floor_place fl) (Floor_way fl) (Floor_tell fl) (Floor_look fl) (Floor_farSquare fl) (Floor_pillars fl) (Floor_weavers fl) (Lexicon_length lx) (Lexicon_number lx) (Lexicon_weight lx) (Lexicon_leastLike lx) (Lexicon_lipsOf lx) (Lexicon_words lx) = some (Sum.inl (a, Shed_clearness nw, Floor_pillars (Shed_floor nw), Floor_weavers (Shed_floor nw), Floor_place (Shed_floor nw), Floor_way (Shed_floor nw), Floor_tell (Shed_floor nw), Floor_look (Shed_floor nw), Floor_farSquare (Shed_floor nw), Sightings_many (Shed_sightings nw), Sightings_weaver (Shed_sightings nw), Sightings_second (Shed_sightings nw), Sightings_knew (Shed_sightings nw), Lexicon_words (Shed_lexicon nw), Lexicon_rowLips (Shed_lexicon nw), Lexicon_girlKnows (Shed_lexicon nw), Lexicon_length (Shed_lexicon nw), Lexicon_number (Shed_lexicon nw), Lexicon_weight (Shed_lexicon nw), Lexicon_leastLike (Shed_lexicon nw), Lexicon_row (Shed_lexicon nw), Lexicon_lipsOf (Shed_lexicon nw), Shed_level nw, Shed_loss nw, cl, Floor_pillars fl', Floor_weavers fl', Floor_place fl', Floor_way fl', Floor_tell fl', Floor_look fl', Floor_farSquare fl', mm, sw, sn, sk, Lexicon_words lx', rl, gk, Lexicon_length lx', Lexicon_number lx', Lexicon_weight lx', Lexicon_leastLike lx', rw, Lexicon_lipsOf lx', lv, ls, nI cnt, at1, tok1, ta1, tn1, ik, no, nu)) ∧ R_shed_L48 N (nI cnt) vb mn ns asd at2 st2 tk2 va2 g (nI x) b = some (.inl (a, at2, st2, tk2, va2, nI cnt, b', asd, vb, mn, ns)) ∧ (∀ k, k < 240 → b' k = asd k)) := by
  intro d
  induction d with
  | zero =>
    intro f g x fl lx b hx hf hg hF hL
    obtain ⟨f, rfl⟩ : ∃ f', f = f' + 1 := ⟨f - 1, by omega⟩
    obtain ⟨g, rfl⟩ : ∃ g', g = g' + 1 := ⟨g - 1, by omega⟩
    have hx' : nI cnt ≤ nI x := by simp (disch := omega) only [nI_leI]; omega
    refine Or.inl ⟨fl, lx, b, ?_, ?_, hF, hL, fun _ _ _ => rfl, rfl, rfl, rfl⟩
    · rw [S_shed_L38, if_pos hx']
    · rw [R_shed_L48, if_pos hx']
  | succ d ih =>
    intro f g x fl lx b hx hf hg hF hL
    obtain ⟨f, rfl⟩ : ∃ f', f = f' + 1 := ⟨f - 1, by omega⟩
    obtain ⟨g, rfl⟩ : ∃ g', g = g' + 1 := ⟨g - 1, by omega⟩
    have hx' : ¬ nI cnt ≤ nI x := by simp (disch := omega) only [nI_leI]; omega
    have ex : nI x + 1 = nI (x + 1) := by simp (disch := omega) only [nI_1, nI_add]
    obtain ⟨ans, fl1, lx1, ans', b1, e1, e2, e3, e4⟩ := tellItem_ok hN (show x < cnt by omega) hc hI hF hL
    rw [S_shed_L38, R_shed_L48, if_neg hx', if_neg hx', e1, e2, bO_s, bO_s]
    dsimp only [u14, u2]
    by_cases ha : 0 ≤ ans
    · rw [if_pos ha, if_pos (e3.1 ha), ex]
      obtain ⟨g1, g2, g3, g4, g5, g6, _⟩ := e4 ha
      rcases ih f g (x + 1) fl1 lx1 b1 (by omega) (by omega) (by omega) g1 g2 with ⟨fl', lx', b', q1, q2, q3, q4, q5, q6, q7, q8⟩ | q
      · exact Or.inl ⟨fl', lx', b', q1, q2, q3, q4, fun k h1 h2 => (q5 k h1 h2).trans (g3 k h1 h2), q6.trans g4, q7.trans g5, q8.trans g6⟩
      · exact Or.inr q
    · rw [if_neg ha, if_neg (fun h => ha (e3.2 h)), restore (by omega), bO_s]
      exact Or.inr ⟨_, fl1, lx1, _, rfl, rfl, fun k hk => if_pos hk⟩
