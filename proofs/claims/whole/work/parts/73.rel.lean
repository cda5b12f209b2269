-- THE TIE: class and reference
def gF (k : Nat) : Prop := k ≤ 1 ∨ (6 ≤ k ∧ k ≤ 7) ∨ (10 ≤ k ∧ k < 120)
def gS (k : Nat) : Prop := k = 2 ∨ (120 ≤ k ∧ k < 150)
def gL (k : Nat) : Prop := k = 3 ∨ k = 4 ∨ k = 9 ∨ (150 ≤ k ∧ k < 220)
def gB (k : Nat) : Prop := k = 8 ∨ (220 ≤ k ∧ k < 240)
def RFl (x : T_Floor) (b : Nat → Int32) : Prop := ∃ (pil : Nat → Bool) (n : Nat) (pl wy te lo fr : Nat → Nat), n ≤ 8 ∧
  (Floor_pillars x = lN (bm 64 pil) ∧ b 0 = nI (sB 64 (fun p => if pil p = true then 1 else 0)) ∧ (∀ p, p < 64 → b (10 + p) = bI (pil p))) ∧
  (Floor_weavers x = nI n ∧ b 1 = nI n) ∧
  (∀ w, w < n → pl w < 64 ∧ Floor_place x w = nI (pl w) ∧ b (80 + 4 * w) = nI (pl w)) ∧
  (∀ w, w < n → wy w < 4 ∧ Floor_way x w = nI (wy w) ∧ b (80 + 4 * w + 1) = nI (wy w)) ∧
  (∀ w, w < n → te w < 4096 ∧ Floor_tell x w = nI (te w) ∧ b (80 + 4 * w + 2) = nI (te w)) ∧
  (∀ w, w < n → lo w < 4096 ∧ Floor_look x w = nI (lo w) ∧ b (80 + 4 * w + 3) = nI (lo w)) ∧
  (∀ i, i < 2 → 1 ≤ fr i ∧ fr i ≤ 98 ∧ Floor_farSquare x i = nI (fr i) ∧ b (6 + i) = nI (fr i))
def RSi (x : T_Sightings) (b : Nat → Int32) : Prop := ∃ (n : Nat) (sw ss : Nat → Nat) (sk : Nat → Bool), n ≤ 10 ∧
  (Sightings_many x = nI n ∧ b 2 = nI n) ∧
  (∀ k, k < n → sw k < 8 ∧ Sightings_weaver x k = nI (sw k) ∧ b (120 + 3 * k) = nI (sw k)) ∧
  (∀ k, k < n → ss k ≤ 240 ∧ Sightings_second x k = nI (ss k) ∧ b (120 + 3 * k + 1) = nI (ss k)) ∧
  (∀ k, k < n → Sightings_knew x k = bI (sk k) ∧ b (120 + 3 * k + 2) = bI (sk k))
def RLx (x : T_Lexicon) (b : Nat → Int32) : Prop := ∃ (n : Nat) (ln nu wt ll : Nat → Nat) (nr : Nat) (ro : Nat → Nat) (gi : Nat), n ≤ 10 ∧ nr ≤ 24 ∧ gi < 2 ^ n ∧
  (Lexicon_words x = nI n ∧ b 3 = nI n) ∧
  (Lexicon_rowLips x = nI nr ∧ b 4 = nI nr) ∧
  (Lexicon_girlKnows x = nI gi ∧ b 9 = nI gi) ∧
  (∀ w, w < n → 1 ≤ ln w ∧ ln w ≤ 6 ∧ Lexicon_length x w = nI (ln w) ∧ b (160 + 3 * w) = nI (ln w)) ∧
  (∀ w, w < n → nu w < 6 ^ ln w ∧ Lexicon_number x w = nI (nu w) ∧ b (160 + 3 * w + 1) = nI (nu w)) ∧
  (∀ w, w < n → 1 ≤ wt w ∧ wt w ≤ 9 ∧ Lexicon_weight x w = nI (wt w) ∧ b (160 + 3 * w + 2) = nI (wt w)) ∧
  (∀ w i, w < n → i < ln w → Lexicon_lipsOf x (6 * w + i) = nI (nu w / 6 ^ (ln w - 1 - i) % 6)) ∧
  (∀ l, l < 6 → ll l < 6 ∧ Lexicon_leastLike x l = nI (ll l) ∧ b (150 + l) = nI (ll l)) ∧
  (∀ k, k < nr → ro k < 6 ∧ Lexicon_row x k = nI (ro k) ∧ b (190 + k) = nI (ro k))
def RBd (x : T_Shed) (b : Nat → Int32) : Prop := ∃ (lv ls : Nat → Nat) (cl : Nat), 1 ≤ cl ∧ cl ≤ 99 ∧
  (Shed_clearness x = nI cl ∧ b 8 = nI cl) ∧
  (∀ k, k < 6 → lv k ≤ 99 ∧ Shed_level x k = nI (lv k) ∧ b (220 + 2 * k) = nI (lv k)) ∧
  (∀ k, k < 6 → ls k ≤ 9 ∧ Shed_loss x k = nI (ls k) ∧ b (220 + 2 * k + 1) = nI (ls k))
def RSh (x : T_Shed) (b : Nat → Int32) : Prop := RFl (Shed_floor x) b ∧ RSi (Shed_sightings x) b ∧ RLx (Shed_lexicon x) b ∧ RBd x b
def RTx (bytes : Int32) (row : Nat → Int32) (typed : Int32) (text : Nat → Int32) : Prop := ∃ (n : Nat) (tx : Nat → Nat), n ≤ 240 ∧ bytes = nI n ∧ typed = nI n ∧ (∀ i, i < n → tx i < 256 ∧ row i = nI (tx i) ∧ text i = nI (tx i))
/-- a number in limbs: how many, and each -/
def nL (v : Nat) : Nat := if v = 0 then 0 else Nat.log2 v / 30 + 1
def dg (v i : Nat) : Nat := v / 2 ^ (30 * i) % 2 ^ 30
def CN (limb : Nat → Int32) (limbs : Int32) (v : Nat) : Prop := limbs = nI (nL v) ∧ ∀ i, i < nL v → limb i = nI (dg v i)
/-- a register of the reference: all of its 60 limbs -/
def RN (limbs wide : Nat → Int32) (r v : Nat) : Prop := wide r = nI (nL v) ∧ ∀ i, i < 60 → limbs (60 * r + i) = nI (dg v i)
def RFr (x : T_Fraction) (limbs wide : Nat → Int32) : Prop := ∃ p q : Nat, nL p ≤ 40 ∧ nL q ≤ 40 ∧
  CN (Natural_limb (Fraction_above x)) (Natural_limbs (Fraction_above x)) p ∧ CN (Natural_limb (Fraction_below x)) (Natural_limbs (Fraction_below x)) q ∧
  RN limbs wide 0 p ∧ RN limbs wide 1 q
def RIm (x : T_Shed) (kept : Int32) (b : Nat → Int32) : Prop := (Shed_isKept x = 0 ∧ kept = 0) ∨ (Shed_isKept x = 1 ∧ kept = 1 ∧ RSh x b)
def Rel (x : T_S) (y : T_R) : Prop := RSh (S_now x) (R_book y) ∧
  RIm (S_firstImage x) (R_kept y 0) (R_images y) ∧ RIm (S_secondImage x) (R_kept y 1) (fun k => R_images y (240 + k)) ∧
  RTx (Text_bytes (S_text x)) (Text_row (S_text x)) (R_typed y) (R_text y) ∧
  RFr (S_fraction x) (R_limbs y) (R_wide y)
/-- what another part of the book says doesn't matter -/
theorem RFl.frame {x : T_Floor} {b b' : Nat → Int32} (h : RFl x b) (e : ∀ k, gF k → b' k = b k) : RFl x b' := by
  obtain ⟨pil, n, pl, wy, te, lo, fr, hn, ⟨h1, h2, h3⟩, ⟨h4, h5⟩, h6, h7, h8, h9, h10⟩ := h
  unfold gF at e
  refine ⟨pil, n, pl, wy, te, lo, fr, hn, ⟨h1, (e 0 (by omega)).trans h2, fun p hp => (e (10 + p) (by omega)).trans (h3 p hp)⟩, ⟨h4, (e 1 (by omega)).trans h5⟩, ?_, ?_, ?_, ?_, ?_⟩
  · intro w hw; obtain ⟨a, c, d⟩ := h6 w hw; exact ⟨a, c, (e _ (by omega)).trans d⟩
  · intro w hw; obtain ⟨a, c, d⟩ := h7 w hw; exact ⟨a, c, (e _ (by omega)).trans d⟩
  · intro w hw; obtain ⟨a, c, d⟩ := h8 w hw; exact ⟨a, c, (e _ (by omega)).trans d⟩
  · intro w hw; obtain ⟨a, c, d⟩ := h9 w hw; exact ⟨a, c, (e _ (by omega)).trans d⟩
  · intro w hw; obtain ⟨a, c, d, d2⟩ := h10 w hw; exact ⟨a, c, d, (e _ (by omega)).trans d2⟩
theorem RSi.frame {x : T_Sightings} {b b' : Nat → Int32} (h : RSi x b) (e : ∀ k, gS k → b' k = b k) : RSi x b' := by
  obtain ⟨n, sw, ss, sk, hn, ⟨h4, h5⟩, h6, h7, h8⟩ := h
  unfold gS at e
  refine ⟨n, sw, ss, sk, hn, ⟨h4, (e 2 (by omega)).trans h5⟩, ?_, ?_, ?_⟩
  · intro w hw; obtain ⟨a, c, d⟩ := h6 w hw; exact ⟨a, c, (e _ (by omega)).trans d⟩
  · intro w hw; obtain ⟨a, c, d⟩ := h7 w hw; exact ⟨a, c, (e _ (by omega)).trans d⟩
  · intro w hw; obtain ⟨a, c⟩ := h8 w hw; exact ⟨a, (e _ (by omega)).trans c⟩
theorem RLx.frame {x : T_Lexicon} {b b' : Nat → Int32} (h : RLx x b) (e : ∀ k, gL k → b' k = b k) : RLx x b' := by
  obtain ⟨n, ln, nu, wt, ll, nr, ro, gi, hn, hnr, hgi, ⟨h1, h2⟩, ⟨h3, h4⟩, ⟨h5, h6⟩, h7, h8, h9, h10, h11, h12⟩ := h
  unfold gL at e
  refine ⟨n, ln, nu, wt, ll, nr, ro, gi, hn, hnr, hgi, ⟨h1, (e 3 (by omega)).trans h2⟩, ⟨h3, (e 4 (by omega)).trans h4⟩, ⟨h5, (e 9 (by omega)).trans h6⟩, ?_, ?_, ?_, h10, ?_, ?_⟩
  · intro w hw; obtain ⟨a, c, d, d2⟩ := h7 w hw; exact ⟨a, c, d, (e _ (by omega)).trans d2⟩
  · intro w hw; obtain ⟨a, c, d⟩ := h8 w hw; exact ⟨a, c, (e _ (by omega)).trans d⟩
  · intro w hw; obtain ⟨a, c, d, d2⟩ := h9 w hw; exact ⟨a, c, d, (e _ (by omega)).trans d2⟩
  · intro w hw; obtain ⟨a, c, d⟩ := h11 w hw; exact ⟨a, c, (e _ (by omega)).trans d⟩
  · intro w hw; obtain ⟨a, c, d⟩ := h12 w hw; exact ⟨a, c, (e _ (by omega)).trans d⟩
theorem RBd.frame {x : T_Shed} {b b' : Nat → Int32} (h : RBd x b) (e : ∀ k, gB k → b' k = b k) : RBd x b' := by
  obtain ⟨lv, ls, cl, h0, h1, ⟨h4, h5⟩, h6, h7⟩ := h
  unfold gB at e
  refine ⟨lv, ls, cl, h0, h1, ⟨h4, (e 8 (by omega)).trans h5⟩, ?_, ?_⟩
  · intro w hw; obtain ⟨a, c, d⟩ := h6 w hw; exact ⟨a, c, (e _ (by omega)).trans d⟩
  · intro w hw; obtain ⟨a, c, d⟩ := h7 w hw; exact ⟨a, c, (e _ (by omega)).trans d⟩
theorem RSh.frame {x : T_Shed} {b b' : Nat → Int32} (h : RSh x b) (e : ∀ k, k < 240 → b' k = b k) : RSh x b' :=
  ⟨h.1.frame (fun k hk => e k (by unfold gF at hk; omega)), h.2.1.frame (fun k hk => e k (by unfold gS at hk; omega)), h.2.2.1.frame (fun k hk => e k (by unfold gL at hk; omega)), h.2.2.2.frame (fun k hk => e k (by unfold gB at hk; omega))⟩
/-- the shed of now, one component changed -/
theorem Rel.floor {x : T_S} {y : T_R} (h : Rel x y) {f : T_Floor} {b : Nat → Int32} (hf : RFl f b) (e : ∀ k, ¬ gF k → b k = R_book y k) : Rel ((f, Shed_sightings (S_now x), Shed_lexicon (S_now x), Shed_level (S_now x), Shed_loss (S_now x), Shed_clearness (S_now x), Shed_isKept (S_now x)), S_draft x, S_firstImage x, S_secondImage x, S_news x, S_otherNews x, S_readings x, S_chances x, S_turning x, S_text x, S_fraction x) (b, y.2) := by
  obtain ⟨⟨-, h2, h3, h4⟩, h5⟩ := h
  refine ⟨⟨hf, h2.frame (fun k hk => e k ?_), h3.frame (fun k hk => e k ?_), RBd.frame (b := R_book y) h4 (fun k hk => e k ?_)⟩, h5⟩
  · unfold gS at hk; unfold gF; omega
  · unfold gL at hk; unfold gF; omega
  · unfold gB at hk; unfold gF; omega
theorem Rel.sight {x : T_S} {y : T_R} (h : Rel x y) {f : T_Sightings} {b : Nat → Int32} (hf : RSi f b) (e : ∀ k, ¬ gS k → b k = R_book y k) : Rel ((Shed_floor (S_now x), f, Shed_lexicon (S_now x), Shed_level (S_now x), Shed_loss (S_now x), Shed_clearness (S_now x), Shed_isKept (S_now x)), S_draft x, S_firstImage x, S_secondImage x, S_news x, S_otherNews x, S_readings x, S_chances x, S_turning x, S_text x, S_fraction x) (b, y.2) := by
  obtain ⟨⟨h1, -, h3, h4⟩, h5⟩ := h
  refine ⟨⟨h1.frame (fun k hk => e k ?_), hf, h3.frame (fun k hk => e k ?_), RBd.frame (b := R_book y) h4 (fun k hk => e k ?_)⟩, h5⟩
  · unfold gF at hk; unfold gS; omega
  · unfold gL at hk; unfold gS; omega
  · unfold gB at hk; unfold gS; omega
theorem Rel.lex {x : T_S} {y : T_R} (h : Rel x y) {f : T_Lexicon} {b : Nat → Int32} (hf : RLx f b) (e : ∀ k, ¬ gL k → b k = R_book y k) : Rel ((Shed_floor (S_now x), Shed_sightings (S_now x), f, Shed_level (S_now x), Shed_loss (S_now x), Shed_clearness (S_now x), Shed_isKept (S_now x)), S_draft x, S_firstImage x, S_secondImage x, S_news x, S_otherNews x, S_readings x, S_chances x, S_turning x, S_text x, S_fraction x) (b, y.2) := by
  obtain ⟨⟨h1, h2, -, h4⟩, h5⟩ := h
  refine ⟨⟨h1.frame (fun k hk => e k ?_), h2.frame (fun k hk => e k ?_), hf, RBd.frame (b := R_book y) h4 (fun k hk => e k ?_)⟩, h5⟩
  · unfold gF at hk; unfold gL; omega
  · unfold gS at hk; unfold gL; omega
  · unfold gB at hk; unfold gL; omega
theorem Rel.band {x : T_S} {y : T_R} (h : Rel x y) {lv ls : Nat → Int32} {cl : Int32} {b : Nat → Int32} (hf : RBd (Shed_floor (S_now x), Shed_sightings (S_now x), Shed_lexicon (S_now x), lv, ls, cl, Shed_isKept (S_now x)) b) (e : ∀ k, ¬ gB k → b k = R_book y k) : Rel ((Shed_floor (S_now x), Shed_sightings (S_now x), Shed_lexicon (S_now x), lv, ls, cl, Shed_isKept (S_now x)), S_draft x, S_firstImage x, S_secondImage x, S_news x, S_otherNews x, S_readings x, S_chances x, S_turning x, S_text x, S_fraction x) (b, y.2) := by
  obtain ⟨⟨h1, h2, h3, -⟩, h5⟩ := h
  refine ⟨⟨h1.frame (fun k hk => e k ?_), h2.frame (fun k hk => e k ?_), h3.frame (fun k hk => e k ?_), hf⟩, h5⟩
  · unfold gF at hk; unfold gB; omega
  · unfold gS at hk; unfold gB; omega
  · unfold gL at hk; unfold gB; omega
