-- THE FLOOR
theorem k2 : (2 : Int32) = nI 2 := rfl
theorem k3 : (3 : Int32) = nI 3 := rfl
theorem k4 : (4 : Int32) = nI 4 := rfl
theorem k5 : (5 : Int32) = nI 5 := rfl
theorem k6 : (6 : Int32) = nI 6 := rfl
theorem k7 : (7 : Int32) = nI 7 := rfl
theorem k8 : (8 : Int32) = nI 8 := rfl
theorem k9 : (9 : Int32) = nI 9 := rfl
theorem k10 : (10 : Int32) = nI 10 := rfl
theorem k11 : (11 : Int32) = nI 11 := rfl
theorem k12 : (12 : Int32) = nI 12 := rfl
theorem k13 : (13 : Int32) = nI 13 := rfl
theorem k14 : (14 : Int32) = nI 14 := rfl
theorem k15 : (15 : Int32) = nI 15 := rfl
theorem k16 : (16 : Int32) = nI 16 := rfl
theorem k17 : (17 : Int32) = nI 17 := rfl
theorem k18 : (18 : Int32) = nI 18 := rfl
theorem k24 : (24 : Int32) = nI 24 := rfl
theorem k29 : (29 : Int32) = nI 29 := rfl
theorem k30 : (30 : Int32) = nI 30 := rfl
theorem k32 : (32 : Int32) = nI 32 := rfl
theorem k34 : (34 : Int32) = nI 34 := rfl
theorem k40 : (40 : Int32) = nI 40 := rfl
theorem k48 : (48 : Int32) = nI 48 := rfl
theorem k50 : (50 : Int32) = nI 50 := rfl
theorem k57 : (57 : Int32) = nI 57 := rfl
theorem k59 : (59 : Int32) = nI 59 := rfl
theorem k60 : (60 : Int32) = nI 60 := rfl
theorem k63 : (63 : Int32) = nI 63 := rfl
theorem k64 : (64 : Int32) = nI 64 := rfl
theorem k80 : (80 : Int32) = nI 80 := rfl
theorem k97 : (97 : Int32) = nI 97 := rfl
theorem k98 : (98 : Int32) = nI 98 := rfl
theorem k99 : (99 : Int32) = nI 99 := rfl
theorem k100 : (100 : Int32) = nI 100 := rfl
theorem k120 : (120 : Int32) = nI 120 := rfl
theorem k122 : (122 : Int32) = nI 122 := rfl
theorem k127 : (127 : Int32) = nI 127 := rfl
theorem k150 : (150 : Int32) = nI 150 := rfl
theorem k160 : (160 : Int32) = nI 160 := rfl
theorem k180 : (180 : Int32) = nI 180 := rfl
theorem k190 : (190 : Int32) = nI 190 := rfl
theorem k220 : (220 : Int32) = nI 220 := rfl
theorem k240 : (240 : Int32) = nI 240 := rfl
theorem k1200 : (1200 : Int32) = nI 1200 := rfl
theorem k4095 : (4095 : Int32) = nI 4095 := rfl
theorem k1000000 : (1000000 : Int32) = nI 1000000 := rfl
theorem k1000000007 : (1000000007 : Int32) = nI 1000000007 := rfl
theorem k1073741823 : (1073741823 : Int32) = nI 1073741823 := rfl
/-- a loop that looks for one -/
theorem lpS {ρ : Type} {L : Nat → Nat → Option ρ} {n : Nat} {c : Nat → Bool} {r1 r0 : ρ} (hs : ∀ f j, j < n → c j = false → L (f + 1) j = L f (j + 1)) (hx : ∀ f j, j < n → c j = true → L (f + 1) j = some r1) (he : ∀ f, L (f + 1) n = some r0) : ∀ N, n < N → L N 0 = some (if aB n c = true then r1 else r0) := by
  have key : ∀ (f j : Nat), j ≤ n → n - j < f → aB j c = false → L f j = some (if aB n c = true then r1 else r0) := by
    intro f
    induction f with
    | zero => intro j _ h; omega
    | succ f ih =>
      intro j hj hf ha
      by_cases h : j = n
      · subst h; rw [he, ha]; rfl
      · cases hc : c j
        · rw [hs f j (by omega) hc]
          exact ih (j + 1) (by omega) (by omega) (by rw [aB_s, ha, hc]; rfl)
        · rw [hx f j (by omega) hc, if_pos (aB_t.mpr ⟨j, by omega, hc⟩)]
  intro N hN
  exact key N 0 (by omega) (by omega) rfl
/-- a counted loop from 0 whose states are known -/
theorem lp0 {ρ : Type} {L : Nat → Nat → Option ρ} {n N : Nat} {r : ρ} (hs : ∀ f j, j < n → L (f + 1) j = L f (j + 1)) (he : ∀ f, L (f + 1) n = some r) (hN : n < N) : L N 0 = some r := lpE hs he n N 0 (by omega) hN
def sqI (p q : Int32) : Int32 := F_Floor_goesBy p q 2 * F_Floor_goesBy p q 2 + F_Floor_goesBy p q 1 * F_Floor_goesBy p q 1
def clB (pil : Nat → Bool) (p q : Int32) : Bool := lB 64 (fun k => !(pil k) || decide (F_Floor_isBlockedBy (nI k) p q = 0))
def rdI (pil : Nat → Bool) (m p f q g : Int32) : Bool := !(decide (F_Floor_goesBy p q f ≤ 0)) && (!(decide (F_Floor_goesBy q p g ≤ 0)) && (!(decide (m < sqI p q)) && clB pil p q))
def wtI (pil : Nat → Bool) (m p f q g : Int32) : Bool := !(decide (F_Floor_goesBy p q f ≤ 0)) && (!(decide (F_Floor_goesBy q p g < 0)) && (!(decide (m < sqI p q)) && clB pil p q))
theorem toward_eq (p q f : Int32) : F_R_toward p q f = F_Floor_goesBy p q f := rfl
theorem gb2 (p q : Int32) : F_Floor_goesBy p q 2 = q / 8 - p / 8 := rfl
theorem gb1 (p q : Int32) : F_Floor_goesBy p q 1 = jrem q 8 - jrem p 8 := rfl
theorem sq_neg (a b : Int32) : (a - b) * (a - b) = (b - a) * (b - a) := by grind
theorem square_eq (p q : Int32) : F_R_square p q = sqI p q := by
  unfold F_R_square sqI
  rw [gb2, gb1, sq_neg (q / 8), sq_neg (jrem q 8)]
theorem hasPil {m p : Nat} (hm : m < 2 ^ 64) (hp : p < 64) : F_Floor_hasPillar (nI p) (lN m) = bI (m.testBit p) := by
  unfold F_Floor_hasPillar jushrL
  rw [wb_bit hm hp]
  have h : m / 2 ^ p % 2 < 2 := Nat.mod_lt _ (by decide)
  rw [Nat.testBit_eq_decide_div_mod_eq]
  generalize m / 2 ^ p % 2 = x at h
  match x, h with
  | 0, _ => rfl
  | 1, _ => rfl
theorem hasPilB {pil : Nat → Bool} {p : Nat} (hp : p < 64) : F_Floor_hasPillar (nI p) (lN (bm 64 pil)) = bI (pil p) := by
  rw [hasPil (bm_lt pil 64) hp, bm_bit]; simp [hp]
theorem lgc0 (x : Int64) : lg_cmp x 0 = 0 ↔ x = 0 := by
  unfold lg_cmp
  by_cases h : x > 0
  · rw [if_pos h]
    refine ⟨fun e => absurd e (by decide), fun e => ?_⟩
    subst e
    exact absurd h (by decide)
  · rw [if_neg h]
    by_cases h2 : x = 0
    · rw [if_pos h2]; exact ⟨fun _ => h2, fun _ => rfl⟩
    · rw [if_neg h2]; exact ⟨fun e => absurd e (by decide), fun e => absurd e h2⟩
theorem isClear_ok {N a c : Nat} {pil : Nat → Bool} {place : Nat → Int32} (hN : 100 ≤ N) (ha : a < 8) (hc : c < 8) : F_Floor_isClear N (nI a) (nI c) (lN (bm 64 pil)) place = some (bI (clB pil (place a) (place c))) := by
  unfold F_Floor_isClear
  by_cases h0 : lN (bm 64 pil) = 0
  · rw [if_pos ((lgc0 _).mpr h0)]
    have h1 : ∀ i, i < 64 → pil i = false := by
      intro i hi
      have h2 := hasPilB (pil := pil) hi
      rw [h0] at h2
      have h3 : F_Floor_hasPillar (nI i) 0 = 0 := by
        have := hasPil (m := 0) (by decide) hi
        rw [Nat.zero_testBit] at this
        exact this
      rw [h3] at h2
      exact bI_0.mp h2.symm
    have h4 : clB pil (place a) (place c) = true := lB_t.mpr (fun i hi => by rw [h1 i hi]; rfl)
    rw [h4]; rfl
  · rw [if_neg (fun e => h0 ((lgc0 _).mp e))]
    have h1 := lpS (L := fun f j => Floor_isClear_L13 (lN (bm 64 pil)) (nI a) (nI c) place f (nI j)) (n := 64) (c := fun k => pil k && !(decide (F_Floor_isBlockedBy (nI k) (place a) (place c) = 0))) (r1 := .inl 0) (r0 := .inr ()) (fun f j hj hcj => by
        have h5 : ¬ (64 : Nat) ≤ j := by omega
        show Floor_isClear_L13 (lN (bm 64 pil)) (nI a) (nI c) place (f + 1) (nI j) = _
        rw [Floor_isClear_L13]
        simp (disch := omega) only [k64, nI_leI, nI_ltI, nI_eq, nI_1, nI_add, pk_mul, nI_clamp, gd_ix, hasPilB hj, h5, if_false]
        cases hp : pil j
        · rw [bI_f, if_pos rfl]
        · rw [bI_t, if_neg (by decide)]
          rw [hp] at hcj
          have h6 : F_Floor_isBlockedBy (nI j) (place a) (place c) = 0 := by simpa using hcj
          rw [if_pos h6]) (fun f j hj hcj => by
        have h5 : ¬ (64 : Nat) ≤ j := by omega
        show Floor_isClear_L13 (lN (bm 64 pil)) (nI a) (nI c) place (f + 1) (nI j) = _
        rw [Floor_isClear_L13]
        have h7 : pil j = true ∧ ¬ F_Floor_isBlockedBy (nI j) (place a) (place c) = 0 := by simpa using hcj
        simp (disch := omega) only [k64, nI_leI, nI_ltI, nI_eq, nI_1, nI_add, pk_mul, nI_clamp, gd_ix, hasPilB hj, h5, if_false, h7.1, bI_1, if_neg h7.2]
        rfl) (fun f => by
        show Floor_isClear_L13 (lN (bm 64 pil)) (nI a) (nI c) place (f + 1) (nI 64) = _
        rw [Floor_isClear_L13]
        rfl) N (by omega)
    have h2 : Floor_isClear_L13 (lN (bm 64 pil)) (nI a) (nI c) place N 0 = _ := h1
    rw [h2]
    have h3 : aB 64 (fun k => pil k && !(decide (F_Floor_isBlockedBy (nI k) (place a) (place c) = 0))) = !(clB pil (place a) (place c)) := by
      cases hq : clB pil (place a) (place c)
      · obtain ⟨i, hi, h⟩ := lB_f.mp hq
        exact aB_t.mpr ⟨i, hi, by simpa using h⟩
      · refine aB_f.mpr (fun i hi => ?_)
        have h := lB_t.mp hq i hi
        revert h
        cases pil i <;> simp
    rw [h3]
    cases clB pil (place a) (place c) <;> rfl
theorem sqOfWay_ok {a c : Nat} {place : Nat → Int32} (ha : a < 8) (hc : c < 8) : F_Floor_squareOfWay (nI a) (nI c) place = some (sqI (place a) (place c)) := by
  unfold F_Floor_squareOfWay
  simp (disch := omega) only [gd_ix, nI_clamp]
  rfl
theorem mayRead_ok {N a c : Nat} {pil : Nat → Bool} {place far : Nat → Int32} (hN : 100 ≤ N) (ha : a < 8) (hc : c < 8) : F_Floor_mayRead N (nI a) (nI c) (lN (bm 64 pil)) place far = some (bI (!(decide (far 0 < sqI (place a) (place c))) && clB pil (place a) (place c))) := by
  unfold F_Floor_mayRead
  rw [sqOfWay_ok ha hc, bO_s]
  by_cases h : far 0 < sqI (place a) (place c)
  · rw [if_pos h, decide_eq_true h]; rfl
  · rw [if_neg h, isClear_ok hN ha hc, bO_s, decide_eq_false h]
    cases clB pil (place a) (place c) <;> rfl
theorem face_ok {a c : Nat} {f g : Int32} {place : Nat → Int32} (ha : a < 8) (hc : c < 8) : F_Floor_faceEachOther (nI a) f (nI c) g place = some (bI (!(decide (F_Floor_goesBy (place a) (place c) f ≤ 0)) && !(decide (F_Floor_goesBy (place c) (place a) g ≤ 0)))) := by
  unfold F_Floor_faceEachOther
  simp (disch := omega) only [gd_ix, nI_clamp]
  by_cases h1 : F_Floor_goesBy (place a) (place c) f ≤ 0
  · rw [if_pos h1, decide_eq_true h1]; rfl
  · rw [if_neg h1, decide_eq_false h1]
    by_cases h2 : F_Floor_goesBy (place c) (place a) g ≤ 0
    · rw [if_pos h2, decide_eq_true h2]; rfl
    · rw [if_neg h2, decide_eq_false h2]; rfl
theorem perc0_ok {N a c : Nat} {pil : Nat → Bool} {place way far : Nat → Int32} (hN : 100 ≤ N) (ha : a < 8) (hc : c < 8) : F_Floor_perceives N (nI a) (nI c) 0 (lN (bm 64 pil)) place way far = some (bI (rdI pil (far 0) (place a) (way a) (place c) (way c))) := by
  unfold F_Floor_perceives
  rw [if_pos rfl]
  simp (disch := omega) only [gd_ix, nI_clamp, face_ok ha hc, mayRead_ok hN ha hc, bO_s]
  unfold rdI
  cases decide (F_Floor_goesBy (place a) (place c) (way a) ≤ 0)
  · cases decide (F_Floor_goesBy (place c) (place a) (way c) ≤ 0)
    · cases decide (far 0 < sqI (place a) (place c))
      · cases clB pil (place a) (place c) <;> rfl
      · rfl
    · rfl
  · rfl
theorem watches_ok {N a c : Nat} {pil : Nat → Bool} {place way far : Nat → Int32} (hN : 100 ≤ N) (ha : a < 8) (hc : c < 8) : F_Floor_watches N (nI a) (nI c) (lN (bm 64 pil)) place way far = some (bI (wtI pil (far 1) (place a) (way a) (place c) (way c))) := by
  unfold F_Floor_watches
  simp (disch := omega) only [gd_ix, nI_clamp, sqOfWay_ok ha hc, isClear_ok hN ha hc, bO_s]
  unfold wtI
  by_cases h1 : F_Floor_goesBy (place a) (place c) (way a) ≤ 0
  · rw [if_pos h1, decide_eq_true h1]; rfl
  · rw [if_neg h1, decide_eq_false h1]
    by_cases h2 : F_Floor_goesBy (place c) (place a) (way c) < 0
    · rw [if_pos h2, decide_eq_true h2]; rfl
    · rw [if_neg h2, decide_eq_false h2]
      by_cases h3 : far 1 < sqI (place a) (place c)
      · rw [if_pos h3, decide_eq_true h3]; rfl
      · rw [if_neg h3, decide_eq_false h3]
        cases clB pil (place a) (place c) <;> rfl
/-- whom one perceives, by words (0) or by signs -/
def pcI (pil : Nat → Bool) (far place way : Nat → Int32) (how : Bool) (a c : Nat) : Bool := if how = true then wtI pil (far 1) (place a) (way a) (place c) (way c) else rdI pil (far 0) (place a) (way a) (place c) (way c)
theorem perc_ok {N a c : Nat} {pil : Nat → Bool} {place way far : Nat → Int32} {how : Bool} (hN : 100 ≤ N) (ha : a < 8) (hc : c < 8) : F_Floor_perceives N (nI a) (nI c) (bI how) (lN (bm 64 pil)) place way far = some (bI (pcI pil far place way how a c)) := by
  cases how
  · exact perc0_ok hN ha hc
  · show F_Floor_perceives N (nI a) (nI c) 1 (lN (bm 64 pil)) place way far = _
    unfold F_Floor_perceives
    rw [if_neg (by decide), watches_ok hN ha hc, bO_s, nar_bI]
    rfl
-- the reference
theorem blk_ref (k p q : Int32) : (F_Floor_isBlockedBy k p q = 0) = (¬ (¬ (((q / 8 - p / 8) * (k / 8 - p / 8) + (jrem q 8 - jrem p 8) * (jrem k 8 - jrem p 8)) ≤ 0) ∧ ¬ (sqI p q ≤ ((q / 8 - p / 8) * (k / 8 - p / 8) + (jrem q 8 - jrem p 8) * (jrem k 8 - jrem p 8))) ∧ (4 * ((q / 8 - p / 8) * (jrem k 8 - jrem p 8) - (jrem q 8 - jrem p 8) * (k / 8 - p / 8))) * ((q / 8 - p / 8) * (jrem k 8 - jrem p 8) - (jrem q 8 - jrem p 8) * (k / 8 - p / 8)) < sqI p q)) := by
  unfold F_Floor_isBlockedBy sqI
  rw [gb2, gb1]
  generalize ((q / 8 - p / 8) * (k / 8 - p / 8) + (jrem q 8 - jrem p 8) * (jrem k 8 - jrem p 8)) = A
  generalize ((q / 8 - p / 8) * (q / 8 - p / 8) + (jrem q 8 - jrem p 8) * (jrem q 8 - jrem p 8)) = B
  generalize (4 * ((q / 8 - p / 8) * (jrem k 8 - jrem p 8) - (jrem q 8 - jrem p 8) * (k / 8 - p / 8))) * ((q / 8 - p / 8) * (jrem k 8 - jrem p 8) - (jrem q 8 - jrem p 8) * (k / 8 - p / 8)) = C
  apply propext
  by_cases h1 : A ≤ 0
  · rw [if_pos h1]; simp [h1]
  · rw [if_neg h1]
    by_cases h2 : A < B
    · rw [if_pos h2]
      have h3 : ¬ B ≤ A := by rw [fa_lt] at h2; rw [fa_le]; omega
      by_cases h4 : B ≤ C
      · rw [if_pos h4]
        have h5 : ¬ C < B := by rw [fa_le] at h4; rw [fa_lt]; omega
        simp [h1, h3, h5]
      · rw [if_neg h4]
        have h5 : C < B := fa_of_nle h4
        simp [h1, h3, h5]
    · rw [if_neg h2]
      have h3 : B ≤ A := fa_of_nlt h2
      simp [h1, h3]
theorem RisClear_ok {N : Nat} {pil : Nat → Bool} {b : Nat → Int32} {p q : Int32} (hN : 100 ≤ N) (hb : ∀ k, k < 64 → b (10 + k) = bI (pil k)) : F_R_isClear N p q b = some (bI (clB pil p q)) := by
  have step : ∀ f j, j < 64 → ∀ x : Bool, R_isClear_L12 b q p (F_R_square p q) (f + 1) (bI x) (nI j) = if x = false then some 0 else R_isClear_L12 b q p (F_R_square p q) f (bI (!(pil j) || decide (F_Floor_isBlockedBy (nI j) p q = 0))) (nI (j + 1)) := by
    intro f j hj x
    have h5 : ¬ (64 : Nat) ≤ j := by omega
    rw [R_isClear_L12]
    cases x
    · simp (disch := omega) only [k64, nI_leI, nI_ltI, nI_eq, nI_1, nI_add, pk_mul, nI_clamp, h5, if_false]
      rfl
    · simp (disch := omega) only [k64, k10, nI_leI, nI_ltI, nI_eq, nI_1, nI_add, pk_mul, nI_clamp, gd_ix, h5, if_false, hb j hj, bI_1, square_eq]
      rw [if_neg (by decide : ¬ bI true = 0), if_neg (by decide : ¬ true = false)]
      cases hp : pil j
      · rfl
      · rw [if_pos rfl]
        have e : (decide (F_Floor_isBlockedBy (nI j) p q = 0)) = decide (F_Floor_isBlockedBy (nI j) p q = 0) := rfl
        simp only [blk_ref]
        generalize ((q / 8 - p / 8) * (nI j / 8 - p / 8) + (jrem q 8 - jrem p 8) * (jrem (nI j) 8 - jrem p 8)) = A
        generalize (4 * ((q / 8 - p / 8) * (jrem (nI j) 8 - jrem p 8) - (jrem q 8 - jrem p 8) * (nI j / 8 - p / 8))) * ((q / 8 - p / 8) * (jrem (nI j) 8 - jrem p 8) - (jrem q 8 - jrem p 8) * (nI j / 8 - p / 8)) = C
        by_cases h1 : A ≤ 0
        · rw [if_pos h1, decide_eq_true (by simp [h1])]; rfl
        · rw [if_neg h1]
          by_cases h2 : sqI p q ≤ A
          · rw [if_pos h2, decide_eq_true (by simp [h1, h2])]; rfl
          · rw [if_neg h2]
            by_cases h3 : C < sqI p q
            · rw [if_pos h3, decide_eq_false (by simp [h1, h2, h3])]; rfl
            · rw [if_neg h3, decide_eq_true (by simp [h1, h2, h3])]; rfl
  have last : ∀ f, ∀ x : Bool, R_isClear_L12 b q p (F_R_square p q) (f + 1) (bI x) (nI 64) = some (bI x) := by
    intro f x; rw [R_isClear_L12]; rfl
  have key : ∀ (f j : Nat), j ≤ 64 → 64 - j < f → R_isClear_L12 b q p (F_R_square p q) f (bI (lB j (fun k => !(pil k) || decide (F_Floor_isBlockedBy (nI k) p q = 0)))) (nI j) = some (bI (clB pil p q)) := by
    intro f
    induction f with
    | zero => intro j _ h; omega
    | succ f ih =>
      intro j hj hf
      by_cases h : j = 64
      · subst h; exact last f _
      · rw [step f j (by omega)]
        cases hx : lB j (fun k => !(pil k) || decide (F_Floor_isBlockedBy (nI k) p q = 0))
        · have h2 : clB pil p q = false := by
            obtain ⟨i, hi, h3⟩ := lB_f.mp hx
            exact lB_f.mpr ⟨i, by omega, h3⟩
          rw [h2]; rfl
        · rw [if_neg (by decide)]
          have h3 := ih (j + 1) (by omega) (by omega)
          rw [lB_s, hx, Bool.true_and] at h3
          exact h3
  unfold F_R_isClear
  have h := key N 0 (by omega) (by omega)
  have h2 : R_isClear_L12 b q p (F_R_square p q) N 1 0 = some (bI (clB pil p q)) := h
  rw [h2, bO_s, nar_bI]
theorem RareReading_ok {N : Nat} {pil : Nat → Bool} {b : Nat → Int32} {p f q g : Int32} (hN : 100 ≤ N) (hb : ∀ k, k < 64 → b (10 + k) = bI (pil k)) : F_R_areReading N p f q g b = some (bI (rdI pil (b 6) p f q g)) := by
  unfold F_R_areReading rdI
  rw [toward_eq, toward_eq, square_eq]
  by_cases h1 : F_Floor_goesBy p q f ≤ 0
  · rw [if_pos h1, decide_eq_true h1]; rfl
  · rw [if_neg h1, decide_eq_false h1]
    by_cases h2 : F_Floor_goesBy q p g ≤ 0
    · rw [if_pos h2, decide_eq_true h2]; rfl
    · rw [if_neg h2, decide_eq_false h2]
      by_cases h3 : b 6 < sqI p q
      · rw [if_pos h3, decide_eq_true h3]; rfl
      · rw [if_neg h3, decide_eq_false h3, RisClear_ok hN hb, bO_s]
        cases clB pil p q <;> rfl
theorem RplaceOf_ok {a : Nat} {b : Nat → Int32} (ha : a < 8) : F_R_placeOf (nI a) b = some (b (80 + 4 * a)) := by
  unfold F_R_placeOf
  simp (disch := omega) only [k80, k4, nI_leI, nI_ltI, nI_eq, nI_1, nI_add, pk_mul, nI_clamp, gd_ix]
theorem RfaceOf_ok {a : Nat} {b : Nat → Int32} (ha : a < 8) : F_R_faceOf (nI a) b = some (b (80 + 4 * a + 1)) := by
  unfold F_R_faceOf
  simp (disch := omega) only [k80, k4, nI_leI, nI_ltI, nI_eq, nI_1, nI_add, pk_mul, nI_clamp, gd_ix]
theorem RareFacing_ok {N a c : Nat} {pil : Nat → Bool} {b : Nat → Int32} (hN : 100 ≤ N) (hb : ∀ k, k < 64 → b (10 + k) = bI (pil k)) (ha : a < 8) (hc : c < 8) : F_R_areFacing N (nI a) (nI c) b = some (bI (pcI pil (fun i => b (6 + i)) (fun w => b (80 + 4 * w)) (fun w => b (80 + 4 * w + 1)) false a c)) := by
  unfold F_R_areFacing
  rw [RplaceOf_ok ha, bO_s, RfaceOf_ok ha, bO_s, RplaceOf_ok hc, bO_s, RfaceOf_ok hc, bO_s, RareReading_ok hN hb, bO_s, nar_bI]
  rfl
theorem Rwatches_ok {N a c : Nat} {pil : Nat → Bool} {b : Nat → Int32} (hN : 100 ≤ N) (hb : ∀ k, k < 64 → b (10 + k) = bI (pil k)) (ha : a < 8) (hc : c < 8) : F_R_watches N (nI a) (nI c) b = some (bI (pcI pil (fun i => b (6 + i)) (fun w => b (80 + 4 * w)) (fun w => b (80 + 4 * w + 1)) true a c)) := by
  unfold F_R_watches
  rw [RplaceOf_ok ha, bO_s, RplaceOf_ok hc, bO_s, RfaceOf_ok ha, bO_s, RfaceOf_ok hc, bO_s, RisClear_ok hN hb, bO_s, toward_eq, toward_eq, square_eq]
  show _ = some (bI (wtI pil (b 7) (b (80 + 4 * a)) (b (80 + 4 * a + 1)) (b (80 + 4 * c)) (b (80 + 4 * c + 1))))
  unfold wtI
  by_cases h1 : F_Floor_goesBy (b (80 + 4 * a)) (b (80 + 4 * c)) (b (80 + 4 * a + 1)) ≤ 0
  · rw [if_pos h1, decide_eq_true h1]; rfl
  · rw [if_neg h1, decide_eq_false h1]
    by_cases h2 : F_Floor_goesBy (b (80 + 4 * c)) (b (80 + 4 * a)) (b (80 + 4 * c + 1)) < 0
    · rw [if_pos h2, decide_eq_true h2]; rfl
    · rw [if_neg h2, decide_eq_false h2]
      by_cases h3 : b 7 < sqI (b (80 + 4 * a)) (b (80 + 4 * c))
      · rw [if_pos h3, decide_eq_true h3]; rfl
      · rw [if_neg h3, decide_eq_false h3]
        cases clB pil (b (80 + 4 * a)) (b (80 + 4 * c)) <;> rfl
