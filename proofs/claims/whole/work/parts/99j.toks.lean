-- TOKENS
theorem swD {t a b : Nat} (ht : t < 2 ^ 31) (ha : a < 2 ^ 31) (hb : b < 2 ^ 31) : F_S_within (nI t) (nI a) (nI b) = bI (decide (a ≤ t ∧ t ≤ b)) := by
  rcases sw_cases (nI t) a b rfl rfl ha hb with ⟨e, h⟩ | ⟨e, j, h1, h2, h3⟩
  · rw [e, decide_eq_false (fun q => h ⟨t, q.1, q.2, rfl⟩)]
    rfl
  · have : t = j := (nI_eq ht (by omega)).mp h3
    rw [e, decide_eq_true (by omega)]
    rfl
theorem bI_if {α : Type} {p : Prop} [Decidable p] {x y : α} : (if bI (decide p) = (0 : Int32) then x else y) = (if p then y else x) := by
  by_cases h : p
  · rw [decide_eq_true h, if_neg (show ¬ bI true = (0 : Int32) by decide), if_pos h]
  · rw [decide_eq_false h, if_pos (show bI false = (0 : Int32) from rfl), if_neg h]
def TxC (n : Nat) (tx : Nat → Nat) (row : Nat → Int32) : Prop := n ≤ 240 ∧ ∀ i, i < n → tx i < 256 ∧ row i = nI (tx i)
theorem byteAt_ok {n i : Nat} {tx : Nat → Nat} {row : Nat → Int32} (h : TxC n tx row) (hi : i < 1000) : F_Text_byteAt (nI i) (nI n) row = some (if i < n then nI (tx i) else -1) := by
  have hn := h.1
  unfold F_Text_byteAt
  rw [if_neg (by simp (disch := omega) only [z0, nI_leI, nI_ltI, nI_eq, nI_1, nI_add, pk_mul, nI_clamp]; omega)]
  by_cases z : i < n
  · rw [if_neg (by simp (disch := omega) only [nI_leI, nI_ltI, nI_eq, nI_1, nI_add, pk_mul, nI_clamp]; omega), gd_ix (by omega) (by omega), nI_clamp (by omega), if_pos z, (h.2 i z).2]
  · rw [if_pos (by simp (disch := omega) only [nI_leI, nI_ltI, nI_eq, nI_1, nI_add, pk_mul, nI_clamp]; omega), if_neg z]
def IsRun (n : Nat) (tx : Nat → Nat) (lo hi i e : Nat) : Prop := i ≤ e ∧ (e ≤ n ∨ e = i) ∧ (∀ j, i ≤ j → j < e → lo ≤ tx j ∧ tx j ≤ hi) ∧ (e < n → ¬ (lo ≤ tx e ∧ tx e ≤ hi))
theorem run_ex (n : Nat) (tx : Nat → Nat) (lo hi : Nat) : ∀ (d i : Nat), n ≤ i + d → ∃ e, IsRun n tx lo hi i e := by
  intro d
  induction d with
  | zero => intro i h; exact ⟨i, Nat.le_refl _, Or.inr rfl, fun j _ _ => by omega, fun q => by omega⟩
  | succ d ih =>
    intro i h
    by_cases z : i < n ∧ lo ≤ tx i ∧ tx i ≤ hi
    · obtain ⟨e, h1, h2, h3, h4⟩ := ih (i + 1) (by omega)
      refine ⟨e, by omega, Or.inl (by omega), fun j hj1 hj2 => ?_, h4⟩
      by_cases q : j = i
      · rw [q]; exact z.2
      · exact h3 j (by omega) hj2
    · exact ⟨i, Nat.le_refl _, Or.inr rfl, fun j _ _ => by omega, fun q1 q2 => z ⟨q1, q2⟩⟩
theorem endOfRun_ok {N n lo hi i e : Nat} {tx : Nat → Nat} {row : Nat → Int32} (hN : 1000 ≤ N) (h : TxC n tx row) (hlo : lo < 1000) (hhi : hi < 1000) (hi2 : i < 500) (hr : IsRun n tx lo hi i e) : F_Text_endOfRun N (nI i) (nI lo) (nI hi) (nI n) row = some (nI e) := by
  have hn := h.1
  obtain ⟨r1, r2, r3, r4⟩ := hr
  have key : ∀ (d f j : Nat), j + d = e → i ≤ j → d < f → Text_endOfRun_L6 (nI n) row (nI lo) (nI hi) f (nI j) (nI j) = some (nI e) := by
    intro d
    induction d with
    | zero =>
      intro f j hj hij hf
      obtain ⟨f, rfl⟩ : ∃ z, f = z + 1 := ⟨f - 1, by omega⟩
      have hje : j = e := by omega
      subst hje
      rw [Text_endOfRun_L6]
      by_cases z : j < n
      · have ht := (h.2 j z).1
        rw [if_neg (by simp (disch := omega) only [nI_leI, nI_ltI, nI_eq, nI_1, nI_add, pk_mul, nI_clamp]; omega), byteAt_ok h (by omega), bO_s, if_pos z, swD (by omega) (by omega) (by omega), bI_if, if_neg (r4 z)]
      · rw [if_pos (by simp (disch := omega) only [nI_leI, nI_ltI, nI_eq, nI_1, nI_add, pk_mul, nI_clamp]; omega)]
    | succ d ih =>
      intro f j hj hij hf
      obtain ⟨f, rfl⟩ : ∃ z, f = z + 1 := ⟨f - 1, by omega⟩
      have z : j < n := by omega
      have ht := (h.2 j z).1
      rw [Text_endOfRun_L6, if_neg (by simp (disch := omega) only [nI_leI, nI_ltI, nI_eq, nI_1, nI_add, pk_mul, nI_clamp]; omega), byteAt_ok h (by omega), bO_s, if_pos z, swD (by omega) (by omega) (by omega), bI_if, if_pos (r3 j hij (by omega)), nI_1]
      exact ih f (j + 1) (by omega) (by omega) (by omega)
  unfold F_Text_endOfRun
  rw [key (e - i) N i (by omega) (Nat.le_refl _) (by omega), bO_s]
theorem isAt_ok {n lo hi i : Nat} {tx : Nat → Nat} {text : Nat → Int32} (h : TxC n tx text) (hlo : lo < 1000) (hhi : hi < 1000) (hi2 : i < 1000) : F_R_isAt (nI lo) (nI hi) (nI n) (nI i) text = some (bI (decide (i < n ∧ lo ≤ tx i ∧ tx i ≤ hi))) := by
  have hn := h.1
  unfold F_R_isAt
  by_cases z : i < n
  · have ht := h.2 i z
    rw [if_neg (by simp (disch := omega) only [nI_leI, nI_ltI, nI_eq, nI_1, nI_add, pk_mul, nI_clamp]; omega), gd_ix (by omega) (by omega), nI_clamp (by omega), in_sw, ht.2, swD (by omega) (by omega) (by omega), bI_if]
    by_cases q : lo ≤ tx i ∧ tx i ≤ hi
    · rw [if_pos q, decide_eq_true ⟨z, q⟩]; rfl
    · rw [if_neg q, decide_eq_false (fun t => q t.2)]; rfl
  · rw [if_pos (by simp (disch := omega) only [nI_leI, nI_ltI, nI_eq, nI_1, nI_add, pk_mul, nI_clamp]; omega), decide_eq_false (fun t => z t.1)]
    rfl
def nv (tx : Nat → Nat) (s : Nat) : Nat → Nat
  | 0 => 0
  | k + 1 => 10 * nv tx s k + (tx (s + k) - 48)
def bv (tx : Nat → Nat) (s : Nat) : Nat → Nat
  | 0 => 0
  | k + 1 => 32 * bv tx s k + (tx (s + k) - 96)
theorem nv_lt {tx : Nat → Nat} {s : Nat} : ∀ k, (∀ j, j < k → tx (s + j) ≤ 57) → nv tx s k < 10 ^ k := by
  intro k
  induction k with
  | zero => intro _; exact Nat.one_pos
  | succ k ih =>
    intro h
    have h1 := ih (fun j hj => h j (by omega))
    have h2 := h k (by omega)
    show 10 * nv tx s k + (tx (s + k) - 48) < _
    rw [Nat.pow_succ]
    omega
theorem bv_lt {tx : Nat → Nat} {s : Nat} : ∀ k, (∀ j, j < k → tx (s + j) ≤ 122) → bv tx s k < 32 ^ k := by
  intro k
  induction k with
  | zero => intro _; exact Nat.one_pos
  | succ k ih =>
    intro h
    have h1 := ih (fun j hj => h j (by omega))
    have h2 := h k (by omega)
    show 32 * bv tx s k + (tx (s + k) - 96) < _
    rw [Nat.pow_succ]
    omega
theorem bv_eq {tx ty : Nat → Nat} {s t : Nat} : ∀ (m l : Nat), (∀ j, j < m → 97 ≤ tx (s + j) ∧ tx (s + j) ≤ 122) → (∀ j, j < l → 97 ≤ ty (t + j) ∧ ty (t + j) ≤ 122) → (bv tx s m = bv ty t l ↔ m = l ∧ ∀ j, j < m → tx (s + j) = ty (t + j)) := by
  intro m
  induction m with
  | zero =>
    intro l hx hy
    cases l with
    | zero => exact ⟨fun _ => ⟨rfl, fun j hj => by omega⟩, fun _ => rfl⟩
    | succ l =>
      have := hy l (by omega)
      constructor
      · intro q
        have q' : 0 = 32 * bv ty t l + (ty (t + l) - 96) := q
        omega
      · intro q; exact absurd q.1 (by omega)
  | succ m ih =>
    intro l hx hy
    have h1 := hx m (by omega)
    cases l with
    | zero =>
      constructor
      · intro q
        have q' : 32 * bv tx s m + (tx (s + m) - 96) = 0 := q
        omega
      · intro q; exact absurd q.1 (by omega)
    | succ l =>
      have h2 := hy l (by omega)
      have hi := ih l (fun j hj => hx j (by omega)) (fun j hj => hy j (by omega))
      show 32 * bv tx s m + (tx (s + m) - 96) = 32 * bv ty t l + (ty (t + l) - 96) ↔ _
      constructor
      · intro q
        have q1 : bv tx s m = bv ty t l := by omega
        have q2 := hi.mp q1
        refine ⟨by omega, fun j hj => ?_⟩
        by_cases z : j = m
        · have q3 : tx (s + m) = ty (t + l) := by omega
          rw [z, q3, q2.1]
        · exact q2.2 j (by omega)
      · intro q
        have q1 := hi.mpr ⟨by omega, fun j hj => q.2 j (by omega)⟩
        have q2 := q.2 m (by omega)
        have : m = l := by omega
        rw [q1, q2, this]
-- the names
def nmL : Nat → List Nat := fun k => [[112, 105, 108, 108, 97, 114], [119, 101, 97, 118, 101, 114], [116, 101, 108, 108], [108, 111, 111, 107], [102, 97, 114], [119, 111, 114, 100], [108, 105, 107, 101]].getD k []
def nm (k j : Nat) : Nat := (nmL k).getD j 0
def kV (k : Nat) : Nat := bv (nm k) 0 (sLen k)
theorem nm_facts : ∀ k, k < 7 → 3 ≤ sLen k ∧ sLen k ≤ 6 ∧ (k = 0 → sLen k = 6) ∧ ∀ j, j < sLen k → sChar k j = nI (nm k j) ∧ 97 ≤ nm k (0 + j) ∧ nm k (0 + j) ≤ 122 := by decide +kernel
theorem kV_facts : kV 0 = 546713650 ∧ kV 1 = 777050290 ∧ kV 2 = 660876 ∧ kV 3 = 409067 ∧ kV 4 = 6194 ∧ kV 5 = 769604 ∧ kV 6 = 402789 := by decide +kernel
theorem nameOf_ok : ∀ k, k < 7 → F_Text_nameOf (nI k) = k := by decide +kernel
def kOf (v : Nat) : Nat := if v = kV 0 then 4 else if v = kV 1 then 5 else if v = kV 2 then 6 else if v = kV 3 then 7 else if v = kV 4 then 8 else if v = kV 5 then 9 else if v = kV 6 then 10 else 3
def ctok (c : Nat) : Int32 := if c = 0 then -1 else if c = 1 then -2 else if c = 2 then -3 else if c = 3 then -4 else nI (c - 4)
def rtok (c : Nat) : Int32 := if c = 0 then 0 else if c = 1 then 3 else if c = 2 then 2 else if c = 3 then 1 else nI (c + 6)
theorem spells_ok {N n s e k : Nat} {tx : Nat → Nat} {row : Nat → Int32} (hN : 1000 ≤ N) (h : TxC n tx row) (hk : k < 7) (hse : s ≤ e) (hen : e ≤ n) (hl : ∀ j, s ≤ j → j < e → 97 ≤ tx j ∧ tx j ≤ 122) : F_Text_tokenSpells N k (nI n) (nI e) (nI s) row = some (bI (decide (bv tx s (e - s) = kV k))) := by
  have hn := h.1
  obtain ⟨f1, f2, -, f3⟩ := nm_facts k hk
  have hbe := bv_eq (tx := tx) (ty := nm k) (s := s) (t := 0) (e - s) (sLen k) (fun j hj => hl (s + j) (by omega) (by omega)) (fun j hj => (f3 j hj).2)
  have hbe2 : (bv tx s (e - s) = kV k) ↔ (e - s = sLen k ∧ ∀ j, j < e - s → tx (s + j) = nm k (0 + j)) := hbe
  unfold F_Text_tokenSpells
  rw [pk_sub hse]
  by_cases z : e - s = sLen k
  · rw [if_pos (by rw [z])]
    have L := lpS (L := fun f j => Text_tokenSpells_L20 k (nI s) (nI n) row f (nI j)) (n := sLen k) (c := fun j => !(decide (tx (s + j) = nm k (0 + j)))) (r1 := (.inl (0 : Int32) : Int32 ⊕ Unit)) (r0 := .inr ()) ?_ ?_ ?_ N (by omega)
    · rw [show Text_tokenSpells_L20 k (nI s) (nI n) row N 0 = _ from L]
      by_cases q : aB (sLen k) (fun j => !(decide (tx (s + j) = nm k (0 + j)))) = true
      · rw [if_pos q, bT_l, decide_eq_false]
        · rfl
        · intro t
          obtain ⟨j, hj1, hj2⟩ := aB_t.mp q
          have := (hbe2.mp t).2 j (by omega)
          rw [decide_eq_true this] at hj2
          exact absurd hj2 (by decide)
      · rw [if_neg q, bT_r, decide_eq_true]
        · rfl
        · apply hbe2.mpr
          refine ⟨z, fun j hj => ?_⟩
          have := aB_f.mp (by simpa using q) j (by omega)
          exact of_decide_eq_true (by simpa using this)
    · intro f j hj hc
      have hz : s + j < n := by omega
      have ht := (h.2 (s + j) hz).1
      have hcj := (f3 j hj)
      have e1 : tx (s + j) = nm k j := by
        have := of_decide_eq_true (by simpa using hc : decide (tx (s + j) = nm k (0 + j)) = true)
        rw [Nat.zero_add] at this; exact this
      show Text_tokenSpells_L20 k (nI s) (nI n) row (f + 1) (nI j) = _
      rw [Text_tokenSpells_L20, if_neg (by simp (disch := omega) only [nI_leI, nI_ltI, nI_eq, nI_1, nI_add, pk_mul, nI_clamp]; omega), nI_add, byteAt_ok h (by omega), bO_s, if_pos hz, gd_ix hj (by omega), nI_clamp (by omega), hcj.1, if_pos (by rw [e1]), nI_1]
    · intro f j hj hc
      have hz : s + j < n := by omega
      have ht := (h.2 (s + j) hz).1
      have hcj := (f3 j hj)
      have e1 : ¬ tx (s + j) = nm k j := by
        have := of_decide_eq_false (by simpa using hc : decide (tx (s + j) = nm k (0 + j)) = false)
        rw [Nat.zero_add] at this; exact this
      have hb := hcj.2
      rw [Nat.zero_add] at hb
      show Text_tokenSpells_L20 k (nI s) (nI n) row (f + 1) (nI j) = _
      rw [Text_tokenSpells_L20, if_neg (by simp (disch := omega) only [nI_leI, nI_ltI, nI_eq, nI_1, nI_add, pk_mul, nI_clamp]; omega), nI_add, byteAt_ok h (by omega), bO_s, if_pos hz, gd_ix hj (by omega), nI_clamp (by omega), hcj.1, if_neg (by simp (disch := omega) only [nI_leI, nI_ltI, nI_eq, nI_1, nI_add, pk_mul, nI_clamp]; omega)]
    · intro f
      show Text_tokenSpells_L20 k (nI s) (nI n) row (f + 1) (nI (sLen k)) = _
      rw [Text_tokenSpells_L20, if_pos (by simp (disch := omega) only [nI_leI, nI_ltI, nI_eq, nI_1, nI_add, pk_mul, nI_clamp]; omega)]
  · rw [if_neg (by simp (disch := omega) only [nI_leI, nI_ltI, nI_eq, nI_1, nI_add, pk_mul, nI_clamp]; omega), decide_eq_false (fun t => z (hbe2.mp t).1)]
    rfl
theorem kindNamed_ok {N n s e : Nat} {tx : Nat → Nat} {row : Nat → Int32} (hN : 1000 ≤ N) (h : TxC n tx row) (hse : s ≤ e) (hen : e ≤ n) (hl : ∀ j, s ≤ j → j < e → 97 ≤ tx j ∧ tx j ≤ 122) : F_Text_kindNamed N (nI n) (nI e) (nI s) row = some (ctok (kOf (bv tx s (e - s)))) := by
  have st : ∀ f k, k < 7 → Text_kindNamed_L2 N (nI n) (nI e) (nI s) row (f + 1) (nI k) = (if bv tx s (e - s) = kV k then some (.inl (nI k)) else Text_kindNamed_L2 N (nI n) (nI e) (nI s) row f (nI (k + 1))) := by
    intro f k hk
    rw [Text_kindNamed_L2, if_neg (by simp (disch := omega) only [k6, nI_leI, nI_ltI, nI_eq, nI_1, nI_add, pk_mul, nI_clamp]; omega), nameOf_ok k hk, spells_ok hN h hk hse hen hl, bO_s, bI_if, nI_1]
  obtain ⟨f, rfl⟩ : ∃ f, N = f + 1 + 1 + 1 + 1 + 1 + 1 + 1 + 1 := ⟨N - 8, by omega⟩
  unfold F_Text_kindNamed kOf
  generalize bv tx s (e - s) = v at *
  have s0 := fun f => st f 0 (by omega)
  rw [show (0 : Int32) = nI 0 from rfl, st _ 0 (by omega), st _ 1 (by omega), st _ 2 (by omega), st _ 3 (by omega), st _ 4 (by omega), st _ 5 (by omega), st _ 6 (by omega), Text_kindNamed_L2, if_pos (show (6 : Int32) < nI (6 + 1) by decide)]
  by_cases z0 : v = kV 0
  · rw [if_pos z0, if_pos z0]; rfl
  rw [if_neg z0, if_neg z0]
  by_cases z1 : v = kV 1
  · rw [if_pos z1, if_pos z1]; rfl
  rw [if_neg z1, if_neg z1]
  by_cases z2 : v = kV 2
  · rw [if_pos z2, if_pos z2]; rfl
  rw [if_neg z2, if_neg z2]
  by_cases z3 : v = kV 3
  · rw [if_pos z3, if_pos z3]; rfl
  rw [if_neg z3, if_neg z3]
  by_cases z4 : v = kV 4
  · rw [if_pos z4, if_pos z4]; rfl
  rw [if_neg z4, if_neg z4]
  by_cases z5 : v = kV 5
  · rw [if_pos z5, if_pos z5]; rfl
  rw [if_neg z5, if_neg z5]
  by_cases z6 : v = kV 6
  · rw [if_pos z6, if_pos z6]; rfl
  rw [if_neg z6, if_neg z6]
  rfl
theorem wordOf_ok {v : Nat} (hv : v < 2 ^ 62) : F_R_wordOf (lN v) = rtok (kOf v) := by
  obtain ⟨q0, q1, q2, q3, q4, q5, q6⟩ := kV_facts
  have ek : ∀ K : Nat, K < 2 ^ 62 → (lg_cmp (lN v) (lN K) = (0 : Int32) ↔ v = K) := fun K hK => by rw [lg_cmp_eq, pk_lEQ (by omega) (by omega)]
  unfold F_R_wordOf kOf
  rw [q0, q1, q2, q3, q4, q5, q6]
  rw [show (546713650 : Int64) = lN 546713650 from rfl, show (777050290 : Int64) = lN 777050290 from rfl, show (660876 : Int64) = lN 660876 from rfl, show (409067 : Int64) = lN 409067 from rfl, show (6194 : Int64) = lN 6194 from rfl, show (769604 : Int64) = lN 769604 from rfl, show (402789 : Int64) = lN 402789 from rfl]
  simp only [ek 546713650 (by decide), ek 777050290 (by decide), ek 660876 (by decide), ek 409067 (by decide), ek 6194 (by decide), ek 769604 (by decide), ek 402789 (by decide)]
  by_cases z0 : v = 546713650
  · rw [if_pos z0, if_pos z0]; rfl
  rw [if_neg z0, if_neg z0]
  by_cases z1 : v = 777050290
  · rw [if_pos z1, if_pos z1]; rfl
  rw [if_neg z1, if_neg z1]
  by_cases z2 : v = 660876
  · rw [if_pos z2, if_pos z2]; rfl
  rw [if_neg z2, if_neg z2]
  by_cases z3 : v = 409067
  · rw [if_pos z3, if_pos z3]; rfl
  rw [if_neg z3, if_neg z3]
  by_cases z4 : v = 6194
  · rw [if_pos z4, if_pos z4]; rfl
  rw [if_neg z4, if_neg z4]
  by_cases z5 : v = 769604
  · rw [if_pos z5, if_pos z5]; rfl
  rw [if_neg z5, if_neg z5]
  by_cases z6 : v = 402789
  · rw [if_pos z6, if_pos z6]; rfl
  rw [if_neg z6, if_neg z6]
  rfl
