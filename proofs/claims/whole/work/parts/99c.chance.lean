-- HEARINGS
variable {N n cl : Nat} {ln nu wt ll : Nat → Nat} {length weight least lipsOf b : Nat → Int32}
def he (ln nu wt ll : Nat → Nat) (cl a c : Nat) : Nat := if ln a = ln c then (if a = c then cl else wt c / 2 ^ unD ln nu ll a c) else 0
theorem vu_s {α : Type} {f : Nat → α} {k : Nat} {v : α} : va_up f k v k = v := if_pos rfl
theorem vu_n {α : Type} {f : Nat → α} {k j : Nat} {v : α} (h : j ≠ k) : va_up f k v j = f j := if_neg h
theorem he_le (hcl : cl ≤ 99) {a c : Nat} (hw : wt c ≤ 9) : he ln nu wt ll cl a c ≤ 99 := by
  unfold he
  have := Nat.div_le_self (wt c) (2 ^ unD ln nu ll a c)
  split
  · split <;> omega
  · omega
theorem Rhearing_ok (hN : 100 ≤ N) (h : LxR n ln nu wt ll b) (h8 : b 8 = nI cl) {a c : Nat} (ha : a < n) (hc : c < n) : F_R_hearing N (nI a) (nI c) b = some (nI (he ln nu wt ll cl a c)) := by
  have hn := h.1
  have l1 := (h.2.2.1 a ha).2.1
  have l2 := (h.2.2.1 c hc).2.1
  have hw := (h.2.2.2.2.1 c hc).2.1
  have hu : unD ln nu ll a c ≤ ln a := unD_le
  unfold F_R_hearing he
  rw [RlengthOf_ok h ha, bO_s, RlengthOf_ok h hc, bO_s]
  by_cases z : ln a = ln c
  · rw [if_pos (by rw [z]), if_pos z]
    by_cases z2 : a = c
    · rw [if_pos (by rw [z2]), if_pos z2, h8]
    · rw [if_neg (by simp (disch := omega) only [nI_leI, nI_ltI, nI_eq, nI_1, nI_add, pk_mul, nI_clamp]; omega), if_neg z2, RweightOf_ok h hc, bO_s, Runlike_ok hN h ha hc z, bO_s, jshrN (by omega) (by omega)]
  · rw [if_neg (by simp (disch := omega) only [nI_leI, nI_ltI, nI_eq, nI_1, nI_add, pk_mul, nI_clamp]; omega), if_neg z]
    rfl
/-- one row of what is heard -/
theorem say31_ok (hN : 100 ≤ N) (h : LxC n ln nu wt ll length weight least lipsOf) {w : Nat} (hw : w < n) {hA : Nat → Nat → Int32} {tt : Nat → Int32} (ht : tt w = 0) : ∃ (r : (Nat → Nat → Int32) × (Nat → Int32)), Chances_say_L31 N (nI n) length (nI w) least lipsOf weight (nI cl) N 0 hA tt = some r ∧ (∀ c, c < n → r.1 w c = nI (he ln nu wt ll cl w c)) ∧ r.2 w = nI (sB n (he ln nu wt ll cl w)) ∧ ∀ a, a ≠ w → r.1 a = hA a ∧ r.2 a = tt a := by
  have hn := h.1
  have := lpI (L := fun f j (s : (Nat → Nat → Int32) × (Nat → Int32)) => Chances_say_L31 N (nI n) length (nI w) least lipsOf weight (nI cl) f (nI j) s.1 s.2) (n := n)
    (fun j r => (∀ c, c < j → r.1 w c = nI (he ln nu wt ll cl w c)) ∧ r.2 w = nI (sB j (he ln nu wt ll cl w)) ∧ ∀ a, a ≠ w → r.1 a = hA a ∧ r.2 a = tt a)
    (fun r => (∀ c, c < n → r.1 w c = nI (he ln nu wt ll cl w c)) ∧ r.2 w = nI (sB n (he ln nu wt ll cl w)) ∧ ∀ a, a ≠ w → r.1 a = hA a ∧ r.2 a = tt a) ?_ ?_ n N 0 (hA, tt) (by omega) (by omega) ⟨fun i hi => by omega, ht, fun a _ => ⟨rfl, rfl⟩⟩
  · exact this
  · intro f j s hj hi
    right
    have l1 := (h.2.1 w hw).2
    have l2 := (h.2.1 j hj).2
    have hwt := (h.2.2.1 j hj).2
    have hu : unD ln nu ll w j ≤ ln w := unD_le
    have y0 : (if length w = length j then some (1 : Int32) else some 0) = some (bI (decide (ln w = ln j))) := by
      rw [l1.2, l2.2]
      by_cases z : ln w = ln j
      · rw [if_pos (by rw [z]), decide_eq_true z]; rfl
      · rw [if_neg (by simp (disch := omega) only [nI_leI, nI_ltI, nI_eq, nI_1, nI_add, pk_mul, nI_clamp]; omega), decide_eq_false z]; rfl
    have y2 : (if bI (decide (ln w = ln j)) = (0 : Int32) then some (0 : Int32) else bO (F_Lexicon_unlikeLips N (nI w) (nI j) length least lipsOf) (fun r90 => some (jshr (weight j) r90))) = some (nI (if ln w = ln j then wt j / 2 ^ unD ln nu ll w j else 0)) := by
      by_cases z : ln w = ln j
      · rw [decide_eq_true z, if_neg (show ¬ bI true = (0 : Int32) by decide), unlike_ok hN h hw hj z, bO_s, if_pos z, hwt.2, jshrN (by omega) (by omega)]
      · rw [decide_eq_false z, if_pos (show bI false = (0 : Int32) from rfl), if_neg z]; rfl
    obtain ⟨x, hx⟩ : ∃ x : Nat, x = if ln w = ln j then wt j / 2 ^ unD ln nu ll w j else 0 := ⟨_, rfl⟩
    rw [← hx] at y2
    have e3 : ∃ hA' : Nat → Nat → Int32, (if nI j = nI w then some (va_up (va_up s.1 w (upd (s.1 w) j (nI x))) w (upd ((va_up s.1 w (upd (s.1 w) j (nI x))) w) j (nI cl))) else some (va_up s.1 w (upd (s.1 w) j (nI x)))) = some hA' ∧ hA' w j = nI (he ln nu wt ll cl w j) ∧ (∀ c, c ≠ j → hA' w c = s.1 w c) ∧ ∀ a, a ≠ w → hA' a = s.1 a := by
      by_cases z : w = j
      · refine ⟨_, if_pos (by rw [z]), ?_, fun c hc => ?_, fun a ha => ?_⟩
        · rw [vu_s, pk_us]
          unfold he
          rw [if_pos (by rw [z]), if_pos z]
        · rw [vu_s, pk_un hc, vu_s, pk_un hc]
        · rw [vu_n ha, vu_n ha]
      · refine ⟨_, if_neg (by simp (disch := omega) only [nI_leI, nI_ltI, nI_eq, nI_1, nI_add, pk_mul, nI_clamp]; omega), ?_, fun c hc => ?_, fun a ha => ?_⟩
        · rw [vu_s, pk_us, hx]
          unfold he
          rw [if_neg z]
        · rw [vu_s, pk_un hc]
        · rw [vu_n ha]
    obtain ⟨hA', e4, e5, e6, e7⟩ := e3
    refine ⟨(hA', upd s.2 w (nI (sB (j + 1) (he ln nu wt ll cl w)))), ?_, fun c hc => ?_, pk_us, fun a ha => ⟨(e7 a ha).trans (hi.2.2 a ha).1, (pk_un ha).trans (hi.2.2 a ha).2⟩⟩
    · show Chances_say_L31 N (nI n) length (nI w) least lipsOf weight (nI cl) (f + 1) (nI j) s.1 s.2 = _
      rw [Chances_say_L31, if_neg (by simp (disch := omega) only [nI_leI, nI_ltI, nI_eq, nI_1, nI_add, pk_mul, nI_clamp]; omega), gd_ix (by omega) (by omega), nI_clamp (show w < 2 ^ 31 by omega), nI_clamp (show j < 2 ^ 31 by omega), y0, bO_s, y2, bO_s, e4, bO_s, e5, hi.2.1, nI_add, nI_1]
      rfl
    · by_cases z : c = j
      · rw [z]; exact e5
      · exact (e6 c z).trans (hi.1 c (by omega))
  · intro f s hi
    refine ⟨s, ?_, hi⟩
    show Chances_say_L31 N (nI n) length (nI w) least lipsOf weight (nI cl) (f + 1) (nI n) s.1 s.2 = _
    rw [Chances_say_L31, if_pos (by simp (disch := omega) only [nI_leI, nI_ltI, nI_eq, nI_1, nI_add, pk_mul, nI_clamp]; omega)]
/-- a family of numbers -/
def FN (limb : Nat → Nat → Int32) (limbs : Nat → Int32) (n : Nat) (cc : Nat → Nat) : Prop := ∀ a, a < n → CN (limb a) (limbs a) (cc a)
def toA (ln nu wt ll : Nat → Nat) (n cl p a : Nat) : Nat := if ln a = ln p then sB n (he ln nu wt ll cl a) else 1
theorem sayL11_ok (hN : 100 ≤ N) (h : LxC n ln nu wt ll length weight least lipsOf) {p : Nat} (hp : p < n) (hA : Nat → Nat → Int32) (tt : Nat → Int32) (cs : Nat → Int32) (cb : Nat → Nat → Int32) :
    ∃ (r : (Nat → Nat → Int32) × (Nat → Int32) × (Nat → Int32) × (Nat → Nat → Int32)), Chances_say_L11 N (nI n) length least lipsOf weight (nI cl) (nI p) N 0 hA tt cs cb = some r ∧ (∀ a c, a < n → c < n → r.1 a c = nI (he ln nu wt ll cl a c)) ∧ (∀ a, a < n → r.2.1 a = nI (toA ln nu wt ll n cl p a)) ∧ FN r.2.2.2 r.2.2.1 n (fun a => if a = p then 1 else 0) := by
  have hn := h.1
  have := lpI (L := fun f j (s : (Nat → Nat → Int32) × (Nat → Int32) × (Nat → Int32) × (Nat → Nat → Int32)) => Chances_say_L11 N (nI n) length least lipsOf weight (nI cl) (nI p) f (nI j) s.1 s.2.1 s.2.2.1 s.2.2.2) (n := n)
    (fun j r => (∀ a c, a < j → c < n → r.1 a c = nI (he ln nu wt ll cl a c)) ∧ (∀ a, a < j → r.2.1 a = nI (toA ln nu wt ll n cl p a)) ∧ FN r.2.2.2 r.2.2.1 j (fun a => if a = p then 1 else 0))
    (fun r => (∀ a c, a < n → c < n → r.1 a c = nI (he ln nu wt ll cl a c)) ∧ (∀ a, a < n → r.2.1 a = nI (toA ln nu wt ll n cl p a)) ∧ FN r.2.2.2 r.2.2.1 n (fun a => if a = p then 1 else 0)) ?_ ?_ n N 0 (hA, tt, cs, cb) (by omega) (by omega) ⟨fun a c ha => by omega, fun a ha => by omega, fun a ha => by omega⟩
  · exact this
  · intro f j s hj hi
    right
    obtain ⟨⟨hA1, tt1⟩, e1, e2, e3, e4⟩ := say31_ok (cl := cl) hN h hj (hA := s.1) (tt := upd s.2.1 j 0) pk_us
    dsimp only at e2 e3 e4
    have l1 := (h.2.1 j hj).2
    have l2 := (h.2.1 p hp).2
    have y1 : ∃ tt2 : Nat → Int32, (if length j = length p then some tt1 else some (upd tt1 j 1)) = some tt2 ∧ tt2 j = nI (toA ln nu wt ll n cl p j) ∧ ∀ a, a ≠ j → tt2 a = s.2.1 a := by
      rw [l1.2, l2.2]
      unfold toA
      by_cases z : ln j = ln p
      · exact ⟨tt1, if_pos (by rw [z]), by rw [if_pos z]; exact e3, fun a ha => (e4 a ha).2.trans (pk_un ha)⟩
      · exact ⟨upd tt1 j 1, if_neg (by simp (disch := omega) only [nI_leI, nI_ltI, nI_eq, nI_1, nI_add, pk_mul, nI_clamp]; omega), by rw [if_neg z, pk_us]; rfl, fun a ha => (pk_un ha).trans ((e4 a ha).2.trans (pk_un ha))⟩
    obtain ⟨tt2, f1, f2, f3⟩ := y1
    have y2 : ∃ z : Int32, (if nI j = nI p then some (1 : Int32) else some 0) = some z ∧ F_S_oneIf z = nI (if j = p then 1 else 0) := by
      by_cases z : j = p
      · exact ⟨1, if_pos (by rw [z]), by rw [if_pos z]; decide⟩
      · exact ⟨0, if_neg (by simp (disch := omega) only [nI_leI, nI_ltI, nI_eq, nI_1, nI_add, pk_mul, nI_clamp]; omega), by rw [if_neg z]; decide⟩
    obtain ⟨z, g1, g2⟩ := y2
    obtain ⟨l', b', p1, p2⟩ := put_ok (limb := s.2.2.2 j) (v := if j = p then 1 else 0) (by split <;> omega)
    refine ⟨(hA1, tt2, va_up s.2.2.1 j l', va_up s.2.2.2 j b'), ?_, fun a c ha hc => ?_, fun a ha => ?_, fun a ha => ?_⟩
    · show Chances_say_L11 N (nI n) length least lipsOf weight (nI cl) (nI p) (f + 1) (nI j) s.1 s.2.1 s.2.2.1 s.2.2.2 = _
      rw [Chances_say_L11, if_neg (by simp (disch := omega) only [nI_leI, nI_ltI, nI_eq, nI_1, nI_add, pk_mul, nI_clamp]; omega), gd_ix (by omega) (by omega), nI_clamp (show j < 2 ^ 31 by omega), nI_clamp (show p < 2 ^ 31 by omega), e1, bO_s]
      show gd (ixb (nI p) 10) (bO (if length j = length p then some tt1 else some (upd tt1 j 1)) _) = _
      rw [gd_ix (by omega) (by omega), f1, bO_s, g1, bO_s, g2, p1, bO_s, nI_1]
      rfl
    · by_cases z : a = j
      · rw [z]; exact e2 c hc
      · show hA1 a c = _
        rw [(e4 a z).1]; exact hi.1 a c (by omega) hc
    · by_cases z : a = j
      · rw [z]; exact f2
      · exact (f3 a z).trans (hi.2.1 a (by omega))
    · by_cases z : a = j
      · rw [z]
        show CN (va_up s.2.2.2 j b' j) (va_up s.2.2.1 j l' j) _
        rw [vu_s, vu_s]
        exact p2
      · show CN (va_up s.2.2.2 j b' a) (va_up s.2.2.1 j l' a) _
        rw [vu_n z, vu_n z]
        exact hi.2.2 a (by omega)
  · intro f s hi
    refine ⟨s, ?_, hi⟩
    show Chances_say_L11 N (nI n) length least lipsOf weight (nI cl) (nI p) (f + 1) (nI n) s.1 s.2.1 s.2.2.1 s.2.2.2 = _
    rw [Chances_say_L11, if_pos (by simp (disch := omega) only [nI_leI, nI_ltI, nI_eq, nI_1, nI_add, pk_mul, nI_clamp]; omega)]
