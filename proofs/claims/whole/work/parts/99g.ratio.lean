-- THE TWO CHANCES ARE ONE
variable {N n cl : Nat} {ln nu wt ll : Nat → Nat} {length weight least lipsOf b : Nat → Int32}
theorem frac_eq {c x r y : Nat} (h : c * y = r * x) (hx : 0 < x) (hy : 0 < y) : c / Nat.gcd c x = r / Nat.gcd r y ∧ x / Nat.gcd c x = y / Nat.gcd r y := by
  have e1 : Nat.gcd (c * y) (x * y) = Nat.gcd c x * y := Nat.gcd_mul_right c y x
  have e2 : Nat.gcd (r * x) (y * x) = Nat.gcd r y * x := Nat.gcd_mul_right r x y
  have e3 : Nat.gcd c x * y = Nat.gcd r y * x := by rw [← e1, ← e2, h, Nat.mul_comm x y]
  constructor
  · rw [← Nat.mul_div_mul_right c (Nat.gcd c x) hy, e3, h, Nat.mul_div_mul_right r (Nat.gcd r y) hx]
  · rw [← Nat.mul_div_mul_right x (Nat.gcd c x) hy, e3, Nat.mul_comm x y, Nat.mul_div_mul_right y (Nat.gcd r y) hx]
theorem Sm_pB {pt : Nat → Nat} {x : Nat} (hx : Sm x) : ∀ n, (∀ i, i < n → 1 ≤ pt i ∧ pt i ≤ 180) → Sm (pB n pt * x) := by
  intro n
  induction n with
  | zero => intro _; show Sm (1 * x); rw [Nat.one_mul]; exact hx
  | succ n ih =>
    intro h
    rw [pB_s, Nat.mul_comm (pB n pt), Nat.mul_assoc]
    exact Sm_mul (h n (by omega)).1 (h n (by omega)).2 (ih (fun i hi => h i (by omega)))
theorem Sm_pow {pt : Nat → Nat} {n : Nat} (h : ∀ i, i < n → 1 ≤ pt i ∧ pt i ≤ 180) : ∀ k, Sm (pB n pt ^ k) := by
  intro k
  induction k with
  | zero => exact Sm_1
  | succ k ih => rw [Nat.pow_succ, Nat.mul_comm]; exact Sm_pB ih n h
def itC (L : Nat) (tot : Nat → Nat) (h : Nat → Nat → Nat) (n p : Nat) : Nat → Nat → Nat
  | 0 => fun a => if a = p then 1 else 0
  | k + 1 => onC L tot (itC L tot h n p k) h n
def itR (ps : Nat → Nat) (h : Nat → Nat → Nat) (n p : Nat) : Nat → Nat → Nat
  | 0 => fun a => if a = p then 1 else 0
  | k + 1 => onR ps (itR ps h n p k) h n
theorem ind_lt (a p : Nat) : (if a = p then 1 else 0) < 2 ^ (85 * 0 + 1) := by split <;> decide
theorem itC_lt {L n p : Nat} {tot : Nat → Nat} {h : Nat → Nat → Nat} (hn : n ≤ 10) (hL : L < 2 ^ 75) (hh : ∀ a c, a < n → c < n → h a c ≤ 99) : ∀ k a, a < n → itC L tot h n p k a < 2 ^ (85 * k + 1) := by
  intro k
  induction k with
  | zero => intro a _; exact ind_lt a p
  | succ k ih =>
    intro a ha
    have := onC_lt (tot := tot) hn (Nat.le_refl n) ha hL ih hh
    rw [show 85 * (k + 1) + 1 = 85 + (85 * k + 1) by omega]
    exact this
theorem itR_lt {n p : Nat} {ps : Nat → Nat} {h : Nat → Nat → Nat} (hn : n ≤ 10) (hL : ∀ a, a < n → ps a < 2 ^ 75) (hh : ∀ a c, a < n → c < n → h a c ≤ 99) : ∀ k a, a < n → itR ps h n p k a < 2 ^ (85 * k + 1) := by
  intro k
  induction k with
  | zero => intro a _; exact ind_lt a p
  | succ k ih =>
    intro a ha
    have := onR_lt hn (Nat.le_refl n) ha hL ih hh
    rw [show 85 * (k + 1) + 1 = 85 + (85 * k + 1) by omega]
    exact this
theorem pow_lt75 {L : Nat} (hL : L < 2 ^ 75) : ∀ k, L ^ k < 2 ^ (85 * k + 1) := by
  intro k
  induction k with
  | zero => rw [Nat.pow_zero]; decide
  | succ k ih =>
    rw [Nat.pow_succ, show 85 * (k + 1) + 1 = (85 * k + 1) + 85 by omega, Nat.pow_add]
    exact Nat.mul_lt_mul_of_lt_of_le ih (Nat.le_trans (Nat.le_of_lt hL) (by decide)) (Nat.two_pow_pos _)
theorem sB_ind {k a : Nat} : ∀ n, sB n (fun c => if c = a then k else 0) ≤ k := by
  intro n
  have key : ∀ n, sB n (fun c => if c = a then k else 0) = if a < n then k else 0 := by
    intro n
    induction n with
    | zero => rfl
    | succ n ih =>
      rw [sB_s, ih]
      by_cases z : n = a
      · rw [if_neg (by omega), if_pos z, if_pos (by omega), Nat.zero_add]
      · rw [if_neg z]
        by_cases z2 : a < n
        · rw [if_pos z2, if_pos (by omega), Nat.add_zero]
        · rw [if_neg z2, if_neg (by omega)]
  rw [key]
  split <;> omega
theorem sum_he (h : LxR n ln nu wt ll b) (h1 : 1 ≤ cl) (hcl : cl ≤ 99) {a : Nat} (ha : a < n) : 1 ≤ sB n (he ln nu wt ll cl a) ∧ sB n (he ln nu wt ll cl a) ≤ 180 := by
  have hn := h.1
  constructor
  · have := sB_ge (f := he ln nu wt ll cl a) ha
    have e : he ln nu wt ll cl a a = cl := by unfold he; rw [if_pos rfl, if_pos rfl]
    omega
  · have h2 : ∀ c, c < n → he ln nu wt ll cl a c ≤ (fun _ => 9) c + (fun c => if c = a then 90 else 0) c := by
      intro c hc
      have hw := (h.2.2.2.2.1 c hc).2.1
      have hd := Nat.div_le_self (wt c) (2 ^ unD ln nu ll a c)
      unfold he
      dsimp only
      by_cases z : c = a
      · rw [if_pos z]
        split
        · split <;> omega
        · omega
      · rw [if_neg z, if_neg (fun q : a = c => z q.symm)]
        split <;> omega
    have h3 := sB_le2 h2
    rw [sB_add] at h3
    have h4 := sB_ind (k := 90) (a := a) n
    have h5 := sB_le (n := n) (f := fun _ => 9) (k := 9) (fun _ _ => Nat.le_refl 9)
    omega
theorem pB_out {x a : Nat} {g : Nat → Nat} : ∀ {n : Nat}, a < n → pB n (fun i => if i = a then x else g i) = x * pB n (fun i => if i = a then 1 else g i) := by
  intro n
  induction n with
  | zero => intro h; omega
  | succ n ih =>
    intro h
    rw [pB_s, pB_s]
    by_cases z : n = a
    · rw [if_pos z, if_pos z, Nat.mul_one, Nat.mul_comm]
      congr 1
      exact pB_cong (fun i hi => by rw [if_neg (by omega), if_neg (by omega)])
    · rw [if_neg z, if_neg z, ih (by omega), Nat.mul_assoc]
theorem aS_out {s : Nat → Nat} {p a : Nat} (ha : a < n) (hl : ln a = ln p) : pB n (aS ln s p) = s a * pB n (oS ln s p a) := by
  have e : pB n (aS ln s p) = pB n (fun i => if i = a then s a else if ln i = ln p then s i else 1) := by
    apply pB_cong
    intro i _
    unfold aS
    by_cases z : i = a
    · rw [if_pos z, z, if_pos hl]
    · rw [if_neg z]
  rw [e, pB_out ha]
  rfl
theorem ratio_ok {L p : Nat} {s : Nat → Nat} (hL : ∀ a, a < n → (if ln a = ln p then s a else 1) ∣ L) : ∀ k, (∀ a, a < n → ln a ≠ ln p → itC L (fun a => if ln a = ln p then s a else 1) (he ln nu wt ll cl) n p k a = 0 ∧ itR (fun a => pB n (oS ln s p a)) (he ln nu wt ll cl) n p k a = 0) ∧
    ∀ c, c < n → itC L (fun a => if ln a = ln p then s a else 1) (he ln nu wt ll cl) n p k c * pB n (aS ln s p) ^ k = itR (fun a => pB n (oS ln s p a)) (he ln nu wt ll cl) n p k c * L ^ k := by
  intro k
  induction k with
  | zero =>
    refine ⟨fun a ha hl => ?_, fun c hc => by rw [Nat.pow_zero, Nat.pow_zero]; rfl⟩
    have : a ≠ p := fun q => hl (by rw [q])
    exact ⟨if_neg this, if_neg this⟩
  | succ k ih =>
    obtain ⟨i1, i2⟩ := ih
    refine ⟨fun c hc hl => ⟨?_, ?_⟩, fun c hc => ?_⟩
    · show onC _ _ _ _ n c = 0
      unfold onC
      apply sB_zero
      intro a ha
      by_cases z : ln a = ln c
      · rw [(i1 a ha (by rw [z]; exact hl)).1, Nat.mul_zero, Nat.zero_div, Nat.mul_zero]
      · unfold he
        rw [if_neg z, Nat.zero_mul]
    · show onR _ _ _ n c = 0
      unfold onR
      apply sB_zero
      intro a ha
      dsimp only
      by_cases z : ln a = ln c
      · rw [(i1 a ha (by rw [z]; exact hl)).2, Nat.mul_zero, Nat.mul_zero]
      · unfold he
        rw [if_neg z, Nat.zero_mul, Nat.mul_zero]
    · show onC _ _ _ _ n c * _ = onR _ _ _ n c * _
      unfold onC onR
      rw [Nat.mul_comm, sB_mul, Nat.mul_comm (sB n _), sB_mul]
      apply sB_cong
      intro a ha
      dsimp only
      by_cases z : ln a = ln p
      · obtain ⟨q, hq⟩ := hL a ha
        rw [if_pos z] at hq ⊢
        have hr := i2 a ha
        generalize itC L (fun a => if ln a = ln p then s a else 1) (he ln nu wt ll cl) n p k a = x at *
        generalize itR (fun a => pB n (oS ln s p a)) (he ln nu wt ll cl) n p k a = y at *
        rw [aS_out ha z] at hr ⊢
        generalize pB n (oS ln s p a) = A at *
        generalize he ln nu wt ll cl a c = H at *
        rw [Nat.pow_succ, Nat.pow_succ]
        by_cases hs : s a = 0
        · rw [hs, Nat.zero_mul, Nat.mul_zero, Nat.zero_mul]
          have : L = 0 := by rw [hq, hs, Nat.zero_mul]
          rw [this, Nat.mul_zero, Nat.zero_mul]
        · have e : L * x / s a = q * x := by
            rw [hq, Nat.mul_assoc, Nat.mul_div_cancel_left _ (by omega)]
          rw [e]
          generalize (s a * A) ^ k = P at *
          generalize L ^ k = Q at *
          rw [hq]
          have : x * P * (s a * q * A * H) = y * Q * (s a * q * A * H) := by rw [hr]
          grind
      · rw [(i1 a ha z).1, (i1 a ha z).2]
        simp
