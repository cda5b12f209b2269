-- PURE WORDS: what the functions F_.. are made of
def gd {α : Type} (b : Bool) (k : Option α) : Option α := if b = true then k else none
def ixb (i : Int32) (n : Nat) : Bool := decide (0 ≤ i) && decide (i.toNatClampNeg < n)
def nz (y : Int32) : Bool := !(decide (y = 0))
def nzL (y : Int64) : Bool := !(decide (y = 0))
def cpb (sp dp n : Int32) (la lb : Nat) : Bool := decide (0 ≤ sp) && (decide (0 ≤ dp) && (decide (0 ≤ n) && (decide (sp.toNatClampNeg + n.toNatClampNeg ≤ la) && decide (dp.toNatClampNeg + n.toNatClampNeg ≤ lb))))
def jrem (x y : Int32) : Int32 := x - x / y * y
def jremL (x y : Int64) : Int64 := x - x / y * y
def jshl (x y : Int32) : Int32 := x <<< (y &&& 31)
def jshr (x y : Int32) : Int32 := x >>> (y &&& 31)
def jushr (x y : Int32) : Int32 := (x.toUInt32 >>> (y.toUInt32 &&& Int32.toUInt32 31)).toInt32
def jshlL (x : Int64) (y : Int32) : Int64 := x <<< (y.toInt64 &&& 63)
def jshrL (x : Int64) (y : Int32) : Int64 := x >>> (y.toInt64 &&& 63)
def jushrL (x : Int64) (y : Int32) : Int64 := (x.toUInt64 >>> (y.toInt64.toUInt64 &&& Int64.toUInt64 63)).toInt64
def jmax (x y : Int32) : Int32 := if x < y then y else x
def jmin (x y : Int32) : Int32 := if y < x then y else x
def u0 {β : Type} (f : β) : Unit → β := fun _ => f
def bO {α β : Type} (o : Option α) (k : α → Option β) : Option β := match o with
  | some a => k a
  | none => none
def bT {α γ : Type} (o : Option (γ ⊕ α)) (k : α → Option γ) : Option γ := match o with
  | some (.inl r) => some r
  | some (.inr a) => k a
  | none => none
def bL {α γ δ : Type} (o : Option (γ ⊕ α)) (k : α → Option (γ ⊕ δ)) : Option (γ ⊕ δ) := match o with
  | some (.inl r) => some (.inl r)
  | some (.inr a) => k a
  | none => none
theorem gd_some {α : Type} {b : Bool} {k : Option α} {r : α} (h : gd b k = some r) : b = true ∧ k = some r := by
  unfold gd at h
  split at h
  · exact ⟨by assumption, h⟩
  · cases h
theorem bO_some {α β : Type} {o : Option α} {k : α → Option β} {r : β} (h : bO o k = some r) : ∃ a, o = some a ∧ k a = some r := by
  cases o with
  | none => cases h
  | some a => exact ⟨a, rfl, h⟩
theorem bT_some {α γ : Type} {o : Option (γ ⊕ α)} {k : α → Option γ} {r : γ} (h : bT o k = some r) : ∃ x, o = some x ∧ (∀ a, x = .inl a → a = r) ∧ (∀ a, x = .inr a → k a = some r) := by
  cases o with
  | none => cases h
  | some x =>
    refine ⟨x, rfl, fun a ha => ?_, fun a ha => ?_⟩
    · subst ha; exact Option.some.inj h
    · subst ha; exact h
theorem bL_some {α γ δ : Type} {o : Option (γ ⊕ α)} {k : α → Option (γ ⊕ δ)} {r : γ ⊕ δ} (h : bL o k = some r) : ∃ x, o = some x ∧ (∀ a, x = .inl a → Sum.inl a = r) ∧ (∀ a, x = .inr a → k a = some r) := by
  cases o with
  | none => cases h
  | some x =>
    refine ⟨x, rfl, fun a ha => ?_, fun a ha => ?_⟩
    · subst ha; exact Option.some.inj h
    · subst ha; exact h
theorem if_y {c : Prop} [Decidable c] {α : Type} {a b r : α} (hc : c) (h : (if c then a else b) = r) : a = r := by rw [if_pos hc] at h; exact h
theorem if_n {c : Prop} [Decidable c] {α : Type} {a b r : α} (hc : ¬ c) (h : (if c then a else b) = r) : b = r := by rw [if_neg hc] at h; exact h
theorem nz_ne {y : Int32} (h : nz y = true) : ¬ y = 0 := by simpa [nz] using h
theorem nzL_ne {y : Int64} (h : nzL y = true) : ¬ y = 0 := by simpa [nzL] using h
-- THE MACHINE'S ROWS IN OUR WORDS
def tysG (cA : Nat → ClassId) : List (ClassId × FieldType) := [(cA 0, .int), (cA 1, .boolean), (cA 2, .object "ShedTalk$Natural"), (cA 3, .array .int)]
abbrev m_E : Type := va_G × (Nat → ClassId) × (Nat → Nat) × (Nat → Nat) × (Nat → Nat)
/-- the seven texts: their places in Text's pool, and their bytes -/
def strK : List (Nat × String) := [(96, "pillar"), (98, "weaver"), (100, "tell"), (102, "look"), (104, "far"), (106, "word"), (108, "like")]
def strL : List Nat := [6, 6, 4, 4, 3, 4, 4]
def strB : List (List Int32) := [[112, 105, 108, 108, 97, 114], [119, 101, 97, 118, 101, 114], [116, 101, 108, 108], [108, 111, 111, 107], [102, 97, 114], [119, 111, 114, 100], [108, 105, 107, 101]]
def sLen (i : Nat) : Nat := strL.getD i 0
def sChar (i k : Nat) : Int32 := (strB.getD i []).getD k 0
def g_LEAST_NUMBERS_OF : Nat → Int32 := fun j => [1, 2, 3, 3, 2, 2, 2].getD j 0
def g_MOST_NUMBERS_OF : Nat → Int32 := fun j => [1, 2, 3, 3, 2, 7, 2].getD j 0
/-- what is given and nobody writes: texts, two tables, a static of the JDK -/
def mG (E : m_E) (A : Nat → Prop) (U : State) (H : Heap) : Prop :=
  (∀ i, i < 7 → vk_R RX9 (strK.getD i (0, "")).1 (strK.getD i (0, "")).2 (E.2.2.1 i) U) ∧ vk_S 7 strL strB E.2.2.1 E.2.2.2.1 A U H ∧
  va_Z RX9 "LEAST_NUMBERS_OF" "[I" (.ref (E.2.2.2.2 0)) A U H ∧ va_T .int (E.2.2.2.2 0) 7 (fun j => .int (g_LEAST_NUMBERS_OF j)) A U H ∧
  va_Z RX9 "MOST_NUMBERS_OF" "[I" (.ref (E.2.2.2.2 1)) A U H ∧ va_T .int (E.2.2.2.2 1) 7 (fun j => .int (g_MOST_NUMBERS_OF j)) A U H ∧
  va_Z "java/lang/String" "COMPACT_STRINGS" "Z" (.int 1) A U H ∧ va_Zq "jdk/internal/util/Preconditions" "SIOOBE_FORMATTER" "Ljava/util/function/BiFunction;" A U H
theorem mG.warm {E : m_E} {A : Nat → Prop} {s U : State} {H : Heap} (h : mG E A s H) (hW : s.WarmedH U.vm) : mG E A U H :=
  ⟨fun i hi => vk_R.warm hW (h.1 i hi), vk_S.moved hW.alike h.2.1, va_Z.moved hW.alike h.2.2.1, va_T.moved hW.alike h.2.2.2.1, va_Z.moved hW.alike h.2.2.2.2.1, va_T.moved hW.alike h.2.2.2.2.2.1, va_Z.moved hW.alike h.2.2.2.2.2.2.1, va_Zq.moved hW.alike h.2.2.2.2.2.2.2⟩
theorem alike_eq {u U : State} (hv : u.vm = U.vm) : u.vm.Alike U.vm := by rw [hv]; exact Vm.Alike.refl _
theorem mG.same {E : m_E} {A : Nat → Prop} {u U : State} {H : Heap} (hv : u.vm = U.vm) (h : mG E A u H) : mG E A U H :=
  ⟨fun i hi => vk_R.same hv.symm (h.1 i hi), vk_S.moved (alike_eq hv) h.2.1, va_Z.moved (alike_eq hv) h.2.2.1, va_T.moved (alike_eq hv) h.2.2.2.1, va_Z.moved (alike_eq hv) h.2.2.2.2.1, va_T.moved (alike_eq hv) h.2.2.2.2.2.1, va_Z.moved (alike_eq hv) h.2.2.2.2.2.2.1, va_Zq.moved (alike_eq hv) h.2.2.2.2.2.2.2⟩
theorem mG.kept {E : m_E} {A : Nat → Prop} {U : State} {H H1 : Heap} (h : mG E A U H) (hq : ∀ a : Nat, a < H.size → ¬ A a → H1[a]? = H[a]?) : mG E A U H1 :=
  ⟨h.1, h.2.1.kept hq, h.2.2.1.kept hq, h.2.2.2.1.kept hq, h.2.2.2.2.1.kept hq, h.2.2.2.2.2.1.kept hq, h.2.2.2.2.2.2.1.kept hq, h.2.2.2.2.2.2.2.kept hq⟩
theorem mG.narrow {E : m_E} {A B : Nat → Prop} {U : State} {H : Heap} (h : mG E A U H) (hAB : ∀ q, B q → A q) : mG E B U H :=
  ⟨h.1, h.2.1.narrow hAB, h.2.2.1.narrow hAB, h.2.2.2.1.narrow hAB, h.2.2.2.2.1.narrow hAB, h.2.2.2.2.2.1.narrow hAB, h.2.2.2.2.2.2.1.narrow hAB, h.2.2.2.2.2.2.2.narrow hAB⟩
/-- rows of rows: the class of arrays over arrays of t is there -/
def m_AOA (t : FieldType) (U : State) : Prop := (Cond.arrayOver (.array t)).before #[] U = true
theorem m_AOA.use {t : FieldType} {A : Array Value} {U : State} (h : m_AOA t U) : (Cond.arrayOver (.array t)).before A U = true := h
theorem m_AOA.spec {t : FieldType} {s : State} (h : m_AOA t s) : ∃ comp c k, s.vm.findClass (FieldType.array t).toString = some comp ∧ (s.vm.classes.findIdx? fun x => match x.kind with | .array component _ => component == comp | _ => false) = some c ∧ s.vm.classes[c]? = some k ∧ k.kind = .array comp (.array t) ∧ s.vm.findClass ("[" ++ (FieldType.array t).toString) = some c := by
  simp only [m_AOA, Cond.before, Cond.holds, Cond.value, beq_iff_eq] at h
  cases hc : s.vm.findClass (FieldType.array t).toString with
  | none => simp [hc] at h
  | some comp =>
    simp only [hc, Option.bind_some, Option.bind_eq_some_iff, Option.map_eq_some_iff] at h
    obtain ⟨c, hi, k, hk, hb⟩ := h
    obtain ⟨hlt, hp, -⟩ := Array.findIdx?_eq_some_iff_getElem.mp hi
    have hkk : s.vm.classes[c] = k := (Array.getElem?_eq_some_iff.mp hk).2
    rw [hkk] at hp
    cases hkind : k.kind with
    | array component ty =>
      rw [hkind] at hb hp
      simp at hb hp
      exact ⟨comp, c, k, rfl, hi, hk, by rw [hkind, hp, hb.1], hb.2⟩
    | _ => rw [hkind] at hb; simp at hb
theorem m_AOA.moved {t : FieldType} {u U : State} (hvm : u.vm.Alike U.vm) (h : m_AOA t u) : m_AOA t U := by
  obtain ⟨comp, c, k, h1, h2, h3, h4, h5⟩ := h.spec
  obtain ⟨k', hk', he⟩ := hvm.2.2 _ _ h3
  have hi : (U.vm.classes.findIdx? fun (x : Class) => match x.kind with | .array component _ => component == comp | _ => false) = some c := by
    have b1 := va_idx_bare U.vm comp
    have b2 := va_idx_bare u.vm comp
    have hb : U.vm.bare = u.vm.bare := by first | exact hvm.bare_eq.symm | exact hvm.bare_eq
    rw [hb] at b1
    exact (b1.symm.trans b2).trans h2
  have hkind : k'.kind = .array comp (.array t) := by rw [he]; exact h4
  have f1 : U.vm.findClass (FieldType.array t).toString = some comp := by rw [hvm.findClass]; exact h1
  have f2 : U.vm.findClass ("[" ++ (FieldType.array t).toString) = some c := by rw [hvm.findClass]; exact h5
  unfold m_AOA Cond.before Cond.holds
  simp only [Cond.value]
  rw [f1, Option.bind_some]
  refine (congrArg (fun o : Option Nat => (o.bind (fun c => (U.vm.classes[c]?).map fun (k : Class) => match k.kind with | .array _ ty => decide (ty = FieldType.array t) && decide (U.vm.findClass ("[" ++ (FieldType.array t).toString) = some c) | _ => false) == some true)) hi).trans ?_
  simp [hk', hkind, f2]
/-- the private calls out of and into the nest: words that don't stay by themselves -/
def nwK (U : State) : Prop := (∀ q ∈ nwt, va_Nw (.methodLinkNest q.1 q.2.1 q.2.2.1 q.2.2.2) U) ∧ va_AO "ShedTalk$Natural" U ∧ m_AOA .int U
theorem nwK.warm {s U : State} (hW : s.WarmedH U.vm) (h : nwK s) : nwK U := ⟨fun q hq => va_Nw.warmM hW (h.1 q hq), va_AO.moved hW.alike h.2.1, m_AOA.moved hW.alike h.2.2⟩
theorem nwK.same {u U : State} (hv : u.vm = U.vm) (h : nwK u) : nwK U := ⟨fun q hq => va_Nw.same rfl hv (h.1 q hq), va_AO.moved (alike_eq hv) h.2.1, m_AOA.moved (alike_eq hv) h.2.2⟩
def m_X (p : Program) (s : State) (m : MethodId) (args : Array Value) (c : Code) (cc : ByteArray) (nL : Nat) (own : String) (E : m_E) (A : Nat → Prop) : Prop :=
  p.tables.exec = Jvm.exec ∧ c.code = cc ∧ c.maxLocals = nL ∧ s.vm.findClass own = some m.cls ∧ (∀ w ∈ gwt, w.before args s = true) ∧ va_K E.1 vwCl (tysG E.2.1) s ∧ nwK s ∧ mG E A s s.heap
def m_H (E : m_E) (A : Nat → Prop) (ws : va_W) (H0 H : Heap) (locs : List Loc) : Prop := va_P E.1 vwCl ws H ∧ va_D A ws ∧ va_S A H0 H locs
def m_Pc (E : m_E) (ws : va_W) (sz : Nat) (av : List Value) : Array Value → State → Prop := va_Pc av (fun U => U.heap.size = sz ∧ va_P E.1 vwCl ws U.heap ∧ va_K E.1 vwCl (tysG E.2.1) U ∧ va_D (fun _ => True) ws ∧ nwK U ∧ mG E (va_A ws U.heap.size) U U.heap)
def m_Qc (ov : Option Value) (E : m_E) (ws ws' : va_W) (sz : Nat) : Array Value → State → Outcome → State → Prop := fun _ st oc t => (oc = .returned ov ∧ va_P E.1 vwCl ws' t.heap ∧ va_D (va_A ws sz) ws') ∧ va_F (va_A ws sz) st t
/-- the contract: from a world ws the method y answers ov and leaves ws'; nothing else that was there changes, nothing is made -/
def m_Met (l : Launch) (y : MethodName) (b : ByteArray) (nl : Nat) (ret : Option FieldType) (rm : Room) (E : m_E) (ws ws' : va_W) (sz : Nat) (av : List Value) (ov : Option Value) : Prop :=
  Met l y (.code y b nl ret :: gwt) rm (m_Pc E ws sz av) (m_Qc ov E ws ws' sz) 0 0 (va_A ws sz)
theorem m_blind {E : m_E} {ws : va_W} {sz : Nat} {av : List Value} : FrameBlind (m_Pc E ws sz av) := by
  intro a U g mk q
  obtain ⟨q0, q1, qP, qK, qD, qN, qG⟩ := q
  exact ⟨q0, q1, qP, va_K.moved (u := U) (U := U.calling g mk a) (Vm.Alike.refl U.vm) qK, qD, nwK.same rfl qN, mG.same (u := U) (U := U.calling g mk a) rfl qG⟩
/-- the cells at the places is, replaced by those of the second list -/
def m_put : va_W → List Nat → va_W → va_W
  | ws, i :: is, x :: xs => m_put (ws.set i x) is xs
  | ws, _, _ => ws
theorem m_put_get : ∀ (is : List Nat) (ws xs : va_W) (k : Nat) (q : Nat × va_E), is.length = xs.length → (m_put ws is xs)[k]? = some q → (∃ j : Nat, is[j]? = some k ∧ xs[j]? = some q) ∨ (k ∉ is ∧ ws[k]? = some q)
  | [], ws, xs, k, q, _, h => by
    right
    cases xs <;> exact ⟨List.not_mem_nil, h⟩
  | i :: is, ws, [], k, q, hl, h => by simp at hl
  | i :: is, ws, x :: xs, k, q, hl, h => by
    rcases m_put_get is (ws.set i x) xs k q (by simpa using hl) h with ⟨j, h1, h2⟩ | ⟨h1, h2⟩
    · exact Or.inl ⟨j + 1, h1, h2⟩
    · by_cases e : k = i
      · subst e
        left
        refine ⟨0, rfl, ?_⟩
        rw [List.getElem?_set] at h2
        simp only [if_true] at h2
        split at h2
        · exact h2
        · cases h2
      · right
        refine ⟨fun hm => ?_, ?_⟩
        · rcases List.mem_cons.mp hm with h3 | h3
          · exact e h3
          · exact h1 h3
        · rw [List.getElem?_set_ne (fun h => e h.symm)] at h2
          exact h2
theorem m_join {A0 : Nat → Prop} {D : va_G} {ws wc w1 : va_W} {H H1 : Heap} (hP : va_P D vwCl ws H) (hD : va_D A0 ws) (is : List Nat) (hC : is.map (fun i => ws[i]?) = wc.map some) (hn : va_nd is = true) (hl : is.length = w1.length)
    (hk : ∀ q : Nat, q < H.size → ¬ va_A wc H.size q → H1[q]? = H[q]?) (hF : ∀ q, va_A wc H.size q → A0 q) (hP1 : va_P D vwCl w1 H1) (hD1 : va_D (va_A wc H.size) w1) : va_P D vwCl (m_put ws is w1) H1 ∧ va_D A0 (m_put ws is w1) := by
  have at' : ∀ (k : Nat) (q : Nat × va_E), wc[k]? = some q → ∃ i, is[k]? = some i ∧ ws[i]? = some q := by
    intro k q hq
    have h1 : (is.map (fun i => ws[i]?))[k]? = some (some q) := by rw [hC, List.getElem?_map, hq]; rfl
    rw [List.getElem?_map] at h1
    cases hi : is[k]? with
    | none => rw [hi] at h1; cases h1
    | some i => rw [hi] at h1; exact ⟨i, rfl, Option.some.inj h1⟩
  have apart : ∀ (k : Nat) (q : Nat × va_E), k ∉ is → ws[k]? = some q → q.1 < H.size ∧ ¬ va_A wc H.size q.1 := by
    intro k q hkn hq
    have hlt := (hP k q hq).lt
    refine ⟨hlt, fun h => ?_⟩
    rcases h with ⟨k2, e, h⟩ | h
    · obtain ⟨j, h3, h4⟩ := at' k2 (q.1, e) h
      have hij := hD.1 k j q (q.1, e) hq h4 rfl
      subst hij
      exact hkn (List.mem_of_getElem? h3)
    · omega
  refine ⟨fun k q hq => ?_, fun i j x y hx hy hxy => ?_, fun k q hq => ?_⟩
  · rcases m_put_get is ws w1 k q hl hq with ⟨j, h1, h2⟩ | ⟨h1, h2⟩
    · exact hP1 j q h2
    · obtain ⟨g1, g2⟩ := apart k q h1 h2
      exact (hP k q h2).kept (hk q.1 g1 g2)
  · rcases m_put_get is ws w1 i x hl hx with ⟨j1, h1, h2⟩ | ⟨h1, h2⟩ <;> rcases m_put_get is ws w1 j y hl hy with ⟨j2, h3, h4⟩ | ⟨h3, h4⟩
    · have := hD1.1 j1 j2 x y h2 h4 hxy
      subst this
      exact Option.some.inj (h1.symm.trans h3)
    · exact absurd (hxy ▸ hD1.2 j1 x h2) (apart j y h3 h4).2
    · exact absurd (hxy ▸ hD1.2 j2 y h4) (apart i x h1 h2).2
    · exact hD.1 i j x y h2 h4 hxy
  · rcases m_put_get is ws w1 k q hl hq with ⟨j, h1, h2⟩ | ⟨h1, h2⟩
    · exact hF _ (hD1.2 j q h2)
    · exact hD.2 k q h2
/-- a field's link: own class's pool entry, class ci of vwCl, its field k, of type ty, final or not -/
def m_Fd (own : String) (index ci k : Nat) (ty : FieldType) (fin : Bool) : Prop := ∃ (C : String) (T : u_T) (N : Nat) (ty0 : Nat → FieldType), vwCl[ci]? = some (C, T, N) ∧ k < N ∧ (∀ w ∈ u_ws C T N, w ∈ gwt) ∧ (∀ k, k < N → parseFieldDescriptor (T k).2.2.1 = some (ty0 k)) ∧ (∀ a, a < N → ∀ b, b < N → a ≠ b → (T a).2.1 ≠ (T b).2.1) ∧
  Cond.fieldLink own index (T k).1 (T k).2.1 (T k).2.2.1 ∈ gwt ∧ parseFieldDescriptor (T k).2.2.1 = some ty ∧ (T k).2.2.2 = fin ∧ (T k).1 = C
/-- cells of a kind, by number: the members of an array of references -/
def m_fam (n : Nat) (f : Nat → Nat × va_E) : va_W := (List.range n).map f
theorem m_fg {X Y ws : va_W} {n b k : Nat} {f : Nat → Nat × va_E} (hs : ws = X ++ (m_fam n f ++ Y)) (hb : X.length = b) (hk : k < n) : ws[b + k]? = some (f k) := by
  subst hs hb
  rw [List.getElem?_append_right (Nat.le_add_right _ _), Nat.add_sub_cancel_left, List.getElem?_append_left (by simpa [m_fam] using hk)]
  simp [m_fam, hk]
theorem m_fel {X Y : va_W} {n : Nat} {f : Nat → Nat × va_E} (i : Nat) : (X ++ (m_fam n f ++ Y))[i]? = if i < X.length then X[i]? else if i - X.length < n then some (f (i - X.length)) else Y[i - X.length - n]? := by
  have hl : (m_fam n f).length = n := by simp [m_fam]
  by_cases h1 : i < X.length
  · rw [if_pos h1, List.getElem?_append_left h1]
  · rw [if_neg h1, List.getElem?_append_right (Nat.not_lt.mp h1)]
    by_cases h2 : i - X.length < n
    · rw [if_pos h2, List.getElem?_append_left (by rw [hl]; exact h2)]
      simp [m_fam, h2]
    · rw [if_neg h2, List.getElem?_append_right (by rw [hl]; exact Nat.not_lt.mp h2), hl]
theorem m_fset {X Y ws ws' : va_W} {n b k : Nat} {f f' : Nat → Nat × va_E} {x : Nat × va_E} (hs : ws = X ++ (m_fam n f ++ Y)) (hb : X.length = b) (hk : k < n) (hs' : ws' = X ++ (m_fam n f' ++ Y)) (hf : ∀ i, i < n → f' i = if i = k then x else f i) : ws.set (b + k) x = ws' := by
  subst hs hb hs'
  apply List.ext_getElem?
  intro i
  rw [List.getElem?_set, m_fel, m_fel]
  by_cases h0 : X.length + k = i
  · subst h0
    have h1 : ¬ X.length + k < X.length := by omega
    have h2 : X.length + k - X.length = k := by omega
    rw [if_pos rfl, if_neg h1, h2, if_pos hk, hf k hk, if_pos rfl, if_pos (by simp [m_fam]; omega)]
  · rw [if_neg h0]
    by_cases h1 : i < X.length
    · rw [if_pos h1, if_pos h1]
    · rw [if_neg h1, if_neg h1]
      by_cases h2 : i - X.length < n
      · rw [if_pos h2, if_pos h2, hf _ h2, if_neg (by omega)]
      · rw [if_neg h2, if_neg h2]
theorem m_sp1 {X a b : va_W} : X ++ (a ++ b) = (X ++ a) ++ b := (List.append_assoc _ _ _).symm
theorem m_sp2 {X a b c : va_W} : X ++ (a ++ (b ++ c)) = ((X ++ a) ++ b) ++ c := by simp only [List.append_assoc]
theorem m_sp3 {X a b c d : va_W} : X ++ (a ++ (b ++ (c ++ d))) = (((X ++ a) ++ b) ++ c) ++ d := by simp only [List.append_assoc]
theorem m_sp4 {X a b c d e : va_W} : X ++ (a ++ (b ++ (c ++ (d ++ e)))) = ((((X ++ a) ++ b) ++ c) ++ d) ++ e := by simp only [List.append_assoc]
theorem m_Cn {ws : va_W} : ([] : List Nat).map (fun i => ws[i]?) = ([] : va_W).map some := rfl
theorem m_Cc {ws xs : va_W} {i : Nat} {is : List Nat} {x : Nat × va_E} (h : ws[i]? = some x) (hs : is.map (fun i => ws[i]?) = xs.map some) : (i :: is).map (fun i => ws[i]?) = (x :: xs).map some := by
  simp only [List.map_cons, h, hs]
theorem m_sp5 {X a b c d e f : va_W} : X ++ (a ++ (b ++ (c ++ (d ++ (e ++ f))))) = (((((X ++ a) ++ b) ++ c) ++ d) ++ e) ++ f := by simp only [List.append_assoc]
theorem m_CA {ws wc1 wc2 : va_W} {is1 is2 : List Nat} (h1 : is1.map (fun i => ws[i]?) = wc1.map some) (h2 : is2.map (fun i => ws[i]?) = wc2.map some) : (is1 ++ is2).map (fun i => ws[i]?) = (wc1 ++ wc2).map some := by
  rw [List.map_append, List.map_append, h1, h2]
theorem m_CF {X Y ws : va_W} {n b : Nat} {f : Nat → Nat × va_E} (hs : ws = X ++ (m_fam n f ++ Y)) (hb : X.length = b) : ((List.range n).map (fun i => b + i)).map (fun i => ws[i]?) = (m_fam n f).map some := by
  rw [m_fam, List.map_map, List.map_map]
  apply List.map_congr_left
  intro i hi
  exact m_fg hs hb (List.mem_range.mp hi)
theorem m_putA {ws ws1 ws' xs1 xs2 : va_W} {is1 is2 : List Nat} (hl : is1.length = xs1.length) (h1 : m_put ws is1 xs1 = ws1) (h2 : m_put ws1 is2 xs2 = ws') : m_put ws (is1 ++ is2) (xs1 ++ xs2) = ws' := by
  subst h1 h2
  induction is1 generalizing ws xs1 with
  | nil => cases xs1 with
    | nil => rfl
    | cons x xs => simp at hl
  | cons i is ih => cases xs1 with
    | nil => simp at hl
    | cons x xs => exact ih (by simpa using hl)
theorem m_putR : ∀ (n k : Nat) (X Y : va_W) (f g : Nat → Nat × va_E), k ≤ n → m_put (X ++ (m_fam n f ++ Y)) ((List.range k).map (fun i => X.length + i)) ((List.range k).map g) = X ++ (m_fam n (fun i => if i < k then g i else f i) ++ Y)
  | n, 0, X, Y, f, g, _ => by simp [m_put]
  | n, k + 1, X, Y, f, g, h => by
    rw [List.range_succ, List.map_append, List.map_append]
    refine m_putA (by simp) (m_putR n k X Y f g (by omega)) ?_
    show List.set _ (X.length + k) (g k) = _
    refine m_fset rfl rfl (by omega) rfl (fun i hi => ?_)
    by_cases h1 : i = k
    · subst h1
      simp
    · rw [if_neg h1]
      by_cases h2 : i < k
      · rw [if_pos h2, if_pos (by omega)]
      · rw [if_neg h2, if_neg (by omega)]
theorem m_putF {X Y ws ws' : va_W} {n b : Nat} {f f' : Nat → Nat × va_E} (hs : ws = X ++ (m_fam n f ++ Y)) (hb : X.length = b) (hs' : ws' = X ++ (m_fam n f' ++ Y)) : m_put ws ((List.range n).map (fun i => b + i)) (m_fam n f') = ws' := by
  subst hs hb hs'
  refine (m_putR n n X Y f f' (Nat.le_refl n)).trans ?_
  have h : m_fam n (fun i => if i < n then f' i else f i) = m_fam n f' := by
    unfold m_fam
    apply List.map_congr_left
    intro i hi
    rw [if_pos (List.mem_range.mp hi)]
  rw [h]
theorem m_put_len : ∀ (is : List Nat) (ws xs : va_W), (m_put ws is xs).length = ws.length
  | [], ws, xs => by cases xs <;> rfl
  | i :: is, ws, [] => rfl
  | i :: is, ws, x :: xs => by
    show (m_put (ws.set i x) is xs).length = _
    rw [m_put_len is (ws.set i x) xs, List.length_set]
/-- the replaced list, position by position: src says of each whether it stays (none) or is the j-th of xs -/
theorem m_putS {ws xs ws' : va_W} {is : List Nat} (src : List (Option Nat)) (hn : va_nd is = true) (hl : is.length = xs.length) (hc : (src.zipIdx.all (fun q => match q.1 with | none => !(is.contains q.2) | some j => decide (is[j]? = some q.2))) = true) (hw : src.length = ws.length) (h : List.zipWith (fun (o : Option Nat) (w : Nat × va_E) => match o with | none => some w | some j => xs[j]?) src ws = ws'.map some) : m_put ws is xs = ws' := by
  have hlen : ws'.length = ws.length := by
    have := congrArg List.length h
    simp at this
    omega
  apply List.ext_getElem?
  intro k
  by_cases hk : k < ws.length
  · have hk1 : k < src.length := by omega
    have hk2 : k < ws'.length := by omega
    have hk3 : k < (m_put ws is xs).length := by rw [m_put_len]; exact hk
    have e1 : (List.zipWith (fun (o : Option Nat) (w : Nat × va_E) => match o with | none => some w | some j => xs[j]?) src ws)[k]? = (ws'.map some)[k]? := by rw [h]
    rw [List.getElem?_zipWith, List.getElem?_eq_getElem hk1, List.getElem?_eq_getElem hk, List.getElem?_map, List.getElem?_eq_getElem hk2] at e1
    have hcq := List.all_eq_true.mp hc (src[k], k) (by
      rw [List.mem_iff_getElem?]
      exact ⟨k, by simp [List.getElem?_eq_getElem hk1]⟩)
    rw [List.getElem?_eq_getElem hk3, List.getElem?_eq_getElem hk2]
    rcases m_put_get is ws xs k _ hl (List.getElem?_eq_getElem hk3) with ⟨j, h1, h2⟩ | ⟨h1, h2⟩
    · cases ho : src[k] with
      | none =>
        rw [ho] at hcq
        simp only [Bool.not_eq_true', List.contains_eq_mem, decide_eq_false_iff_not] at hcq
        exact absurd (List.mem_of_getElem? h1) hcq
      | some j2 =>
        rw [ho] at hcq e1
        simp only [decide_eq_true_eq] at hcq
        have hjj : j2 = j := va_nd_inj is hn j2 j k hcq h1
        subst hjj
        simp only [Option.some.injEq, Option.map_some] at e1
        rw [h2] at e1
        exact e1
    · cases ho : src[k] with
      | none =>
        rw [ho] at e1
        simp only [Option.some.injEq, Option.map_some] at e1
        rw [List.getElem?_eq_getElem hk] at h2
        rw [← Option.some.inj h2]
        exact congrArg some e1
      | some j2 =>
        rw [ho] at hcq
        simp only [decide_eq_true_eq] at hcq
        exact absurd (List.mem_of_getElem? hcq) h1
  · rw [List.getElem?_eq_none (by rw [m_put_len]; omega), List.getElem?_eq_none (by omega)]
theorem m_putX : ∀ (is : List Nat) (X F xs : va_W), (∀ i ∈ is, i < X.length) → m_put (X ++ F) is xs = m_put X is xs ++ F
  | [], X, F, xs, _ => by cases xs <;> rfl
  | i :: is, X, F, [], _ => rfl
  | i :: is, X, F, x :: xs, h => by
    show m_put ((X ++ F).set i x) is xs = m_put (X.set i x) is xs ++ F
    rw [List.set_append_left _ _ (h i List.mem_cons_self)]
    exact m_putX is (X.set i x) F xs (fun j hj => by rw [List.length_set]; exact h j (List.mem_cons_of_mem _ hj))
theorem m_putXS {X X' F xs : va_W} {is : List Nat} (n : Nat) (hX : X.length = n) (hlt : is.all (fun i => decide (i < n)) = true) (src : List (Option Nat)) (hn : va_nd is = true) (hl : is.length = xs.length) (hc : (src.zipIdx.all (fun q => match q.1 with | none => !(is.contains q.2) | some j => decide (is[j]? = some q.2))) = true) (hw : src.length = X.length) (h : List.zipWith (fun (o : Option Nat) (w : Nat × va_E) => match o with | none => some w | some j => xs[j]?) src X = X'.map some) : m_put (X ++ F) is xs = X' ++ F := by
  subst hX
  rw [m_putX is X F xs (fun i hi => by simpa using List.all_eq_true.mp hlt i hi), m_putS src hn hl hc hw h]
theorem m_nd {is : List Nat} (h : va_nd is = true) : va_nd is = true := h
theorem m_putn {ws : va_W} : m_put ws [] [] = ws := rfl
theorem m_putc {ws ws1 ws' xs : va_W} {i : Nat} {is : List Nat} {x : Nat × va_E} (h : ws.set i x = ws1) (hs : m_put ws1 is xs = ws') : m_put ws (i :: is) (x :: xs) = ws' := by
  subst h
  exact hs
theorem ixb_lt {i : Int32} {n : Nat} (h : ixb i n = true) : i.toNatClampNeg < n := by
  simp only [ixb, Bool.and_eq_true, decide_eq_true_eq] at h
  exact h.2
section MR
variable {p : Program} {l : Launch} {e : Env} {R : Room} {s : State} {m : MethodId} {args : Array Value} {below : List Frame} {meth : Method} {c : Code} {H : Heap} {locs : List Loc} {cells slots : Nat} {Q : State → Prop}
variable {cc : ByteArray} {pc nL : Nat} {ls : Array Slot} {rest : List Value} {E : m_E} {A : Nat → Prop} {a : Nat} {ws : va_W} {H0 : Heap} {own : String} {index : Nat}
theorem m_get (X : m_X p s m args c cc nL own E A) (hW : m_H E A ws H0 H locs) {ci k : Nat} {ty : FieldType} {fin : Bool} (F : m_Fd own index ci k ty fin) (q0 : Nat) {fs : List Value} {v : Value} (he : ws[q0]? = some (a, .inr (ci, fs))) (hv : fs[k]? = some v) (hdg : decode cc pc = .ok (.getfield index, 3))
    (kk : W p l e R s m args below meth c H locs cells slots Q (F0 m (pc + 3) ls (v :: rest))) : W p l e R s m args below meth c H locs cells slots Q (F0 m pc ls (.ref a :: rest)) := by
  obtain ⟨hx, hb, -, hown, hts, hK, -, -⟩ := X
  obtain ⟨C, T, N, ty0, hc, hk, hin, -, -, hl, -⟩ := F
  exact va_get hx hb hts hin hown hK hW.1 q0 he hc k hk (hts _ hl) (fun _ h => h) hv hdg kk
theorem m_putf (X : m_X p s m args c cc nL own E A) (hW : m_H E A ws H0 H locs) {ci k : Nat} {ty : FieldType} (F : m_Fd own index ci k ty false) (q0 : Nat) {fs : List Value} {v : Value} (he : ws[q0]? = some (a, .inr (ci, fs))) (hl : k < fs.length) (hn : narrow ty v = v) (hf : fits ty v = true) (hdg : decode cc pc = .ok (.putfield index, 3)) {ws' : va_W} (hws : ws.set q0 (a, .inr (ci, fs.set k v)) = ws')
    (kk : ∀ (H : Heap) (locs : List Loc), m_H E A ws' H0 H locs → W p l e R s m args below meth c H locs cells slots Q (F0 m (pc + 3) ls rest)) : W p l e R s m args below meth c H locs cells slots Q (F0 m pc ls (v :: .ref a :: rest)) := by
  obtain ⟨hx, hb, -, hown, hts, hK, -, -⟩ := X
  obtain ⟨C, T, N, ty0, hc, hk, hin, hty, hnm, hlk, hd, hfin, -⟩ := F
  subst hws
  exact va_put hx hb hts hin ty0 hty hnm hown hK hW.1 hW.2.1 hW.2.2 q0 he hc k hk (hts _ hlk) (fun _ h => h) hfin hd hn hf hl hdg (fun H locs h1 h2 h3 => kk H locs ⟨h1, h2, h3⟩)
/-- an index seen to be in range -/
theorem ixb_vp {i : Int32} {n : Nat} (h : ixb i n = true) : vp_in i n := by
  simp only [ixb, Bool.and_eq_true, decide_eq_true_eq] at h
  rintro (q | q)
  · have h1 := h.1
    rw [Int32.le_iff_toInt_le] at h1
    rw [Int32.lt_iff_toInt_lt] at q
    omega
  · omega
theorem m_iald (X : m_X p s m args c cc nL own E A) (hW : m_H E A ws H0 H locs) (q0 : Nat) {n k : Nat} {f : Nat → Int32} {i : Int32} (ha : ws[q0]? = some (a, .inl (E.2.1 0, n, .inl f))) (hin : ixb i n = true) (hk : i.toNatClampNeg = k) (hdg : decode cc pc = .ok (.iaload, 1))
    (kk : W p l e R s m args below meth c H locs cells slots Q (F0 m (pc + 1) ls (.int (f k) :: rest))) : W p l e R s m args below meth c H locs cells slots Q (F0 m pc ls (.int i :: .ref a :: rest)) := by
  subst hk
  exact va_iald X.1 X.2.1 X.2.2.2.2.2.1 hW.1 q0 0 ha rfl (ixb_vp hin) hdg kk
theorem m_aald (X : m_X p s m args c cc nL own E A) (hW : m_H E A ws H0 H locs) (q0 : Nat) {n k : Nat} {f : Nat → Nat} {i : Int32} (ha : ws[q0]? = some (a, .inl (E.2.1 2, n, .inr (.inr (.inr (.inr (fun j => some (f j)))))))) (hin : ixb i n = true) (hk : i.toNatClampNeg = k) (hdg : decode cc pc = .ok (.aaload, 1))
    (kk : W p l e R s m args below meth c H locs cells slots Q (F0 m (pc + 1) ls (.ref (f k) :: rest))) : W p l e R s m args below meth c H locs cells slots Q (F0 m pc ls (.int i :: .ref a :: rest)) := by
  subst hk
  exact va_aldq X.1 X.2.1 X.2.2.2.2.2.1 hW.1 q0 2 ha rfl (ixb_vp hin) hdg kk
theorem m_aaldA (X : m_X p s m args c cc nL own E A) (hW : m_H E A ws H0 H locs) (q0 : Nat) {n k : Nat} {f : Nat → Nat} {i : Int32} (ha : ws[q0]? = some (a, .inl (E.2.1 3, n, .inr (.inr (.inr (.inr (fun j => some (f j)))))))) (hin : ixb i n = true) (hk : i.toNatClampNeg = k) (hdg : decode cc pc = .ok (.aaload, 1))
    (kk : W p l e R s m args below meth c H locs cells slots Q (F0 m (pc + 1) ls (.ref (f k) :: rest))) : W p l e R s m args below meth c H locs cells slots Q (F0 m pc ls (.int i :: .ref a :: rest)) := by
  subst hk
  have hin := ixb_vp hin
  have hlt : i.toNatClampNeg < n := Nat.not_le.mp fun q => hin (Or.inr q)
  exact W.aald (v := .ref (f i.toNatClampNeg)) (ty := .array .int) X.1 X.2.1 (hW.1 q0 _ ha) ((X.2.2.2.2.2.1.2 3 _ rfl).1 n (fun j => va_rf (some (f j)))) rfl (fun q => by cases q) (by show ¬ (i < 0 ∨ (arrV _ _ _).slots.size ≤ _); rw [arrV_size]; exact hin) (by show (arrV _ _ _).slots[_]? = _; rw [arrV_read _ _ hlt]; rfl) rfl rfl hdg kk
theorem m_zald (X : m_X p s m args c cc nL own E A) (hW : m_H E A ws H0 H locs) (q0 : Nat) {n k : Nat} {f : Nat → Int32} {i : Int32} (ha : ws[q0]? = some (a, .inl (E.2.1 1, n, .inl f))) (hin : ixb i n = true) (hk : i.toNatClampNeg = k) (hdg : decode cc pc = .ok (.baload, 1))
    (kk : W p l e R s m args below meth c H locs cells slots Q (F0 m (pc + 1) ls (.int (f k) :: rest))) : W p l e R s m args below meth c H locs cells slots Q (F0 m pc ls (.int i :: .ref a :: rest)) := by
  subst hk
  exact va_zald X.1 X.2.1 X.2.2.2.2.2.1 hW.1 q0 1 ha rfl (ixb_vp hin) hdg kk
theorem m_iast (X : m_X p s m args c cc nL own E A) (hW : m_H E A ws H0 H locs) (q0 : Nat) {n k : Nat} {f : Nat → Int32} {i x : Int32} (ha : ws[q0]? = some (a, .inl (E.2.1 0, n, .inl f))) (hin : ixb i n = true) (hk : i.toNatClampNeg = k) (hdg : decode cc pc = .ok (.iastore, 1)) {ws' : va_W} (hws : ws.set q0 (a, .inl (E.2.1 0, n, .inl (upd f k x))) = ws')
    (kk : ∀ (H : Heap) (locs : List Loc), m_H E A ws' H0 H locs → W p l e R s m args below meth c H locs cells slots Q (F0 m (pc + 1) ls rest)) : W p l e R s m args below meth c H locs cells slots Q (F0 m pc ls (.int x :: .int i :: .ref a :: rest)) := by
  subst hk hws
  exact va_iast X.1 X.2.1 X.2.2.2.2.2.1 hW.1 hW.2.1 hW.2.2 q0 0 ha rfl (ixb_vp hin) hdg (fun H locs h1 h2 h3 => kk H locs ⟨h1, h2, h3⟩)
theorem m_zast (X : m_X p s m args c cc nL own E A) (hW : m_H E A ws H0 H locs) (q0 : Nat) {n k : Nat} {f : Nat → Int32} {i x : Int32} (ha : ws[q0]? = some (a, .inl (E.2.1 1, n, .inl f))) (hin : ixb i n = true) (hk : i.toNatClampNeg = k) (hdg : decode cc pc = .ok (.bastore, 1)) {ws' : va_W} (hws : ws.set q0 (a, .inl (E.2.1 1, n, .inl (upd f k (vp_nar .boolean x)))) = ws')
    (kk : ∀ (H : Heap) (locs : List Loc), m_H E A ws' H0 H locs → W p l e R s m args below meth c H locs cells slots Q (F0 m (pc + 1) ls rest)) : W p l e R s m args below meth c H locs cells slots Q (F0 m pc ls (.int x :: .int i :: .ref a :: rest)) := by
  subst hk hws
  exact va_zast X.1 X.2.1 X.2.2.2.2.2.1 hW.1 hW.2.1 hW.2.2 q0 1 ha rfl (ixb_vp hin) hdg (fun H locs h1 h2 h3 => kk H locs ⟨h1, h2, h3⟩)
theorem m_ti {t N k : Nat} {f : Nat → Int32} (X : m_X p s m args c cc nL own E A) (hW : m_H E A ws s.heap H locs) (hT : va_T .int t N (fun j => .int (f j)) A s s.heap) {i : Int32} (hin : ixb i N = true) (hk : i.toNatClampNeg = k) (hdg : decode cc pc = .ok (.iaload, 1))
    (kk : W p l e R s m args below meth c H locs cells slots Q (F0 m (pc + 1) ls (.int (f k) :: rest))) : W p l e R s m args below meth c H locs cells slots Q (F0 m pc ls (.int i :: .ref t :: rest)) := by
  subst hk
  exact va_ti X.1 X.2.1 hT hW.2.2 (ixb_vp hin) rfl hdg kk
theorem m_irem (hx : p.tables.exec = Jvm.exec) (hb : c.code = cc) {x y : Int32} (hdg : decode cc pc = .ok (.irem, 1)) (hne : ¬ y = 0)
    (k : W p l e R s m args below meth c H locs cells slots Q (F0 m (pc + 1) ls (.int (jrem x y) :: rest))) : W p l e R s m args below meth c H locs cells slots Q (F0 m pc ls (.int y :: .int x :: rest)) := lv_irem hx hb hdg hne k
theorem m_lrem (hx : p.tables.exec = Jvm.exec) (hb : c.code = cc) {x y : Int64} (hdg : decode cc pc = .ok (.lrem, 1)) (hne : ¬ y = 0)
    (k : W p l e R s m args below meth c H locs cells slots Q (F0 m (pc + 1) ls (.long (jremL x y) :: rest))) : W p l e R s m args below meth c H locs cells slots Q (F0 m pc ls (.long y :: .long x :: rest)) := lv_lrem hx hb hdg hne k
theorem m_ishl (hx : p.tables.exec = Jvm.exec) (hb : c.code = cc) {x y : Int32} (hdg : decode cc pc = .ok (.ishl, 1))
    (k : W p l e R s m args below meth c H locs cells slots Q (F0 m (pc + 1) ls (.int (jshl x y) :: rest))) : W p l e R s m args below meth c H locs cells slots Q (F0 m pc ls (.int y :: .int x :: rest)) := lv_ishl hx hb hdg k
theorem m_ishr (hx : p.tables.exec = Jvm.exec) (hb : c.code = cc) {x y : Int32} (hdg : decode cc pc = .ok (.ishr, 1))
    (k : W p l e R s m args below meth c H locs cells slots Q (F0 m (pc + 1) ls (.int (jshr x y) :: rest))) : W p l e R s m args below meth c H locs cells slots Q (F0 m pc ls (.int y :: .int x :: rest)) := lv_ishr hx hb hdg k
theorem m_iushr (hx : p.tables.exec = Jvm.exec) (hb : c.code = cc) {x y : Int32} (hdg : decode cc pc = .ok (.iushr, 1))
    (k : W p l e R s m args below meth c H locs cells slots Q (F0 m (pc + 1) ls (.int (jushr x y) :: rest))) : W p l e R s m args below meth c H locs cells slots Q (F0 m pc ls (.int y :: .int x :: rest)) := lv_iushr hx hb hdg rfl k
theorem m_lshl (hx : p.tables.exec = Jvm.exec) (hb : c.code = cc) {x : Int64} {y : Int32} (hdg : decode cc pc = .ok (.lshl, 1))
    (k : W p l e R s m args below meth c H locs cells slots Q (F0 m (pc + 1) ls (.long (jshlL x y) :: rest))) : W p l e R s m args below meth c H locs cells slots Q (F0 m pc ls (.int y :: .long x :: rest)) := lv_lshl hx hb hdg rfl k
theorem m_lshr (hx : p.tables.exec = Jvm.exec) (hb : c.code = cc) {x : Int64} {y : Int32} (hdg : decode cc pc = .ok (.lshr, 1))
    (k : W p l e R s m args below meth c H locs cells slots Q (F0 m (pc + 1) ls (.long (jshrL x y) :: rest))) : W p l e R s m args below meth c H locs cells slots Q (F0 m pc ls (.int y :: .long x :: rest)) := lv_lshr hx hb hdg rfl k
theorem m_lushr (hx : p.tables.exec = Jvm.exec) (hb : c.code = cc) {x : Int64} {y : Int32} (hdg : decode cc pc = .ok (.lushr, 1))
    (k : W p l e R s m args below meth c H locs cells slots Q (F0 m (pc + 1) ls (.long (jushrL x y) :: rest))) : W p l e R s m args below meth c H locs cells slots Q (F0 m pc ls (.int y :: .long x :: rest)) := lv_lushr hx hb hdg rfl k
theorem cpb_of {sp dp n : Int32} {la lb : Nat} (h : cpb sp dp n la lb = true) : ¬ sp < 0 ∧ ¬ dp < 0 ∧ ¬ n < 0 ∧ sp.toNatClampNeg + n.toNatClampNeg ≤ la ∧ dp.toNatClampNeg + n.toNatClampNeg ≤ lb := by
  simp only [cpb, Bool.and_eq_true, decide_eq_true_eq] at h
  obtain ⟨h1, h2, h3, h4, h5⟩ := h
  rw [Int32.le_iff_toInt_le] at h1 h2 h3
  refine ⟨fun q => ?_, fun q => ?_, fun q => ?_, h4, h5⟩ <;> rw [Int32.lt_iff_toInt_lt] at q <;> omega
theorem m_copyi (X : m_X p s m args c cc nL own E A) (hW : m_H E A ws s.heap H locs) (hls : ls.size = nL) (w1 : .methodLink own index arraycopyName ∈ gwt) (w2 : .native arraycopyName ∈ gwt) (w3 : .static arraycopyName ∈ gwt) (w4 : .initialized "java/lang/System" ∈ gwt) (q0 q1 : Nat) {a0 : Nat} {n0 n1 ksp kdp kn : Nat} {f g : Nat → Int32} (ha0 : ws[q0]? = some (a0, .inl (E.2.1 0, n0, .inl f))) (ha1 : ws[q1]? = some (a, .inl (E.2.1 0, n1, .inl g)))
    {sp dp n : Int32} (hg : cpb sp dp n n0 n1 = true) (e1 : sp.toNatClampNeg = ksp) (e2 : dp.toNatClampNeg = kdp) (e3 : n.toNatClampNeg = kn) (hframes : 1 ≤ R.frames) (hlocals : (rest.map fun v => v.category).sum + (nativeFrameWords "java/lang/System" "arraycopy" 5 + 11) ≤ R.locals) (hdg : decode cc pc = .ok (.invokestatic index, 3))
    {ws' : va_W} (hws : ws.set q1 (a, .inl (E.2.1 0, n1, .inl (va_cpy f g ksp kdp kn))) = ws')
    (kk : ∀ (H : Heap) (locs : List Loc), m_H E A ws' s.heap H locs → W p l e R s m args below meth c H locs cells slots Q (F0 m (pc + 3) ls rest)) : W p l e R s m args below meth c H locs cells slots Q (F0 m pc ls (.int n :: .int dp :: .ref a :: .int sp :: .ref a0 :: rest)) := by
  subst e1 e2 e3 hws
  obtain ⟨h1, h2, h3, h4, h5⟩ := cpb_of hg
  have hts := X.2.2.2.2.1
  exact va_copyi X.1 X.2.1 (X.2.2.1.trans hls.symm) X.2.2.2.1 (hts _ w1) (hts _ w2) (hts _ w3) (hts _ w4) X.2.2.2.2.2.1 hW.1 hW.2.1 hW.2.2 q0 q1 0 0 ha0 ha1 rfl rfl rfl h1 h2 h3 h4 h5 (fun _ _ => rfl) hframes hlocals hdg (fun H locs g1 g2 g3 => kk H locs ⟨g1, g2, g3⟩)
/-- behind a call of a contract -/
theorem m_goes {ov : Option Value} {wc w1 ws' : va_W} {st0 : List Value} {a9 : Array Value} (hW : m_H E A ws H0 H locs) (hA : ∀ q, H0.size ≤ q → A q) (is : List Nat) (hnd : va_nd is = true) (hC : is.map (fun i => ws[i]?) = wc.map some) (hl : is.length = w1.length) (hws : m_put ws is w1 = ws')
    (hr : va_Run p l e R s m args below meth c H locs cells slots 0 0 (F0 m pc ls st0) rest (m_Qc ov E wc w1 H.size a9) (va_A wc H.size))
    (kk : ∀ (H : Heap) (locs : List Loc), m_H E A ws' H0 H locs → W p l e R s m args below meth c H locs cells slots Q (F0 m (pc + 3) ls (ov.toList ++ rest))) : W p l e R s m args below meth c H locs cells slots Q (F0 m pc ls st0) := by
  subst hws
  obtain ⟨hP, hD, hS⟩ := hW
  have hF := va_free (wc := wc) hD hS hA is hC
  intro T hT X
  obtain ⟨v, st₀, t, T', L, h0, X', hL, e1, e2, ⟨⟨hv, hP1, hD1⟩, hz, hk⟩, st⟩ := hr T hT X
  cases hv
  rw [h0] at hz hk
  have hk' : ∀ q : Nat, q < H.size → ¬ va_A wc H.size q → t.heap[q]? = H[q]? := fun q h1 h2 => hk q h1 h2
  obtain ⟨j1, j2⟩ := m_join hP hD is hC hnd hl hk' hF hP1 hD1
  obtain ⟨t2, a1, b1⟩ := kk T'.heap (locs ++ L) ⟨by rw [e1]; exact j1, j2, Nat.le_trans hS.1 (by rw [e1]; exact hz), fun q h1 h2 => by rw [e1, hk q (Nat.lt_of_lt_of_le h1 hS.1) (fun z => h2 (hF q z))]; exact hS.2.1 q h1 h2, fun q hq => by
      rcases List.mem_append.mp hq with h | h
      · exact hS.2.2 q h
      · exact hF _ (hL q h)⟩ T' rfl X'
  exact ⟨t2, st t2 a1, b1⟩
theorem m_pre (X : m_X p s m args c cc nL own E A) (hW : m_H E A ws s.heap H locs) (hA : ∀ q, s.heap.size ≤ q → A q) {wc : va_W} {av : List Value} (is : List Nat) (hnd : va_nd is = true) (hC : is.map (fun i => ws[i]?) = wc.map some) (U : State) (hU : U.heap = H) (hWm : s.WarmedH U.vm) : m_Pc E wc H.size av av.toArray U := by
  obtain ⟨hP, hD, hS⟩ := hW
  have hs : is.filterMap (fun i => ws[i]?) = wc := by
    have h : is.filterMap (fun i => ws[i]?) = (is.map (fun i => ws[i]?)).filterMap id := by rw [List.filterMap_map]; rfl
    rw [h, hC, List.filterMap_map]
    simp
  exact ⟨rfl, by rw [hU], by rw [hU]; exact hP.sub is hs, va_K.moved hWm.alike X.2.2.2.2.2.1, (hD.sub is hnd hC).weaken (fun _ _ _ _ => trivial), nwK.warm hWm X.2.2.2.2.2.2.1, by rw [hU]; exact ((X.2.2.2.2.2.2.2.kept hS.2.1).narrow (va_free (wc := wc) hD hS hA is hC)).warm hWm⟩
variable {y : MethodName} {b : ByteArray} {nl n : Nat} {ret : Option FieldType} {rm : Room} {wc w1 ws' : va_W} {ov : Option Value} {As : List Value}
/-- what stands in the tables of a call -/
def m_LkV (own : String) (index : Nat) (y : MethodName) (b : ByteArray) (nl : Nat) (ret : Option FieldType) (n : Nat) : Prop := GoodIn gwt (wsV own index y.cls y (.code y b nl ret :: gwt)) ∧ (y.cls ≠ "java/lang/invoke/MethodHandle" ∧ y.cls ≠ "java/lang/invoke/VarHandle" ∧ (parseMethodDescriptor y.desc).map (fun d => d.parameters.length) = some n)
def m_LkS (own : String) (index : Nat) (y : MethodName) (b : ByteArray) (nl : Nat) (ret : Option FieldType) (n : Nat) : Prop := GoodIn gwt (.code y b nl ret :: gwt) ∧ .methodLink own index y ∈ gwt ∧ .static y ∈ gwt ∧ .initialized y.cls ∈ gwt ∧ (y.cls ≠ "java/lang/invoke/MethodHandle" ∧ y.cls ≠ "java/lang/invoke/VarHandle" ∧ (parseMethodDescriptor y.desc).map (fun d => d.parameters.length) = some n)
def m_LkN (own : String) (index : Nat) (y : MethodName) (host : String) (b : ByteArray) (nl : Nat) (ret : Option FieldType) (n : Nat) : Prop := GoodIn gwt (.code y b nl ret :: gwt) ∧ (own, index, y, host) ∈ nwt ∧ .static y ∈ gwt ∧ .initialized y.cls ∈ gwt ∧ (y.cls ≠ "java/lang/invoke/MethodHandle" ∧ y.cls ≠ "java/lang/invoke/VarHandle" ∧ (parseMethodDescriptor y.desc).map (fun d => d.parameters.length) = some n)
theorem m_lkV {index : Nat} (h1 : .methodLink own index y ∈ gwt) (h2 : .instanceMethod y ∈ gwt) (h3 : .selects y.cls y y ∈ gwt) (h4 : .initialized y.cls ∈ gwt) (h5 : .code y b nl ret ∈ gwt) (h6 : y.cls ≠ "java/lang/invoke/MethodHandle" ∧ y.cls ≠ "java/lang/invoke/VarHandle" ∧ (parseMethodDescriptor y.desc).map (fun d => d.parameters.length) = some n) : m_LkV own index y b nl ret n :=
  ⟨gw_all (List.forall_mem_cons.mpr ⟨h1, List.forall_mem_cons.mpr ⟨h2, List.forall_mem_cons.mpr ⟨h3, List.forall_mem_cons.mpr ⟨h4, List.forall_mem_cons.mpr ⟨h5, fun _ h => h⟩⟩⟩⟩⟩), h6⟩
theorem m_lkS {index : Nat} (h1 : .methodLink own index y ∈ gwt) (h2 : .static y ∈ gwt) (h4 : .initialized y.cls ∈ gwt) (h5 : .code y b nl ret ∈ gwt) (h6 : y.cls ≠ "java/lang/invoke/MethodHandle" ∧ y.cls ≠ "java/lang/invoke/VarHandle" ∧ (parseMethodDescriptor y.desc).map (fun d => d.parameters.length) = some n) : m_LkS own index y b nl ret n :=
  ⟨gw_all (List.forall_mem_cons.mpr ⟨h5, fun _ h => h⟩), h1, h2, h4, h6⟩
theorem m_lkN {index : Nat} {host : String} (h1 : (own, index, y, host) ∈ nwt) (h2 : .static y ∈ gwt) (h4 : .initialized y.cls ∈ gwt) (h5 : .code y b nl ret ∈ gwt) (h6 : y.cls ≠ "java/lang/invoke/MethodHandle" ∧ y.cls ≠ "java/lang/invoke/VarHandle" ∧ (parseMethodDescriptor y.desc).map (fun d => d.parameters.length) = some n) : m_LkN own index y host b nl ret n :=
  ⟨gw_all (List.forall_mem_cons.mpr ⟨h5, fun _ h => h⟩), h1, h2, h4, h6⟩
/-- the room of a call -/
def m_Rm (rm R : Room) (nl : Nat) : Prop := rm.cells = 0 ∧ rm.slots = 0 ∧ rm.frames + 1 ≤ R.frames ∧ 8 + (nl + 11) + rm.locals ≤ R.locals
theorem m_callVr (X : m_X p s m args c cc nL own E A) (hW : m_H E A ws s.heap H locs) (hA : ∀ q, s.heap.size ≤ q → A q) (hls : ls.size = nL) (K : m_LkV own index y b nl ret n) (M : m_Met l y b nl ret rm E wc w1 H.size (.ref a :: As) ov) (is : List Nat) (hnd : va_nd is = true) (hC : is.map (fun i => ws[i]?) = wc.map some) (hl : is.length = w1.length) (hws : m_put ws is w1 = ws') (hrc : ∃ cell : Cell, H[a]? = some cell ∧ cell.vm.isStatics = false ∧ s.vm.findClass y.cls = some cell.cls)
    {st0 : List Value} (hst : st0 = As.reverse ++ .ref a :: rest) (hn : As.length = n) (hR : m_Rm rm R nl) (hroom : (rest.map fun v => v.category).sum ≤ 8) (hc1 : cells ≤ R.cells) (hc2 : slots ≤ R.slots) (hdg : decode cc pc = .ok (.invokevirtual index, 3))
    (kk : ∀ (H : Heap) (locs : List Loc), m_H E A ws' s.heap H locs → W p l e R s m args below meth c H locs cells slots Q (F0 m (pc + 3) ls (ov.toList ++ rest))) : W p l e R s m args below meth c H locs cells slots Q (F0 m pc ls st0) := by
  exact m_goes hW hA is hnd hC hl hws (va_runV (As := As) (rest := rest) (C := y.cls) ⟨X.1, X.2.1, X.2.2.1, X.2.2.2.1, X.2.2.2.2.1⟩ M (cwV n X.2.2.2.2.1 K.1 rfl hR.1 hR.2.1 ⟨rfl, K.2⟩ hR.2.2) ⟨m_blind, hrc, fun U hU hWm => m_pre X hW hA is hnd hC U hU hWm⟩ rfl hn hls hst (lv_room hroom) hdg ⟨hc1, hc2⟩) kk
theorem m_callV (X : m_X p s m args c cc nL own E A) (hW : m_H E A ws s.heap H locs) (hA : ∀ q, s.heap.size ≤ q → A q) (hls : ls.size = nL) (K : m_LkV own index y b nl ret n) (M : m_Met l y b nl ret rm E wc w1 H.size (.ref a :: As) ov) (is : List Nat) (hnd : va_nd is = true) (hC : is.map (fun i => ws[i]?) = wc.map some) (hl : is.length = w1.length) (hws : m_put ws is w1 = ws') (q0 : Nat) {ci : Nat} {fs : List Value} {r : vw_C} (hq : ws[q0]? = some (a, .inr (ci, fs))) (hc : vwCl[ci]? = some r) (hcy : r.1 = y.cls)
    {st0 : List Value} (hst : st0 = As.reverse ++ .ref a :: rest) (hn : As.length = n) (hR : m_Rm rm R nl) (hroom : (rest.map fun v => v.category).sum ≤ 8) (hc1 : cells ≤ R.cells) (hc2 : slots ≤ R.slots) (hdg : decode cc pc = .ok (.invokevirtual index, 3))
    (kk : ∀ (H : Heap) (locs : List Loc), m_H E A ws' s.heap H locs → W p l e R s m args below meth c H locs cells slots Q (F0 m (pc + 3) ls (ov.toList ++ rest))) : W p l e R s m args below meth c H locs cells slots Q (F0 m pc ls st0) := by
  refine m_goes hW hA is hnd hC hl hws (va_runV (As := As) (rest := rest) (C := y.cls) ⟨X.1, X.2.1, X.2.2.1, X.2.2.2.1, X.2.2.2.2.1⟩ M (cwV n X.2.2.2.2.1 K.1 rfl hR.1 hR.2.1 ⟨rfl, K.2⟩ hR.2.2) ⟨m_blind, ?_, fun U hU hWm => m_pre X hW hA is hnd hC U hU hWm⟩ rfl hn hls hst (lv_room hroom) hdg ⟨hc1, hc2⟩) kk
  rw [← hcy]
  exact va_recv X.2.2.2.2.2.1 hW.1 hc hq
theorem m_callS (X : m_X p s m args c cc nL own E A) (hW : m_H E A ws s.heap H locs) (hA : ∀ q, s.heap.size ≤ q → A q) (hls : ls.size = nL) (K : m_LkS own index y b nl ret n) (M : m_Met l y b nl ret rm E wc w1 H.size As ov) (is : List Nat) (hnd : va_nd is = true) (hC : is.map (fun i => ws[i]?) = wc.map some) (hl : is.length = w1.length) (hws : m_put ws is w1 = ws')
    {st0 : List Value} (hst : st0 = As.reverse ++ rest) (hn : As.length = n) (hR : m_Rm rm R nl) (hroom : (rest.map fun v => v.category).sum ≤ 8) (hc1 : cells ≤ R.cells) (hc2 : slots ≤ R.slots) (hdg : decode cc pc = .ok (.invokestatic index, 3))
    (kk : ∀ (H : Heap) (locs : List Loc), m_H E A ws' s.heap H locs → W p l e R s m args below meth c H locs cells slots Q (F0 m (pc + 3) ls (ov.toList ++ rest))) : W p l e R s m args below meth c H locs cells slots Q (F0 m pc ls st0) := by
  have hts := X.2.2.2.2.1
  exact m_goes hW hA is hnd hC hl hws (va_runS (As := As) (rest := rest) ⟨X.1, X.2.1, X.2.2.1, X.2.2.2.1, hts⟩ M ⟨callB_of n hts K.1 rfl hR.1 hR.2.1 (hts _ K.2.2.2.1) (hts _ K.2.1) K.2.2.2.2 hR.2.2, hts _ K.2.2.1⟩ ⟨m_blind, fun U hU hWm => m_pre X hW hA is hnd hC U hU hWm⟩ rfl hn hls hst (lv_room hroom) hdg ⟨hc1, hc2⟩) kk
theorem m_callN {host : String} (X : m_X p s m args c cc nL own E A) (hW : m_H E A ws s.heap H locs) (hA : ∀ q, s.heap.size ≤ q → A q) (hls : ls.size = nL) (K : m_LkN own index y host b nl ret n) (M : m_Met l y b nl ret rm E wc w1 H.size As ov) (is : List Nat) (hnd : va_nd is = true) (hC : is.map (fun i => ws[i]?) = wc.map some) (hl : is.length = w1.length) (hws : m_put ws is w1 = ws')
    {st0 : List Value} (hst : st0 = As.reverse ++ rest) (hn : As.length = n) (hR : m_Rm rm R nl) (hroom : (rest.map fun v => v.category).sum ≤ 8) (hc1 : cells ≤ R.cells) (hc2 : slots ≤ R.slots) (hdg : decode cc pc = .ok (.invokestatic index, 3))
    (kk : ∀ (H : Heap) (locs : List Loc), m_H E A ws' s.heap H locs → W p l e R s m args below meth c H locs cells slots Q (F0 m (pc + 3) ls (ov.toList ++ rest))) : W p l e R s m args below meth c H locs cells slots Q (F0 m pc ls st0) := by
  have hts := X.2.2.2.2.1
  exact m_goes hW hA is hnd hC hl hws (va_runSN (host := host) (As := As) (rest := rest) ⟨X.1, X.2.1, X.2.2.1, X.2.2.2.1, hts⟩ M ⟨va_cnB n hts K.1 rfl hR.1 hR.2.1 (X.2.2.2.2.2.2.1.1 _ K.2.1) (hts _ K.2.2.2.1) K.2.2.2.2 hR.2.2, hts _ K.2.2.1, trivial⟩ ⟨m_blind, fun U hU hWm => m_pre X hW hA is hnd hC U hU hWm⟩ rfl hn hls hst (lv_room hroom) hdg ⟨hc1, hc2⟩) kk
end MR
/-- a constructor's contract: its world behind it, at some addresses; it makes mc cells of ms slots -/
def m_Qi (E : m_E) (ws : va_W) (wf : (Nat → Nat) → va_W) (sz : Nat) : Array Value → State → Outcome → State → Prop := fun _ st oc t => (∃ f : Nat → Nat, oc = .returned none ∧ va_P E.1 vwCl (wf f) t.heap ∧ va_D (va_A ws sz) (wf f)) ∧ va_F (va_A ws sz) st t
def m_MetI (l : Launch) (y : MethodName) (b : ByteArray) (nl : Nat) (rm : Room) (E : m_E) (ws : va_W) (wf : (Nat → Nat) → va_W) (sz : Nat) (av : List Value) (mc ms : Nat) : Prop :=
  Met l y (.code y b nl none :: gwt) rm (m_Pc E ws sz av) (m_Qi E ws wf sz) mc ms (va_A ws sz)
theorem m_beginI {l : Launch} {y : MethodName} {b : ByteArray} {nl mc ms : Nat} {rm : Room} {E : m_E} {ws : va_W} {wf : (Nat → Nat) → va_W} {sz : Nat} {av : List Value} (hy : plainName y.cls = true) (hlen : (lg_sl av).length ≤ nl)
    (body : ∀ (p : Program) (e : Env) (s : State) (m : MethodId) (args : Array Value) (below : List Frame) (meth : Method) (c : Code) (A : Nat → Prop) (Q : State → Prop) (ls : Array Slot), m_X p s m args c b nl y.cls E A → m_H E A ws s.heap s.heap [] → (∀ q, s.heap.size ≤ q → A q) → lv_has ls nl (lv_args 0 av) → meth.name = y.name →
      (∀ (f : Nat → Nat) (H : Heap) (locs : List Loc) (pc : Nat) (ls : Array Slot), m_H E A (wf f) s.heap H locs → decode b pc = .ok (.return_, 1) → W p l e rm s m args below meth c H locs mc ms Q (F0 m pc ls [])) → W p l e rm s m args below meth c s.heap [] 0 0 Q (F0 m 0 ls [])) : m_MetI l y b nl rm E ws wf sz av mc ms := by
  refine Met.ofW (cc := b) (maxL := nl) (ret := none) hy rfl ?_
  intro p e s m args below meth c s₁ B hml hv
  obtain ⟨rfl, hsz, hP, hK, hD0, hN, hG⟩ := hv
  have hts := atoms_spec (ws := .code y b nl none :: gwt) B.pre
  subst hsz
  have hD := hD0.self (sz := s.heap.size)
  have hl := lv_entry av (n := nl) hlen
  rw [lg_entry_eq]
  exact body p e s m av.toArray below meth c _ _ _ ⟨B.exec, B.bytes, hml, findClass_of_methodNamed B.named, fun w hw => hts w (List.mem_cons_of_mem _ hw), hK, hN, hG⟩ ⟨hP, hD, va_S.rf⟩ (fun q h => Or.inr h) hl (name_of_methodNamed B.named B.method).1
    (fun f H locs pc ls hH hdg => W.vret B.exec B.bytes B.returns (fun t ht _ => ⟨⟨f, rfl, by rw [ht]; exact hH.1, hH.2.1⟩, hH.2.2.F ht⟩) hH.2.2.2.2 hdg B.notSynchronized)
section MI
variable {p : Program} {l : Launch} {e : Env} {R : Room} {s : State} {m : MethodId} {args : Array Value} {below : List Frame} {meth : Method} {c : Code} {H : Heap} {locs : List Loc} {cells slots : Nat} {Q : State → Prop}
variable {cc : ByteArray} {pc nL : Nat} {ls : Array Slot} {rest : List Value} {E : m_E} {A : Nat → Prop} {a : Nat} {ws : va_W} {own : String} {index : Nat}
theorem m_goesI {wf : (Nat → Nat) → va_W} {wc wr : va_W} {mc ms cells' slots' : Nat} {st0 : List Value} {a9 : Array Value} (hW : m_H E A ws s.heap H locs) (hA : ∀ q, s.heap.size ≤ q → A q) (isC isR : List Nat) (hC : isC.map (fun i => ws[i]?) = wc.map some) (hR : isR.map (fun i => ws[i]?) = wr.map some) (hn : va_nd isR = true) (hdis : ∀ i ∈ isR, i ∉ isC) (hc' : cells + mc = cells') (hs' : slots + ms = slots')
    (hr : va_Run p l e R s m args below meth c H locs cells slots mc ms (F0 m pc ls st0) rest (m_Qi E wc wf H.size a9) (va_A wc H.size))
    (kk : ∀ (f : Nat → Nat) (H : Heap) (locs : List Loc), m_H E A (wr ++ wf f) s.heap H locs → W p l e R s m args below meth c H locs cells' slots' Q (F0 m (pc + 3) ls rest)) : W p l e R s m args below meth c H locs cells slots Q (F0 m pc ls st0) := by
  subst hc' hs'
  obtain ⟨hP, hD, hS⟩ := hW
  have hF := va_free (wc := wc) hD hS hA isC hC
  intro T hT X
  obtain ⟨v, st₀, t, T', L, h0, X', hL, e1, e2, ⟨⟨f, hv, hP1, hD1⟩, hz, hk⟩, st⟩ := hr T hT X
  cases hv
  rw [h0] at hz hk
  obtain ⟨j1, j2⟩ := va_join hP hD isC isR hC hR hn hdis (fun q h1 h2 => hk q h1 h2) hF hP1 hD1
  obtain ⟨t2, a1, b1⟩ := kk f T'.heap (locs ++ L) ⟨by rw [e1]; exact j1, j2, Nat.le_trans hS.1 (by rw [e1]; exact hz), fun q h1 h2 => by rw [e1, hk q (Nat.lt_of_lt_of_le h1 hS.1) (fun z => h2 (hF q z))]; exact hS.2.1 q h1 h2, fun q hq => by
      rcases List.mem_append.mp hq with h | h
      · exact hS.2.2 q h
      · exact hF _ (hL q h)⟩ T' rfl X'
  exact ⟨t2, st t2 a1, b1⟩
theorem m_preI (X : m_X p s m args c cc nL own E A) (hW : m_H E A ws s.heap H locs) (hA : ∀ q, s.heap.size ≤ q → A q) {wc : va_W} {av : List Value} (is : List Nat) (hnd : va_nd is = true) (hC : is.map (fun i => ws[i]?) = wc.map some) (U : State) (hU : U.heap = H) (hWm : s.WarmedH U.vm) : m_Pc E wc H.size av av.toArray U := m_pre X hW hA is hnd hC U hU hWm
/-- a constructor, of a class that may be linked as usual / of the nest -/
theorem m_callI {y : MethodName} {b : ByteArray} {nl n mc ms cells' slots' : Nat} {rm : Room} {wc wr : va_W} {wf : (Nat → Nat) → va_W} {As : List Value} (X : m_X p s m args c cc nL own E A) (hW : m_H E A ws s.heap H locs) (hA : ∀ q, s.heap.size ≤ q → A q) (hls : ls.size = nL) (h1 : .methodLink own index y ∈ gwt) (h2 : .instanceMethod y ∈ gwt) (h4 : .initialized y.cls ∈ gwt) (h5 : .code y b nl none ∈ gwt) (h6 : y.cls ≠ "java/lang/invoke/MethodHandle" ∧ y.cls ≠ "java/lang/invoke/VarHandle" ∧ (parseMethodDescriptor y.desc).map (fun d => d.parameters.length) = some n) (h7 : y.name = "<init>")
    (M : m_MetI l y b nl rm E wc wf H.size (.ref a :: As) mc ms) (isC isR : List Nat) (hnd : va_nd isC = true) (hC : isC.map (fun i => ws[i]?) = wc.map some) (hR : isR.map (fun i => ws[i]?) = wr.map some) (hn : va_nd isR = true) (hdis : ∀ i ∈ isR, i ∉ isC) (hc' : cells + mc = cells') (hs' : slots + ms = slots') {st0 : List Value} (hst : st0 = As.reverse ++ .ref a :: rest) (hna : As.length = n) (hRm : rm.cells = mc ∧ rm.slots = ms ∧ rm.frames + 1 ≤ R.frames ∧ 8 + (nl + 11) + rm.locals ≤ R.locals) (hroom : (rest.map fun v => v.category).sum ≤ 8) (hf : cells + mc ≤ R.cells ∧ slots + ms ≤ R.slots) (hdg : decode cc pc = .ok (.invokespecial index, 3))
    (kk : ∀ (f : Nat → Nat) (H : Heap) (locs : List Loc), m_H E A (wr ++ wf f) s.heap H locs → W p l e R s m args below meth c H locs cells' slots' Q (F0 m (pc + 3) ls rest)) : W p l e R s m args below meth c H locs cells slots Q (F0 m pc ls st0) := by
  have hts := X.2.2.2.2.1
  exact m_goesI hW hA isC isR hC hR hn hdis hc' hs' (va_runI (As := As) (rest := rest) ⟨X.1, X.2.1, X.2.2.1, X.2.2.2.1, hts⟩ M (cwI n hts (gw_all (List.forall_mem_cons.mpr ⟨h5, fun _ h => h⟩)) rfl hRm.1 hRm.2.1 (hts _ h4) (hts _ h1) (hts _ h2) h7 h6 hRm.2.2) ⟨m_blind, fun U hU hWm => m_pre X hW hA isC hnd hC U hU hWm⟩ rfl hna hls hst (lv_room hroom) hdg hf) kk
theorem m_callIN {y : MethodName} {host : String} {b : ByteArray} {nl n mc ms cells' slots' : Nat} {rm : Room} {wc wr : va_W} {wf : (Nat → Nat) → va_W} {As : List Value} (X : m_X p s m args c cc nL own E A) (hW : m_H E A ws s.heap H locs) (hA : ∀ q, s.heap.size ≤ q → A q) (hls : ls.size = nL) (h1 : (own, index, y, host) ∈ nwt) (h2 : .instanceMethod y ∈ gwt) (h4 : .initialized y.cls ∈ gwt) (h5 : .code y b nl none ∈ gwt) (h6 : y.cls ≠ "java/lang/invoke/MethodHandle" ∧ y.cls ≠ "java/lang/invoke/VarHandle" ∧ (parseMethodDescriptor y.desc).map (fun d => d.parameters.length) = some n) (h7 : y.name = "<init>")
    (M : m_MetI l y b nl rm E wc wf H.size (.ref a :: As) mc ms) (isC isR : List Nat) (hnd : va_nd isC = true) (hC : isC.map (fun i => ws[i]?) = wc.map some) (hR : isR.map (fun i => ws[i]?) = wr.map some) (hn : va_nd isR = true) (hdis : ∀ i ∈ isR, i ∉ isC) (hc' : cells + mc = cells') (hs' : slots + ms = slots') {st0 : List Value} (hst : st0 = As.reverse ++ .ref a :: rest) (hna : As.length = n) (hRm : rm.cells = mc ∧ rm.slots = ms ∧ rm.frames + 1 ≤ R.frames ∧ 8 + (nl + 11) + rm.locals ≤ R.locals) (hroom : (rest.map fun v => v.category).sum ≤ 8) (hf : cells + mc ≤ R.cells ∧ slots + ms ≤ R.slots) (hdg : decode cc pc = .ok (.invokespecial index, 3))
    (kk : ∀ (f : Nat → Nat) (H : Heap) (locs : List Loc), m_H E A (wr ++ wf f) s.heap H locs → W p l e R s m args below meth c H locs cells' slots' Q (F0 m (pc + 3) ls rest)) : W p l e R s m args below meth c H locs cells slots Q (F0 m pc ls st0) := by
  have hts := X.2.2.2.2.1
  exact m_goesI hW hA isC isR hC hR hn hdis hc' hs' (va_runIN (host := host) (As := As) (rest := rest) ⟨X.1, X.2.1, X.2.2.1, X.2.2.2.1, hts⟩ M ⟨va_cnB n hts (gw_all (List.forall_mem_cons.mpr ⟨h5, fun _ h => h⟩)) rfl hRm.1 hRm.2.1 (X.2.2.2.2.2.2.1.1 _ h1) (hts _ h4) h6 hRm.2.2, h7, hts _ h2⟩ ⟨m_blind, fun U hU hWm => m_pre X hW hA isC hnd hC U hU hWm⟩ rfl hna hls hst (lv_room hroom) hdg hf) kk
theorem m_new {ci N cells' slots' : Nat} {C : String} {T : u_T} (ty : Nat → FieldType) (X : m_X p s m args c cc nL own E A) (hW : m_H E A ws s.heap H locs) (hA : ∀ q, s.heap.size ≤ q → A q) (hin : ∀ w ∈ u_ws C T N, w ∈ gwt) (hty : ∀ k, k < N → parseFieldDescriptor (T k).2.2.1 = some (ty k)) (hc : vwCl[ci]? = some (C, T, N)) (h1 : .classLink own index C ∈ gwt) (h2 : .instantiable C N ∈ gwt) (h3 : .initialized C ∈ gwt) {fs : List Value} (hfs : ∀ j, j < N → defaultValue (ty j) = vp_V fs j) (hc' : cells + 1 = cells') (hs' : slots + N = slots') (hcells : cells + 1 ≤ R.cells) (hslots : slots + N ≤ R.slots) (hdg : decode cc pc = .ok (.new index, 3))
    (kk : ∀ (q : Nat) (H : Heap), m_H E A (ws ++ [(q, .inr (ci, fs))]) s.heap H locs → W p l e R s m args below meth c H locs cells' slots' Q (F0 m (pc + 3) ls (.ref q :: rest))) : W p l e R s m args below meth c H locs cells slots Q (F0 m pc ls rest) := by
  subst hc' hs'
  have hts := X.2.2.2.2.1
  exact va_new X.1 X.2.1 hts hin ty hty X.2.2.2.1 (hts _ h1) (hts _ h2) (hts _ h3) X.2.2.2.2.2.1 hW.1 hW.2.1 hW.2.2 hA hc hfs hcells hslots hdg (fun q H g1 g2 g3 => kk q H ⟨g1, g2, g3⟩)
theorem m_newa {atype : ArrayType} {ty : FieldType} {t0 n' cells' slots' : Nat} (X : m_X p s m args c cc nL own E A) (hW : m_H E A ws s.heap H locs) (hA : ∀ q, s.heap.size ≤ q → A q) (hty : newarray.typeOf atype = ty) (harr : .arrayClass ty ∈ gwt) (ht : (tysG E.2.1)[t0]? = some (E.2.1 t0, ty)) (hob : ∀ C, ty ≠ .object C) (hd : defaultValue ty = .int 0) {n : Int32} (hn : ¬ n < 0) (hN : n.toNatClampNeg = n') (hbytes : n' * componentBytes ty ≤ 536870912) (hc' : cells + 1 = cells') (hs' : slots + n' = slots') (hcells : cells + 1 ≤ R.cells) (hslots : slots + n' ≤ R.slots) (hdg : decode cc pc = .ok (.newarray atype, 2))
    (kk : ∀ (q : Nat) (H : Heap), m_H E A (ws ++ [(q, .inl (E.2.1 t0, n', .inl (fun _ => 0)))]) s.heap H locs → W p l e R s m args below meth c H locs cells' slots' Q (F0 m (pc + 2) ls (.ref q :: rest))) : W p l e R s m args below meth c H locs cells slots Q (F0 m pc ls (.int n :: rest)) := by
  subst hc' hs'
  have hts := X.2.2.2.2.1
  refine va_newa (a0 := (n', .inl (fun _ => 0))) X.1 X.2.1 (by rw [hty]; exact hts _ harr) hty X.2.2.2.2.2.1 hW.1 hW.2.1 hW.2.2 hA (fun cA => by rw [hd]; rfl) hn hN hbytes hcells hslots hdg (fun q cA H1 hK1 g1 g2 g3 => ?_)
  have ra : ∀ {c9 : ClassId}, va_RA s c9 ty → s.vm.findClass ("[" ++ ty.toString) = some c9 := by
    intro c9 h
    cases ty <;> first | exact h | exact absurd rfl (hob _)
  have e1 := ra (X.2.2.2.2.2.1.2 t0 _ ht).2
  have e2 := ra (hK1.2 4 (cA, ty) rfl).2
  have e : cA = E.2.1 t0 := Option.some.inj (e2.symm.trans e1)
  subst e
  exact kk q H1 ⟨g1, g2, g3⟩
theorem m_newq {n' cells' slots' : Nat} (X : m_X p s m args c cc nL own E A) (hW : m_H E A ws s.heap H locs) (hA : ∀ q, s.heap.size ≤ q → A q) (h1 : .classLink own index "ShedTalk$Natural" ∈ gwt) {n : Int32} (hn : ¬ n < 0) (hN : n.toNatClampNeg = n') (hbytes : n' * 4 ≤ 536870912) (hc' : cells + 1 = cells') (hs' : slots + n' = slots') (hcells : cells + 1 ≤ R.cells) (hslots : slots + n' ≤ R.slots) (hdg : decode cc pc = .ok (.anewarray index, 3))
    (kk : ∀ (q : Nat) (H : Heap), m_H E A (ws ++ [(q, .inl (E.2.1 2, n', .inr (.inr (.inr (.inr (fun _ => none))))))]) s.heap H locs → W p l e R s m args below meth c H locs cells' slots' Q (F0 m (pc + 3) ls (.ref q :: rest))) : W p l e R s m args below meth c H locs cells slots Q (F0 m pc ls (.int n :: rest)) := by
  subst hc' hs'
  have hts := X.2.2.2.2.1
  refine va_newq X.1 X.2.1 X.2.2.2.1 (hts _ h1) X.2.2.2.2.2.2.1.2.1 X.2.2.2.2.2.1 hW.1 hW.2.1 hW.2.2 hA hn hN hbytes hcells hslots hdg (fun q cA H1 hK1 g1 g2 g3 => ?_)
  obtain ⟨kA, comp, -, -, -, e1⟩ := (X.2.2.2.2.2.1.2 2 (E.2.1 2, .object "ShedTalk$Natural") rfl).2
  obtain ⟨kA2, comp2, -, -, -, e2⟩ := (hK1.2 4 (cA, .object "ShedTalk$Natural") rfl).2
  have e : cA = E.2.1 2 := Option.some.inj (e2.symm.trans e1)
  subst e
  exact kk q H1 ⟨g1, g2, g3⟩
theorem m_putFin (X : m_X p s m args c cc nL own E A) (hW : m_H E A ws s.heap H locs) {ci k : Nat} {ty : FieldType} (F : m_Fd own index ci k ty true) (hm : meth.name = "<init>") (hown : ∀ C T N, vwCl[ci]? = some (C, T, N) → C = own) (q0 : Nat) {fs : List Value} {v : Value} (he : ws[q0]? = some (a, .inr (ci, fs))) (hl : k < fs.length) (hn : narrow ty v = v) (hf : fits ty v = true) (hdg : decode cc pc = .ok (.putfield index, 3)) {ws' : va_W} (hws : ws.set q0 (a, .inr (ci, fs.set k v)) = ws')
    (kk : ∀ (H : Heap) (locs : List Loc), m_H E A ws' s.heap H locs → W p l e R s m args below meth c H locs cells slots Q (F0 m (pc + 3) ls rest)) : W p l e R s m args below meth c H locs cells slots Q (F0 m pc ls (v :: .ref a :: rest)) := by
  obtain ⟨hx, hb, -, hown2, hts, hK, -, -⟩ := X
  obtain ⟨C, T, N, ty0, hc, hk, hin, hty, hnm, hlk, hd, hfin, hC⟩ := F
  subst hws
  exact va_putF hx hb hts hin ty0 hty hnm hown2 hK hW.1 hW.2.1 hW.2.2 q0 he hc k hk (hts _ hlk) (fun _ h => h) hfin hm (hC.trans (hown C T N hc)) hd hn hf hl hdg (fun H locs h1 h2 h3 => kk H locs ⟨h1, h2, h3⟩)
theorem m_astq (X : m_X p s m args c cc nL own E A) (hW : m_H E A ws s.heap H locs) (q0 qk : Nat) {n v k : Nat} {vs : List Value} {f : Nat → Option Nat} (ha : ws[q0]? = some (a, .inl (E.2.1 2, n, .inr (.inr (.inr (.inr f)))))) (hv : ws[qk]? = some (v, .inr (4, vs))) {i : Int32} (hin : ixb i n = true) (hk : i.toNatClampNeg = k) (hdg : decode cc pc = .ok (.aastore, 1)) {ws' : va_W} (hws : ws.set q0 (a, .inl (E.2.1 2, n, .inr (.inr (.inr (.inr (va_up f k (some v))))))) = ws')
    (kk : ∀ (H : Heap) (locs : List Loc), m_H E A ws' s.heap H locs → W p l e R s m args below meth c H locs cells slots Q (F0 m (pc + 1) ls rest)) : W p l e R s m args below meth c H locs cells slots Q (F0 m pc ls (.ref v :: .int i :: .ref a :: rest)) := by
  subst hk hws
  exact va_astq (r := (RX4, TX4, 2)) X.1 X.2.1 X.2.2.2.2.2.1 hW.1 hW.2.1 hW.2.2 q0 2 qk 4 ha rfl hv rfl (ixb_vp hin) hdg (fun H locs h1 h2 h3 => kk H locs ⟨h1, h2, h3⟩)
end MI
/-- a boolean's answer is narrowed -/
theorem W.zretN {p : Program} {l : Launch} {e : Env} {R : Room} {s : State} {m : MethodId} {args : Array Value} {below : List Frame} {meth : Method} {c : Code} {H : Heap} {locs : List Loc} {cells slots : Nat} {cc : ByteArray} {Qc : Array Value → State → Outcome → State → Prop} {free : Addr → Prop} {v v' : Int32} {ty : FieldType} (hexec : p.tables.exec = Jvm.exec) (hb : c.code = cc) (hr : meth.sig.returnType = some ty) (hn : narrow ty (.int v) = .int v')
    (hq : ∀ t : State, t.heap = H → s.WarmedH t.vm → Qc args s (.returned (some (.int v'))) t) (hf : ∀ q ∈ locs, free q.base)
    {pc : Nat} {ls : Array Slot} (hdg : decode cc pc = .ok (.ireturn, 1)) (hlocks : meth.locks = false) : W p l e R s m args below meth c H locs cells slots (MQ below Qc args s cells slots free) (F0 m pc ls [.int v]) := by
  intro T hT X
  obtain ⟨fs, hret, hrun, hended, hW, hframe⟩ := X.leave (v := some (.int v')) (fun h => by rw [hr] at h; cases h)
  have hmeth' : T.vm.method? m = some meth := X.method'
  refine ⟨T.setFrames fs, ?_, .returned (some (.int v')), hrun, hended, hq _ hT hW, locs, ⟨⟨_, rfl⟩, hW, hframe⟩, hf⟩
  jvm_step X.here [X.here.top, hexec, hb, hdg, hmeth', hr, hn]
  (try refine ⟨rfl, ?_⟩); (try refine ⟨rfl, ?_⟩)
  first | (intro acts; rw [hret _ acts rfl rfl rfl]) | rw [hret _ _ rfl rfl rfl]
  exact Steps.refl _
theorem m_bool (v : Int32) : narrow .boolean (.int v) = .int (vp_nar .boolean v) := by
  simp [narrow, vp_nar]
section MO
variable {l : Launch} {y : MethodName} {b : ByteArray} {nl : Nat} {rm : Room} {E : m_E} {ws ws' : va_W} {sz : Nat} {av : List Value}
theorem m_begin {ret : Option FieldType} {ov : Option Value} (hy : plainName y.cls = true) (hlen : (lg_sl av).length ≤ nl)
    (body : ∀ (p : Program) (e : Env) (s : State) (m : MethodId) (args : Array Value) (below : List Frame) (meth : Method) (c : Code) (A : Nat → Prop) (ls : Array Slot), m_X p s m args c b nl y.cls E A → m_H E A ws s.heap s.heap [] → (∀ q, s.heap.size ≤ q → A q) → lv_has ls nl (lv_args 0 av) → va_A ws s.heap.size = A → meth.sig.returnType = ret → meth.locks = false →
      W p l e rm s m args below meth c s.heap [] 0 0 (MQ below (m_Qc ov E ws ws' s.heap.size) args s 0 0 A) (F0 m 0 ls [])) : m_Met l y b nl ret rm E ws ws' sz av ov := by
  refine Met.ofW (cc := b) (maxL := nl) (ret := ret) hy rfl ?_
  intro p e s m args below meth c s₁ B hml hv
  obtain ⟨rfl, hsz, hP, hK, hD0, hN, hG⟩ := hv
  have hts := atoms_spec (ws := .code y b nl ret :: gwt) B.pre
  subst hsz
  have hD := hD0.self (sz := s.heap.size)
  have hl := lv_entry av (n := nl) hlen
  rw [lg_entry_eq]
  exact body p e s m av.toArray below meth c _ _ ⟨B.exec, B.bytes, hml, findClass_of_methodNamed B.named, fun w hw => hts w (List.mem_cons_of_mem _ hw), hK, hN, hG⟩ ⟨hP, hD, va_S.rf⟩ (fun q h => Or.inr h) hl rfl B.returns B.notSynchronized
theorem m_ofI {v : Int32} (hy : plainName y.cls = true) (hlen : (lg_sl av).length ≤ nl)
    (body : ∀ (p : Program) (e : Env) (s : State) (m : MethodId) (args : Array Value) (below : List Frame) (meth : Method) (c : Code) (A : Nat → Prop) (Q : State → Prop) (ls : Array Slot), m_X p s m args c b nl y.cls E A → m_H E A ws s.heap s.heap [] → (∀ q, s.heap.size ≤ q → A q) → lv_has ls nl (lv_args 0 av) →
      (∀ (H : Heap) (locs : List Loc) (pc : Nat) (ls : Array Slot), m_H E A ws' s.heap H locs → decode b pc = .ok (.ireturn, 1) → W p l e rm s m args below meth c H locs 0 0 Q (F0 m pc ls [.int v])) → W p l e rm s m args below meth c s.heap [] 0 0 Q (F0 m 0 ls [])) : m_Met l y b nl (some .int) rm E ws ws' sz av (some (.int v)) := by
  refine m_begin hy hlen (fun p e s m args below meth c A ls X hW hA hl hAe hr hk => body p e s m args below meth c A _ ls X hW hA hl (fun H locs pc ls hH hdg => ?_))
  subst hAe
  exact W.iret X.1 X.2.1 hr (fun t ht _ => ⟨⟨rfl, by rw [ht]; exact hH.1, hH.2.1⟩, hH.2.2.F ht⟩) hH.2.2.2.2 hdg hk
theorem m_ofJ {v : Int64} (hy : plainName y.cls = true) (hlen : (lg_sl av).length ≤ nl)
    (body : ∀ (p : Program) (e : Env) (s : State) (m : MethodId) (args : Array Value) (below : List Frame) (meth : Method) (c : Code) (A : Nat → Prop) (Q : State → Prop) (ls : Array Slot), m_X p s m args c b nl y.cls E A → m_H E A ws s.heap s.heap [] → (∀ q, s.heap.size ≤ q → A q) → lv_has ls nl (lv_args 0 av) →
      (∀ (H : Heap) (locs : List Loc) (pc : Nat) (ls : Array Slot), m_H E A ws' s.heap H locs → decode b pc = .ok (.lreturn, 1) → W p l e rm s m args below meth c H locs 0 0 Q (F0 m pc ls [.long v])) → W p l e rm s m args below meth c s.heap [] 0 0 Q (F0 m 0 ls [])) : m_Met l y b nl (some .long) rm E ws ws' sz av (some (.long v)) := by
  refine m_begin hy hlen (fun p e s m args below meth c A ls X hW hA hl hAe hr hk => body p e s m args below meth c A _ ls X hW hA hl (fun H locs pc ls hH hdg => ?_))
  subst hAe
  exact W.lret X.1 X.2.1 hr (fun t ht _ => ⟨⟨rfl, by rw [ht]; exact hH.1, hH.2.1⟩, hH.2.2.F ht⟩) hH.2.2.2.2 hdg hk
theorem m_ofZ {v : Int32} (hy : plainName y.cls = true) (hlen : (lg_sl av).length ≤ nl)
    (body : ∀ (p : Program) (e : Env) (s : State) (m : MethodId) (args : Array Value) (below : List Frame) (meth : Method) (c : Code) (A : Nat → Prop) (Q : State → Prop) (ls : Array Slot), m_X p s m args c b nl y.cls E A → m_H E A ws s.heap s.heap [] → (∀ q, s.heap.size ≤ q → A q) → lv_has ls nl (lv_args 0 av) →
      (∀ (H : Heap) (locs : List Loc) (pc : Nat) (ls : Array Slot) (u : Int32), vp_nar .boolean u = v → m_H E A ws' s.heap H locs → decode b pc = .ok (.ireturn, 1) → W p l e rm s m args below meth c H locs 0 0 Q (F0 m pc ls [.int u])) → W p l e rm s m args below meth c s.heap [] 0 0 Q (F0 m 0 ls [])) : m_Met l y b nl (some .boolean) rm E ws ws' sz av (some (.int v)) := by
  refine m_begin hy hlen (fun p e s m args below meth c A ls X hW hA hl hAe hr hk => body p e s m args below meth c A _ ls X hW hA hl (fun H locs pc ls u hu hH hdg => ?_))
  subst hAe hu
  exact W.zretN X.1 X.2.1 hr (m_bool u) (fun t ht _ => ⟨⟨rfl, by rw [ht]; exact hH.1, hH.2.1⟩, hH.2.2.F ht⟩) hH.2.2.2.2 hdg hk
theorem m_ofA {v : Nat} {C9 : String} (hy : plainName y.cls = true) (hlen : (lg_sl av).length ≤ nl)
    (body : ∀ (p : Program) (e : Env) (s : State) (m : MethodId) (args : Array Value) (below : List Frame) (meth : Method) (c : Code) (A : Nat → Prop) (Q : State → Prop) (ls : Array Slot), m_X p s m args c b nl y.cls E A → m_H E A ws s.heap s.heap [] → (∀ q, s.heap.size ≤ q → A q) → lv_has ls nl (lv_args 0 av) →
      (∀ (H : Heap) (locs : List Loc) (pc : Nat) (ls : Array Slot), m_H E A ws' s.heap H locs → decode b pc = .ok (.areturn, 1) → W p l e rm s m args below meth c H locs 0 0 Q (F0 m pc ls [.ref v])) → W p l e rm s m args below meth c s.heap [] 0 0 Q (F0 m 0 ls [])) : m_Met l y b nl (some (.object C9)) rm E ws ws' sz av (some (.ref v)) := by
  refine m_begin hy hlen (fun p e s m args below meth c A ls X hW hA hl hAe hr hk => body p e s m args below meth c A _ ls X hW hA hl (fun H locs pc ls hH hdg => ?_))
  subst hAe
  exact W.aret X.1 X.2.1 hr (Or.inl ⟨_, rfl⟩) (Or.inr ⟨_, rfl⟩) (fun t ht _ => ⟨⟨rfl, by rw [ht]; exact hH.1, hH.2.1⟩, hH.2.2.F ht⟩) hH.2.2.2.2 hdg hk
theorem m_ofV (hy : plainName y.cls = true) (hlen : (lg_sl av).length ≤ nl)
    (body : ∀ (p : Program) (e : Env) (s : State) (m : MethodId) (args : Array Value) (below : List Frame) (meth : Method) (c : Code) (A : Nat → Prop) (Q : State → Prop) (ls : Array Slot), m_X p s m args c b nl y.cls E A → m_H E A ws s.heap s.heap [] → (∀ q, s.heap.size ≤ q → A q) → lv_has ls nl (lv_args 0 av) →
      (∀ (H : Heap) (locs : List Loc) (pc : Nat) (ls : Array Slot), m_H E A ws' s.heap H locs → decode b pc = .ok (.return_, 1) → W p l e rm s m args below meth c H locs 0 0 Q (F0 m pc ls [])) → W p l e rm s m args below meth c s.heap [] 0 0 Q (F0 m 0 ls [])) : m_Met l y b nl none rm E ws ws' sz av none := by
  refine m_begin hy hlen (fun p e s m args below meth c A ls X hW hA hl hAe hr hk => body p e s m args below meth c A _ ls X hW hA hl (fun H locs pc ls hH hdg => ?_))
  subst hAe
  exact W.vret X.1 X.2.1 hr (fun t ht _ => ⟨⟨rfl, by rw [ht]; exact hH.1, hH.2.1⟩, hH.2.2.F ht⟩) hH.2.2.2.2 hdg hk
end MO
