/-! THE CLAIM OUT OF ONE WALK OF THE LAW'S BODY. Your part is whole_start (and what it stands on); all else here is the same for every law, but numbers. -/
def R_law : String := "ShedTalkLaw"
def lw_P (b : Addr) (xs : List Int32) (args : Array Value) (s : State) : Prop := args = #[.ref b] ∧ s.IntsAt b xs ∧ xs.length ≤ 320 ∧ (Jvm.Cond.and given_1 narrow_1).before args s = true
def lw_Q (_ : Array Value) (s : State) (o : Outcome) (t : State) : Prop := o = .returned (some (.int 1)) ∧ Framed s o t [] 600000 7302250
def lw_Z (below : List Frame) (a : Array Value) (s : State) : State → Prop := fun t => ∃ o, t.status = .running ∧ Ended t below o ∧ lw_Q a s o t
/-- the law's own end, with 1 on the stack, nothing written that was there before, its room as the claim has it -/
theorem lw_ret {p : Program} {l : Launch} {e : Env} {s : State} {m : MethodId} {below : List Frame} {meth : Method} {c : Code} {b : Nat} (hx : p.tables.exec = Jvm.exec) (hb : c.code = code) (hr : meth.sig.returnType = ret) (hlocks : meth.locks = false) {pc : Nat} {H : Heap} {ls : Array Slot} (hdg : decode code pc = .ok (.ireturn, 1)) : W p l e room_1 s m #[Value.ref b] below meth c H [] 600000 7302250 (lw_Z below #[Value.ref b] s) (F0 m pc ls [.int 1]) := by
  intro T hT X
  obtain ⟨fs, hret, hrun, hended, hW, hframe⟩ := X.leave (v := some (.int 1)) (hlocks := hlocks) (fun h => by rw [hr] at h; cases h)
  have hmeth' : T.vm.method? m = some meth := X.method'
  refine ⟨T.setFrames fs, ?_, .returned (some (.int 1)), hrun, hended, rfl, ⟨_, rfl⟩, hW, hframe⟩
  jvm_step X.here [X.here.top, hx, hb, hdg, hmeth', hr, ret, narrow_b1]
  (try refine ⟨rfl, ?_⟩); (try refine ⟨rfl, ?_⟩)
  first | (intro acts; rw [hret _ acts rfl rfl rfl]) | rw [hret _ _ rfl rfl rfl]
  exact Steps.refl _
/-- what holds at the law's entry: the machine, the code, the tables' words (any of lw_tbl by 'hts w (by decide +kernel)'), the script of L ints xs at the cell b, what the Statement gives of the start (any of its parts by flat_of_before) -/
def lw_At (p : Program) (s : State) (m : MethodId) (meth : Method) (c : Code) (b L : Nat) (xs : Nat → Int32) : Prop :=
  p.tables.exec = Jvm.exec ∧ c.code = code ∧ meth.sig.returnType = ret ∧ c.maxLocals = 4 ∧ s.vm.findClass R_law = some m.cls ∧ (∀ w ∈ lw_tbl, w.before #[Value.ref b] s = true) ∧ va_X b L xs s s.heap ∧ b < s.heap.size ∧ meth.locks = false ∧ (Jvm.Cond.and given_1 narrow_1).before #[Value.ref b] s = true
-- ===== YOUR PART BEGINS =====
def nwp : List Nat := [32, 75, 177, 196, 224, 268, 294, 339, 395, 515, 549, 550, 567, 589, 688, 715, 721, 875, 884, 1045, 1082, 1083, 1088, 1093, 1099, 1104]
theorem nwp_ok : ∀ k, k < 26 → tables_1[nwp.getD k 0]? = (nwt[k]?).map (fun q => Cond.methodLinkNest q.1 q.2.1 q.2.2.1 q.2.2.2) := by decide +kernel
theorem nwt_len : nwt.length = 26 := rfl
abbrev gvL : List Cond := Jvm.Free.XT.flat (Jvm.Cond.and given_1 narrow_1)
abbrev sTm (i : Nat) : Term := .string RX9 (strK.getD i (0, "")).1
abbrev tTm (n : String) : Term := .static RX9 n "[I"
theorem gv_ex : ∀ i, i < 7 → Cond.exactly (sTm i) "java/lang/String" ∈ gvL := by decide +kernel
theorem gv_co : ∀ i, i < 7 → Cond.eq (.field (sTm i) "java/lang/String" "coder" "B") (.int 0) ∈ gvL := by decide +kernel
theorem gv_ar : ∀ i, i < 7 → Cond.arrayOf (.field (sTm i) "java/lang/String" "value" "[B") .byte ∈ gvL := by decide +kernel
theorem gv_le : ∀ i, i < 7 → Cond.eq (.length (.field (sTm i) "java/lang/String" "value" "[B")) (.int (Int32.ofNat (strL.getD i 0))) ∈ gvL := by decide +kernel
theorem gv_el : ∀ i, i < 7 → ∀ j, j < strL.getD i 0 → Cond.eq (.elem (.field (sTm i) "java/lang/String" "value" "[B") (.int (Int32.ofNat j))) (.int ((strB.getD i []).getD j 0)) ∈ gvL := by decide +kernel
theorem gv_ne : ∀ i, i < 7 → ∀ j, j < 7 → i ≠ j → Cond.not (Cond.eq (sTm i) (sTm j)) ∈ gvL ∨ Cond.not (Cond.eq (sTm j) (sTm i)) ∈ gvL := by decide +kernel
theorem gv_LEAST : Cond.arrayOf (tTm "LEAST_NUMBERS_OF") .int ∈ gvL ∧ Cond.eq (.length (tTm "LEAST_NUMBERS_OF")) (.int (Int32.ofNat 7)) ∈ gvL ∧ ∀ j, j < 7 → Cond.eq (.elem (tTm "LEAST_NUMBERS_OF") (.int (Int32.ofNat j))) (.int (g_LEAST_NUMBERS_OF j)) ∈ gvL := by decide +kernel
theorem gv_MOST : Cond.arrayOf (tTm "MOST_NUMBERS_OF") .int ∈ gvL ∧ Cond.eq (.length (tTm "MOST_NUMBERS_OF")) (.int (Int32.ofNat 7)) ∈ gvL ∧ ∀ j, j < 7 → Cond.eq (.elem (tTm "MOST_NUMBERS_OF") (.int (Int32.ofNat j))) (.int (g_MOST_NUMBERS_OF j)) ∈ gvL := by decide +kernel
theorem gv_str : ∀ i, i < 7 → tables_1[921 + i]? = some (Cond.stringRef RX9 (strK.getD i (0, "")).1 (strK.getD i (0, "")).2) := by decide +kernel
theorem gv_cs : Cond.eq (.static "java/lang/String" "COMPACT_STRINGS" "Z") (.int 1) ∈ gvL ∧ Cond.isRef (.static "jdk/internal/util/Preconditions" "SIOOBE_FORMATTER" "Ljava/util/function/BiFunction;") ∈ gvL := by decide +kernel
set_option maxHeartbeats 4000000 in
theorem lw_X {p : Program} {s : State} {m : MethodId} {meth : Method} {c : Code} {b L : Nat} {xs : Nat → Int32} (C0 : lw_At p s m meth c b L xs) : ∃ E : m_E, m_X p s m #[.ref b] c cL_law 4 RL E (fun q => s.heap.size ≤ q) := by
  obtain ⟨hx, hb, hr, hml, hown, hts, hX, hbl, hlk, hgv⟩ := C0
  have hg : ∀ w ∈ gwt, w.before #[.ref b] s = true := fun w h => hts w (gw_in h)
  have hs := flat_of_before _ hgv
  have hA : ∀ a : Nat, a < s.heap.size → ¬ (fun q => s.heap.size ≤ q) a := fun a h h2 => Nat.not_le.mpr h h2
  obtain ⟨c0, i0, h0⟩ := u_known (T := TX0) (N := 9) hg kwX0 (hg _ wk_214)
  obtain ⟨c1, i1, h1⟩ := u_known (T := TX1) (N := 7) hg kwX1 (hg _ wk_37)
  obtain ⟨c2, i2, h2⟩ := u_known (T := TX2) (N := 2) hg kwX2 (hg _ wk_333)
  obtain ⟨c3, i3, h3⟩ := u_known (T := TX3) (N := 10) hg kwX3 (hg _ wk_95)
  obtain ⟨c4, i4, h4⟩ := u_known (T := TX4) (N := 2) hg kwX4 (hg _ wk_223)
  obtain ⟨c5, i5, h5⟩ := u_known (T := TX5) (N := 3) hg kwX5 (hg _ wk_176)
  obtain ⟨c6, i6, h6⟩ := u_known (T := TX6) (N := 4) hg kwX6 (hg _ wk_195)
  obtain ⟨c7, i7, h7⟩ := u_known (T := TX7) (N := 7) hg kwX7 (hg _ wk_31)
  obtain ⟨c8, i8, h8⟩ := u_known (T := TX8) (N := 4) hg kwX8 (hg _ wk_74)
  obtain ⟨c9, i9, h9⟩ := u_known (T := TX9) (N := 10) hg kwX9 (hg _ wk_293)
  obtain ⟨c10, i10, h10⟩ := u_known (T := TX10) (N := 6) hg kwX10 (hg _ wk_267)
  obtain ⟨c11, i11, h11⟩ := u_known (T := TX11) (N := 11) hg kwX11 (hg _ wk_23)
  obtain ⟨c12, i12, h12⟩ := u_known (T := TX12) (N := 26) hg kwX12 (hg _ wk_1106)
  obtain ⟨a0, kA0, kB0, f0, g0, j0⟩ := Cond.arrayClass_spec (hg _ wk_72)
  obtain ⟨a1, kA1, kB1, f1, g1, j1⟩ := Cond.arrayClass_spec (hg _ wk_1203)
  have o2 : va_AO "ShedTalk$Natural" s := va_AO.of (hts _ (List.mem_append_right _ (List.mem_of_getElem? (i := 222) (by decide +kernel))))
  have o3 : m_AOA .int s := (show (Cond.arrayOver (.array .int)).before #[Value.ref b] s = true from hts _ (List.mem_append_right _ (List.mem_of_getElem? (i := 220) (by decide +kernel))))
  obtain ⟨kB2, a2, kA2, f2, -, g2, j2, n2⟩ := Cond.arrayOver_spec (o2.use (A := #[]))
  obtain ⟨kB3, a3, kA3, f3, -, g3, j3, n3⟩ := m_AOA.spec o3
  obtain ⟨adK, adV, hS, hSe⟩ := vk_Sof (tm := sTm) (len := strL) (byt := strB) (A := fun q => s.heap.size ≤ q) (by decide +kernel) (fun i hi => hs _ (gv_ex i hi)) (fun i hi => hs _ (gv_co i hi)) (fun i hi => hs _ (gv_ar i hi)) (fun i hi => hs _ (gv_le i hi)) (fun i hi j hj => hs _ (gv_el i hi j hj)) (fun i j hi hj hn => (gv_ne i hi j hj hn).imp (fun h => hs _ h) (fun h => hs _ h)) hA
  obtain ⟨t0, u0, v0⟩ := va_Tof (tm := tTm "LEAST_NUMBERS_OF") (ty := .int) (N := 7) (f := fun j => .int (g_LEAST_NUMBERS_OF j)) (A := fun q => s.heap.size ≤ q) (by decide) (hs _ gv_LEAST.1) (Cond.eq_int (hs _ gv_LEAST.2.1) rfl) (fun j hj => Cond.eq_int (hs _ (gv_LEAST.2.2 j hj)) rfl) hA
  have z0 : va_Z RX9 "LEAST_NUMBERS_OF" "[I" (.ref t0) (fun q => s.heap.size ≤ q) s s.heap := va_Zof (hts _ (List.mem_append_right _ (List.mem_of_getElem? (i := 985) (by decide +kernel)))) (hg _ wk_11) u0 hA
  obtain ⟨t1, u1, v1⟩ := va_Tof (tm := tTm "MOST_NUMBERS_OF") (ty := .int) (N := 7) (f := fun j => .int (g_MOST_NUMBERS_OF j)) (A := fun q => s.heap.size ≤ q) (by decide) (hs _ gv_MOST.1) (Cond.eq_int (hs _ gv_MOST.2.1) rfl) (fun j hj => Cond.eq_int (hs _ (gv_MOST.2.2 j hj)) rfl) hA
  have z1 : va_Z RX9 "MOST_NUMBERS_OF" "[I" (.ref t1) (fun q => s.heap.size ≤ q) s s.heap := va_Zof (hts _ (List.mem_append_right _ (List.mem_of_getElem? (i := 987) (by decide +kernel)))) (hg _ wk_11) u1 hA
  refine ⟨((fun k => [c0, c1, c2, c3, c4, c5, c6, c7, c8, c9, c10, c11, c12].getD k 0, fun k => [i0, i1, i2, i3, i4, i5, i6, i7, i8, i9, i10, i11, i12].getD k (fun _ => 0)), fun k => [a0, a1, a2, a3].getD k 0, adK, adV, fun k => [t0, t1].getD k 0), hx, hb, hml, hown, hg, ⟨?_, ?_⟩, ⟨?_, o2, o3⟩, ?_⟩
  · intro k q hq
    match k, hq with
    | 0, hq => cases hq; exact h0
    | 1, hq => cases hq; exact h1
    | 2, hq => cases hq; exact h2
    | 3, hq => cases hq; exact h3
    | 4, hq => cases hq; exact h4
    | 5, hq => cases hq; exact h5
    | 6, hq => cases hq; exact h6
    | 7, hq => cases hq; exact h7
    | 8, hq => cases hq; exact h8
    | 9, hq => cases hq; exact h9
    | 10, hq => cases hq; exact h10
    | 11, hq => cases hq; exact h11
    | 12, hq => cases hq; exact h12
    | n + 13, hq => cases hq
  · intro k q hq
    match k, hq with
    | 0, hq => cases hq; exact ⟨fun N z => ⟨(fun k h => by cases h), kA0, g0, kB0, j0⟩, f0⟩
    | 1, hq => cases hq; exact ⟨fun N z => ⟨(fun k h => by cases h), kA1, g1, kB1, j1⟩, f1⟩
    | 2, hq => cases hq; exact ⟨fun N z => ⟨(fun k h => by cases h), kA2, g2, kB2, j2⟩, kA2, kB2, g2, j2, f2, n2⟩
    | 3, hq => cases hq; exact ⟨fun N z => ⟨(fun k h => by cases h), kA3, g3, kB3, j3⟩, n3⟩
    | n + 4, hq => cases hq
  · intro q hq
    obtain ⟨k, hk⟩ := List.getElem?_of_mem hq
    have hlt : k < 26 := by have := (List.getElem?_eq_some_iff.mp hk).1; rw [nwt_len] at this; exact this
    have h2 := nwp_ok k hlt
    rw [hk] at h2
    exact va_Nw.of rfl (hts _ (List.mem_append_right _ (List.mem_of_getElem? h2)))
  · refine ⟨fun i hi => vk_R.of (hts _ (List.mem_append_right _ (List.mem_of_getElem? (gv_str i hi)))) (hSe i hi), hS, z0, v0, z1, v1, va_Zof (hts _ (List.mem_append_right _ (List.mem_of_getElem? (i := 941) (by decide +kernel)))) (hg _ wk_17) (Cond.eq_int (hs _ gv_cs.1) rfl) hA, va_Zqof (hts _ (List.mem_append_right _ (List.mem_of_getElem? (i := 957) (by decide +kernel)))) (hg _ wk_19) (hs _ gv_cs.2) hA⟩
