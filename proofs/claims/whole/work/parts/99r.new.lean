-- THE START
theorem P_new_ok {N : Nat} (hN : 300 ≤ N) : P_new N Rel2 := by
  have hV : RG (fun _ => 0) (fun _ => 0) (fun r => if r = 0 then some 0 else none) := by
    intro r v h
    dsimp only at h
    by_cases e : r = 0
    · subst e
      rw [if_pos rfl] at h
      cases h
      refine ⟨by omega, by decide, rfl, fun i hi => ?_⟩
      rw [dg_ge (v := 0) (i := i) (by rw [nL_0]; omega)]
      rfl
    · rw [if_neg e] at h
      cases h
  obtain ⟨lm, wd, e1, hR⟩ := sets_ok (r := 1) (v := 1) (N := N) (by omega) hV (by omega) (by decide)
  obtain ⟨l, b, e2, hC⟩ := put_ok (limb := fun _ => 0) (v := 1) (by decide)
  have e2' : F_Natural_put 1 (fun _ => 0) = some (l, b) := e2
  have e1' : F_R_sets N 1 1 (fun _ => 0) (fun _ => 0) = some (lm, wd) := e1
  have e3 : F_Lexicon_makeEmpty N (fun _ => 0) = some (0, 0, 0, ll0 (fun _ => 0)) := by
    unfold F_Lexicon_makeEmpty
    rw [lexEmpty hN]
    rfl
  have hB : RBd ((0, 0, (fun _ => 0), (fun _ => 0), (fun _ => 0), (fun _ => 0), (fun _ => 0)), (0, (fun _ => 0), (fun _ => 0), (fun _ => 0)), (0, (fun _ => 0), (fun _ => 0), (fun _ => 0), (fun _ => 0), (fun _ => 0), 0, 0, (fun _ => 0), (fun _ => 0)), (fun _ => 0), (fun _ => 0), 20, 0) (upd (fun _ => 0) 8 20) := by
    refine ⟨fun _ => 0, fun _ => 0, 20, by omega, by omega, ⟨rfl, by rw [pk_us]; rfl⟩, fun k hk => ⟨Nat.zero_le _, rfl, ?_⟩, fun k hk => ⟨Nat.zero_le _, rfl, ?_⟩⟩
    · rw [pk_un (by omega)]; rfl
    · rw [pk_un (by omega)]; rfl
  refine ⟨(0, 0, upd (upd (fun _ => 0) 0 18) 1 50), (0, 0, 0, ll0 (fun _ => 0)), (l, b), bg4 (upd (fun _ => 0) 8 20), (lm, wd), rfl, e3, e2', begR_ok hN, e1', ⟨begSh_R hB, Or.inl ⟨rfl, rfl⟩, Or.inl ⟨rfl, rfl⟩, ?_, ?_⟩, rfl, rfl⟩
  · exact ⟨0, fun _ => 0, by omega, rfl, rfl, fun i hi => absurd hi (by omega)⟩
  · exact ⟨0, 1, by decide, by decide, ⟨rfl, fun i hi => absurd hi (by rw [nL_0]; omega)⟩, hC, (hR 0 0 (ru_n (by omega))).2.2, (hR 1 1 ru_s).2.2⟩
