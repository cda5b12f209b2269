-- ALL METHODS, with the tie of 92
theorem P_all_ok {N : Nat} (hN : 5000 ≤ N) : P_all N Rel2 := by
  refine ⟨?_, ?_, ?_, ?_, ?_, ?_, ?_, ?_, ?_, ?_, ?_, ?_, ?_, ?_, ?_, ?_, ?_, ?_, ?_, ?_, ?_, ?_, ?_, ?_, ?_, ?_, ?_, ?_, ?_, ?_, ?_, ?_, ?_, ?_, ?_, ?_, ?_, ?_, ?_, ?_⟩
  · intro x y p1 h
    obtain ⟨u, v, e1, e2, e3, e4⟩ := P_pillar_ok (N := N) (by omega) x y p1 h.1
    exact ⟨u, v, e1, e2, e3, e4, h.2⟩
  · intro x y p1 p2 h
    obtain ⟨u, v, e1, e2, e3, e4⟩ := P_weaver_ok (N := N) (by omega) x y p1 p2 h.1
    exact ⟨u, v, e1, e2, e3, e4, h.2⟩
  · intro x y p1 p2 h
    obtain ⟨u, v, e1, e2, e3, e4⟩ := P_face_ok (N := N) x y p1 p2 h.1
    exact ⟨u, v, e1, e2, e3, e4, h.2⟩
  · intro x y p1 p2 p3 p4 h
    obtain ⟨u, v, e1, e2, e3, e4⟩ := P_free_ok (N := N) (by omega) x y p1 p2 p3 p4 h.1
    exact ⟨u, v, e1, e2, e3, e4, h.2⟩
  · intro x y p1 p2 h
    obtain ⟨u, v, e1, e2, e3, e4⟩ := P_far_ok (N := N) x y p1 p2 h.1
    exact ⟨u, v, e1, e2, e3, e4, h.2⟩
  · intro x y p1 p2 p3 h
    obtain ⟨u, v, e1, e2, e3, e4⟩ := P_sees_ok (N := N) (by omega) x y p1 p2 p3 h.1
    exact ⟨u, v, e1, e2, e3, e4, h.2⟩
  · intro x y p1 p2 h
    obtain ⟨u, v, e1, e2, e3, e4⟩ := P_clear_ok (N := N) (by omega) x y p1 p2 h.1
    exact ⟨u, v, e1, e2, e3, e4, h.2⟩
  · intro x y p1 p2 p3 p4 h
    obtain ⟨u, v, e1, e2, e3, e4⟩ := P_knows_ok (N := N) (by omega) x y p1 p2 p3 p4 h.1
    exact ⟨u, v, e1, e2, e3, e4, h.2⟩
  · intro x y p1 p2 p3 p4 h
    obtain ⟨u, v, e1, e2, e3, e4⟩ := P_teller_ok (N := N) (by omega) x y p1 p2 p3 p4 h.1
    exact ⟨u, v, e1, e2, e3, e4, h.2⟩
  · intro x y p1 p2 p3 p4 h
    obtain ⟨u, v, e1, e2, e3, e4⟩ := P_meet_ok (N := N) (by omega) x y p1 p2 p3 p4 h.1
    exact ⟨u, v, e1, e2, e3, e4, h.2⟩
  · intro x y p1 p2 p3 h0 h
    obtain ⟨u, v, e1, e2, e3, e4⟩ := P_seen_ok (N := N) x y p1 p2 p3 h0 h.1
    exact ⟨u, v, e1, e2, e3, e4, h.2⟩
  · intro x y h
    obtain ⟨u, v, e1, e2, e3, e4⟩ := P_source_ok (N := N) (by omega) x y h.1
    exact ⟨u, v, e1, e2, e3, e4, h.2⟩
  · intro x y p1 p2 h
    obtain ⟨u, v, e1, e2, e3, e4⟩ := P_apart_ok (N := N) (by omega) x y p1 p2 h.1
    exact ⟨u, v, e1, e2, e3, e4, h.2⟩
  · intro x y p1 p2 h
    obtain ⟨u, v, e1, e2, e3, e4⟩ := P_like_ok (N := N) (by omega) x y p1 p2 h.1
    exact ⟨u, v, e1, e2, e3, e4, h.2⟩
  · intro x y p1 p2 p3 h
    obtain ⟨u, v, e1, e2, e3, e4⟩ := P_word_ok (N := N) (by omega) x y p1 p2 p3 h.1
    exact ⟨u, v, e1, e2, e3, e4, h.2⟩
  · intro x y p1 p2 h
    obtain ⟨u, v, e1, e2, e3, e4⟩ := P_alike_ok (N := N) (by omega) x y p1 p2 h.1
    exact ⟨u, v, e1, e2, e3, e4, h.2⟩
  · intro x y p1 h
    obtain ⟨u, v, e1, e2, e3, e4⟩ := P_lip_ok (N := N) x y p1 h.1
    exact ⟨u, v, e1, e2, e3, e4, h.2⟩
  · intro x y h
    obtain ⟨u, v, e1, e2, e3, e4⟩ := P_hush_ok (N := N) x y h.1
    exact ⟨u, v, e1, e2, e3, e4, h.2⟩
  · intro x y p1 h
    obtain ⟨u, v, e1, e2, e3, e4⟩ := P_reads_ok (N := N) (by omega) x y p1 h.1
    exact ⟨u, v, e1, e2, e3, e4, h.2⟩
  · intro x y p1 h
    obtain ⟨u, v, e1, e2, e3, e4⟩ := P_mistaken_ok (N := N) (by omega) x y p1 h.1
    exact ⟨u, v, e1, e2, e3, e4, h.2⟩
  · intro x y p1 h
    obtain ⟨u, v, e1, e2, e3, e4⟩ := P_signs_ok (N := N) (by omega) x y p1 h.1
    exact ⟨u, v, e1, e2, e3, e4, h.2⟩
  · intro x y p1 h
    obtain ⟨u, v, e1, e2, e3, e4⟩ := P_plain_ok (N := N) x y p1 h.1
    exact ⟨u, v, e1, e2, e3, e4, h.2⟩
  · intro x y p1 p2 p3 h
    obtain ⟨u, v, e1, e2, e3, e4⟩ := P_arrives_ok (N := N) (by omega) x y p1 p2 p3 h.1
    exact ⟨u, v, e1, e2, e3, e4, h.2⟩
  · intro x y p1 p2 p3 h
    obtain ⟨u, v, e1, e2, e3, e4⟩ := P_turns_ok (N := N) (by omega) x y p1 p2 p3 h.1
    exact ⟨u, v, e1, e2, e3, e4, h.2⟩
  · intro x y p1 h
    obtain ⟨u, v, e1, e2, e3, e4⟩ := P_girl_ok (N := N) x y p1 h.1
    exact ⟨u, v, e1, e2, e3, e4, h.2⟩
  · intro x y h
    obtain ⟨u, v, e1, e2, e3, e4⟩ := P_gets_ok (N := N) (by omega) x y h.1
    exact ⟨u, v, e1, e2, e3, e4, h.2⟩
  · intro x y h
    obtain ⟨u, v, e1, e2, e3, e4⟩ := P_share_ok (N := N) (by omega) x y h.1
    exact ⟨u, v, e1, e2, e3, e4, h.2⟩
  · intro x y p1 h
    obtain ⟨u, v, e1, e2, e3, e4⟩ := P_teach_ok (N := N) (by omega) x y p1 h.1
    exact ⟨u, v, e1, e2, e3, e4, h.2⟩
  · intro x y p1 p2 p3 h
    obtain ⟨u, v, e1, e2, e3, e4⟩ := P_band_ok (N := N) x y p1 p2 p3 h.1
    exact ⟨u, v, e1, e2, e3, e4, h.2⟩
  · intro x y p1 p2 h
    obtain ⟨u, v, e1, e2, e3, e4⟩ := P_heard_ok (N := N) (by omega) x y p1 p2 h.1
    exact ⟨u, v, e1, e2, e3, e4, h.2⟩
  · exact P_anew_ok hN
  · intro x y p1 p2 h
    obtain ⟨u, v, e1, e2, e3, e4⟩ := P_type_ok (N := N) (by omega) x y p1 p2 h.1
    exact ⟨u, v, e1, e2, e3, e4, h.2⟩
  · intro x y h
    obtain ⟨u, v, e1, e2, e3, e4⟩ := P_erase_ok (N := N) x y h.1
    exact ⟨u, v, e1, e2, e3, e4, h.2⟩
  · intro x y h
    obtain ⟨u, v, e1, e2, e3, e4⟩ := P_shed_ok (N := N) (by omega) x y h.1
    exact ⟨u, v, e1, e2, e3, e4, h.2⟩
  · intro x y p1 h
    obtain ⟨u, v, e1, e2, e3, e4⟩ := P_sign_ok (N := N) x y p1 h.1
    exact ⟨u, v, e1, e2, e3, e4, h.2⟩
  · intro x y p1 p2 h
    obtain ⟨u, v, e1, e2, e3, e4⟩ := P_limb_ok (N := N) x y p1 p2 h.1
    exact ⟨u, v, e1, e2, e3, e4, h.2⟩
  · intro x y p1 h
    obtain ⟨u, v, e1, e2, e3, e4⟩ := P_image_ok (N := N) (by omega) x y p1 h.1
    exact ⟨u, v, e1, e2, e3, e4, h.2⟩
  · intro x y p1 h
    obtain ⟨u, v, e1, e2, e3, e4⟩ := P_from_ok (N := N) (by omega) x y p1 h.1
    exact ⟨u, v, e1, e2, e3, e4, h.2⟩
  · intro x y p1 h
    obtain ⟨u, v, e1, e2, e3, e4⟩ := P_count_ok (N := N) x y p1 h.1
    exact ⟨u, v, e1, e2, e3, e4, h.2⟩
  · intro x y h
    obtain ⟨u, v, e1, e2, e3, e4⟩ := P_digest_ok (N := N) (by omega) x y h.1
    exact ⟨u, v, e1, e2, e3, e4, h.2⟩
