/-! the public methods of both sides, refused and done -/
theorem dz_p2 (a : Nat) : nI a + 2 = nI (a + 2) := nI_add a 2
theorem dz_set {s : Nat} (h : s < 2 ^ 31) : nI s / 3 + (-99) = dz_nv (s / 3) := by
  rw [dz_div3 h]
  rfl
section
variable {fo fc fr : Int32} {A Z B W R : Nat → Int32}
theorem dx_insert_bad {post : Int32 → SX → Prop} {v1 v2 v3 v4 : Int32} (h : ¬ (dz_v 3 v1 ∧ dz_ok v2 ∧ dz_ok v3 ∧ dz_ok v4)) (hp : post (-1000) (fo, fc, fr, A, Z, B, W, R)) : wpX_insert post (fo, fc, fr, A, Z, B, W, R) v1 v2 v3 v4 := by
  unfold wpX_insert
  dsimp only
  by_cases c1 : dz_v 3 v1
  · obtain ⟨j1, h1, e1⟩ := id c1
    rw [e1]
    refine dx_table_t h1 (br_f dz_n10 ?_)
    by_cases c2 : dz_ok v2
    · refine dx_number_t c2 (br_f dz_n10 ?_)
      by_cases c3 : dz_ok v3
      · refine dx_number_t c3 (br_f dz_n10 ?_)
        exact dx_number_f (fun c4 => h ⟨c1, c2, c3, c4⟩) (br_t rfl hp)
      · exact dx_number_f c3 (br_t rfl hp)
    · exact dx_number_f c2 (br_t rfl hp)
  · exact dx_table_f c1 (br_t rfl hp)
theorem dy_insert_bad {post : Int32 → SY → Prop} {v1 v2 v3 v4 : Int32} (h : ¬ (dz_v 3 v1 ∧ dz_ok v2 ∧ dz_ok v3 ∧ dz_ok v4)) (hp : post (-1000) (fo, fc, fr, Z, A, W, B, R)) : wpY_insert post (fo, fc, fr, Z, A, W, B, R) v1 v2 v3 v4 := by
  unfold wpY_insert
  dsimp only
  by_cases c1 : dz_v 3 v1
  · obtain ⟨j1, h1, e1⟩ := id c1
    rw [e1]
    refine dy_table_t h1 (br_f dz_n10 ?_)
    by_cases c2 : dz_ok v2
    · refine dy_number_t c2 (br_f dz_n10 ?_)
      by_cases c3 : dz_ok v3
      · refine dy_number_t c3 (br_f dz_n10 ?_)
        exact dy_number_f (fun c4 => h ⟨c1, c2, c3, c4⟩) (br_t rfl hp)
      · exact dy_number_f c3 (br_t rfl hp)
    · exact dy_number_f c2 (br_t rfl hp)
  · exact dy_table_f c1 (br_t rfl hp)
theorem dx_delete_bad {post : Int32 → SX → Prop} {v1 v2 v3 : Int32} (h : ¬ (dz_v 3 v1 ∧ dz_v 15 v2)) (hp : post (-1000) (fo, fc, fr, A, Z, B, W, R)) : wpX_delete post (fo, fc, fr, A, Z, B, W, R) v1 v2 v3 := by
  unfold wpX_delete
  dsimp only
  by_cases c1 : dz_v 3 v1
  · obtain ⟨j1, h1, e1⟩ := id c1
    rw [e1]
    refine dx_table_t h1 (br_f dz_n10 ?_)
    exact dx_condition_f (fun c2 => h ⟨c1, c2⟩) (br_t rfl hp)
  · exact dx_table_f c1 (br_t rfl hp)
theorem dy_delete_bad {post : Int32 → SY → Prop} {v1 v2 v3 : Int32} (h : ¬ (dz_v 3 v1 ∧ dz_v 15 v2)) (hp : post (-1000) (fo, fc, fr, Z, A, W, B, R)) : wpY_delete post (fo, fc, fr, Z, A, W, B, R) v1 v2 v3 := by
  unfold wpY_delete
  dsimp only
  by_cases c1 : dz_v 3 v1
  · obtain ⟨j1, h1, e1⟩ := id c1
    rw [e1]
    refine dy_table_t h1 (br_f dz_n10 ?_)
    exact dy_condition_f (fun c2 => h ⟨c1, c2⟩) (br_t rfl hp)
  · exact dy_table_f c1 (br_t rfl hp)
theorem dx_select_bad {post : Int32 → SX → Prop} {v1 v2 v3 v4 : Int32} (h : ¬ (dz_v 3 v1 ∧ dz_v 15 v2 ∧ dz_v 3 v4)) (hp : post (-1000) (fo, fc, fr, A, Z, B, W, R)) : wpX_select post (fo, fc, fr, A, Z, B, W, R) v1 v2 v3 v4 := by
  unfold wpX_select
  dsimp only
  by_cases c1 : dz_v 3 v1
  · obtain ⟨j1, h1, e1⟩ := id c1
    rw [e1]
    refine dx_table_t h1 (br_f dz_n10 ?_)
    by_cases c2 : dz_v 15 v2
    · obtain ⟨j2, h2, e2⟩ := id c2
      rw [e2]
      refine dx_condition_t h2 (br_f dz_n10 ?_)
      exact dx_column_f (fun c4 => h ⟨c1, c2, c4⟩) (br_t rfl hp)
    · exact dx_condition_f c2 (br_t rfl hp)
  · exact dx_table_f c1 (br_t rfl hp)
theorem dy_select_bad {post : Int32 → SY → Prop} {v1 v2 v3 v4 : Int32} (h : ¬ (dz_v 3 v1 ∧ dz_v 15 v2 ∧ dz_v 3 v4)) (hp : post (-1000) (fo, fc, fr, Z, A, W, B, R)) : wpY_select post (fo, fc, fr, Z, A, W, B, R) v1 v2 v3 v4 := by
  unfold wpY_select
  dsimp only
  by_cases c1 : dz_v 3 v1
  · obtain ⟨j1, h1, e1⟩ := id c1
    rw [e1]
    refine dy_table_t h1 (br_f dz_n10 ?_)
    by_cases c2 : dz_v 15 v2
    · obtain ⟨j2, h2, e2⟩ := id c2
      rw [e2]
      refine dy_condition_t h2 (br_f dz_n10 ?_)
      exact dy_table_f (fun c4 => h ⟨c1, c2, c4⟩) (br_t rfl hp)
    · exact dy_condition_f c2 (br_t rfl hp)
  · exact dy_table_f c1 (br_t rfl hp)
theorem dx_count_bad {post : Int32 → Prop} {v1 v2 v3 : Int32} (h : ¬ (dz_v 3 v1 ∧ dz_v 15 v2)) (hp : post (-1000)) : wpX_count post (fo, fc, fr, A, Z, B, W, R) v1 v2 v3 := by
  unfold wpX_count
  dsimp only
  by_cases c1 : dz_v 3 v1
  · obtain ⟨j1, h1, e1⟩ := id c1
    rw [e1]
    refine dx_table_t h1 (br_f dz_n10 ?_)
    exact dx_condition_f (fun c2 => h ⟨c1, c2⟩) (br_t rfl hp)
  · exact dx_table_f c1 (br_t rfl hp)
theorem dy_count_bad {post : Int32 → Prop} {v1 v2 v3 : Int32} (h : ¬ (dz_v 3 v1 ∧ dz_v 15 v2)) (hp : post (-1000)) : wpY_count post (fo, fc, fr, Z, A, W, B, R) v1 v2 v3 := by
  unfold wpY_count
  dsimp only
  by_cases c1 : dz_v 3 v1
  · obtain ⟨j1, h1, e1⟩ := id c1
    rw [e1]
    refine dy_table_t h1 (br_f dz_n10 ?_)
    exact dy_condition_f (fun c2 => h ⟨c1, c2⟩) (br_t rfl hp)
  · exact dy_table_f c1 (br_t rfl hp)
theorem dx_sum_bad {post : Int32 → Prop} {v1 v2 v3 v4 : Int32} (h : ¬ (dz_v 3 v1 ∧ dz_v 3 v2 ∧ dz_v 15 v3)) (hp : post (-1000)) : wpX_sum post (fo, fc, fr, A, Z, B, W, R) v1 v2 v3 v4 := by
  unfold wpX_sum
  dsimp only
  by_cases c1 : dz_v 3 v1
  · obtain ⟨j1, h1, e1⟩ := id c1
    rw [e1]
    refine dx_table_t h1 (br_f dz_n10 ?_)
    by_cases c2 : dz_v 3 v2
    · obtain ⟨j2, h2, e2⟩ := id c2
      rw [e2]
      refine dx_column_t h2 (br_f dz_n10 ?_)
      exact dx_condition_f (fun c3 => h ⟨c1, c2, c3⟩) (br_t rfl hp)
    · exact dx_column_f c2 (br_t rfl hp)
  · exact dx_table_f c1 (br_t rfl hp)
theorem dy_sum_bad {post : Int32 → Prop} {v1 v2 v3 v4 : Int32} (h : ¬ (dz_v 3 v1 ∧ dz_v 3 v2 ∧ dz_v 15 v3)) (hp : post (-1000)) : wpY_sum post (fo, fc, fr, Z, A, W, B, R) v1 v2 v3 v4 := by
  unfold wpY_sum
  dsimp only
  by_cases c1 : dz_v 3 v1
  · obtain ⟨j1, h1, e1⟩ := id c1
    rw [e1]
    refine dy_table_t h1 (br_f dz_n10 ?_)
    by_cases c3 : dz_v 15 v3
    · obtain ⟨j3, h3, e3⟩ := id c3
      rw [e3]
      refine dy_condition_t h3 (br_f dz_n10 ?_)
      exact dy_table_f (fun c2 => h ⟨c1, c2, c3⟩) (br_t rfl hp)
    · exact dy_condition_f c3 (br_t rfl hp)
  · exact dy_table_f c1 (br_t rfl hp)
theorem dx_join_bad {post : Int32 → Prop} {v1 v2 v3 : Int32} (h : ¬ (dz_v 3 v1 ∧ dz_v 3 v2 ∧ dz_v 9 v3)) (hp : post (-1000)) : wpX_join post (fo, fc, fr, A, Z, B, W, R) v1 v2 v3 := by
  unfold wpX_join
  dsimp only
  by_cases c1 : dz_v 3 v1
  · obtain ⟨j1, h1, e1⟩ := id c1
    rw [e1]
    refine dx_table_t h1 (br_f dz_n10 ?_)
    by_cases c2 : dz_v 3 v2
    · obtain ⟨j2, h2, e2⟩ := id c2
      rw [e2]
      refine dx_table_t h2 (br_f dz_n10 ?_)
      exact dx_pair_f (fun c3 => h ⟨c1, c2, c3⟩) (br_t rfl hp)
    · exact dx_table_f c2 (br_t rfl hp)
  · exact dx_table_f c1 (br_t rfl hp)
theorem dy_join_bad {post : Int32 → Prop} {v1 v2 v3 : Int32} (h : ¬ (dz_v 3 v1 ∧ dz_v 3 v2 ∧ dz_v 9 v3)) (hp : post (-1000)) : wpY_join post (fo, fc, fr, Z, A, W, B, R) v1 v2 v3 := by
  unfold wpY_join
  dsimp only
  by_cases c1 : dz_v 3 v1
  · obtain ⟨j1, h1, e1⟩ := id c1
    rw [e1]
    refine dy_table_t h1 (br_f dz_n10 ?_)
    by_cases c2 : dz_v 3 v2
    · obtain ⟨j2, h2, e2⟩ := id c2
      rw [e2]
      refine dy_table_t h2 (br_f dz_n10 ?_)
      exact dy_nine_f (fun c3 => h ⟨c1, c2, c3⟩) (br_t rfl hp)
    · exact dy_table_f c2 (br_t rfl hp)
  · exact dy_table_f c1 (br_t rfl hp)
theorem dx_joinSum_bad {post : Int32 → Prop} {v1 v2 v3 v4 : Int32} (h : ¬ (dz_v 3 v1 ∧ dz_v 3 v2 ∧ dz_v 9 v3 ∧ dz_v 9 v4)) (hp : post (-1000)) : wpX_joinSum post (fo, fc, fr, A, Z, B, W, R) v1 v2 v3 v4 := by
  unfold wpX_joinSum
  dsimp only
  by_cases c1 : dz_v 3 v1
  · obtain ⟨j1, h1, e1⟩ := id c1
    rw [e1]
    refine dx_table_t h1 (br_f dz_n10 ?_)
    by_cases c2 : dz_v 3 v2
    · obtain ⟨j2, h2, e2⟩ := id c2
      rw [e2]
      refine dx_table_t h2 (br_f dz_n10 ?_)
      by_cases c3 : dz_v 9 v3
      · obtain ⟨j3, h3, e3⟩ := id c3
        rw [e3]
        refine dx_pair_t h3 (br_f dz_n10 ?_)
        exact dx_pair_f (fun c4 => h ⟨c1, c2, c3, c4⟩) (br_t rfl hp)
      · exact dx_pair_f c3 (br_t rfl hp)
    · exact dx_table_f c2 (br_t rfl hp)
  · exact dx_table_f c1 (br_t rfl hp)
theorem dy_joinSum_bad {post : Int32 → Prop} {v1 v2 v3 v4 : Int32} (h : ¬ (dz_v 3 v1 ∧ dz_v 3 v2 ∧ dz_v 9 v3 ∧ dz_v 9 v4)) (hp : post (-1000)) : wpY_joinSum post (fo, fc, fr, Z, A, W, B, R) v1 v2 v3 v4 := by
  unfold wpY_joinSum
  dsimp only
  by_cases c1 : dz_v 3 v1
  · obtain ⟨j1, h1, e1⟩ := id c1
    rw [e1]
    refine dy_table_t h1 (br_f dz_n10 ?_)
    by_cases c2 : dz_v 3 v2
    · obtain ⟨j2, h2, e2⟩ := id c2
      rw [e2]
      refine dy_table_t h2 (br_f dz_n10 ?_)
      by_cases c3 : dz_v 9 v3
      · obtain ⟨j3, h3, e3⟩ := id c3
        rw [e3]
        refine dy_nine_t h3 (br_f dz_n10 ?_)
        exact dy_nine_f (fun c4 => h ⟨c1, c2, c3, c4⟩) (br_t rfl hp)
      · exact dy_nine_f c3 (br_t rfl hp)
    · exact dy_table_f c2 (br_t rfl hp)
  · exact dy_table_f c1 (br_t rfl hp)
theorem dx_distinct_bad {post : Int32 → Prop} {v1 v2 : Int32} (h : ¬ (dz_v 3 v1 ∧ dz_v 3 v2)) (hp : post (-1000)) : wpX_distinct post (fo, fc, fr, A, Z, B, W, R) v1 v2 := by
  unfold wpX_distinct
  dsimp only
  by_cases c1 : dz_v 3 v1
  · obtain ⟨j1, h1, e1⟩ := id c1
    rw [e1]
    refine dx_table_t h1 (br_f dz_n10 ?_)
    exact dx_column_f (fun c2 => h ⟨c1, c2⟩) (br_t rfl hp)
  · exact dx_table_f c1 (br_t rfl hp)
theorem dy_distinct_bad {post : Int32 → Prop} {v1 v2 : Int32} (h : ¬ (dz_v 3 v1 ∧ dz_v 3 v2)) (hp : post (-1000)) : wpY_distinct post (fo, fc, fr, Z, A, W, B, R) v1 v2 := by
  unfold wpY_distinct
  dsimp only
  by_cases c1 : dz_v 3 v1
  · obtain ⟨j1, h1, e1⟩ := id c1
    rw [e1]
    refine dy_table_t h1 (br_f dz_n10 ?_)
    exact dy_table_f (fun c2 => h ⟨c1, c2⟩) (br_t rfl hp)
  · exact dy_table_f c1 (br_t rfl hp)
theorem dx_kth_bad {post : Int32 → Prop} {v1 v2 v3 : Int32} (h : ¬ (dz_v 3 v1 ∧ dz_v 3 v2)) (hp : post (-1000)) : wpX_kth post (fo, fc, fr, A, Z, B, W, R) v1 v2 v3 := by
  unfold wpX_kth
  dsimp only
  by_cases c1 : dz_v 3 v1
  · obtain ⟨j1, h1, e1⟩ := id c1
    rw [e1]
    refine dx_table_t h1 (br_f dz_n10 ?_)
    exact dx_column_f (fun c2 => h ⟨c1, c2⟩) (br_t rfl hp)
  · exact dx_table_f c1 (br_t rfl hp)
theorem dy_kth_bad {post : Int32 → Prop} {v1 v2 v3 : Int32} (h : ¬ (dz_v 3 v1 ∧ dz_v 3 v2)) (hp : post (-1000)) : wpY_kth post (fo, fc, fr, Z, A, W, B, R) v1 v2 v3 := by
  unfold wpY_kth
  dsimp only
  by_cases c1 : dz_v 3 v1
  · obtain ⟨j1, h1, e1⟩ := id c1
    rw [e1]
    refine dy_table_t h1 (br_f dz_n10 ?_)
    exact dy_table_f (fun c2 => h ⟨c1, c2⟩) (br_t rfl hp)
  · exact dy_table_f c1 (br_t rfl hp)
theorem dx_index_bad {post : Int32 → Prop} {v1 v2 v3 : Int32} (h : ¬ (dz_v 3 v1 ∧ dz_v 3 v2)) (hp : post (0)) : wpX_index post (fo, fc, fr, A, Z, B, W, R) v1 v2 v3 := by
  unfold wpX_index
  dsimp only
  by_cases c1 : dz_v 3 v1
  · obtain ⟨j1, h1, e1⟩ := id c1
    rw [e1]
    refine dx_table_t h1 (br_f dz_n10 ?_)
    exact dx_column_f (fun c2 => h ⟨c1, c2⟩) (br_t rfl hp)
  · exact dx_table_f c1 (br_t rfl hp)
theorem dy_index_bad {post : Int32 → Prop} {v1 v2 v3 : Int32} (h : ¬ (dz_v 3 v1 ∧ dz_v 3 v2)) (hp : post (0)) : wpY_index post (fo, fc, fr, Z, A, W, B, R) v1 v2 v3 := by
  unfold wpY_index
  dsimp only
  by_cases c1 : dz_v 3 v1
  · obtain ⟨j1, h1, e1⟩ := id c1
    rw [e1]
    refine dy_table_t h1 (br_f dz_n10 ?_)
    exact dy_table_f (fun c2 => h ⟨c1, c2⟩) (br_t rfl hp)
  · exact dy_table_f c1 (br_t rfl hp)
theorem dx_insert_full {post : Int32 → SX → Prop} {t n : Nat} {a b c : Int32} (h1 : t < 3) (h2 : dz_ok a) (h3 : dz_ok b) (h4 : dz_ok c) (hn : n ≤ 24) (ez : Z t = nI n) {cy : Int32} (hf : 24 ≤ n ∨ dz_Full fo fc cy 1) (hp : post (-2000) (fo, fc, fr, A, Z, B, W, R)) : wpX_insert post (fo, fc, fr, A, Z, B, W, R) (nI t) a b c := by
  unfold wpX_insert
  dsimp only
  refine dx_table_t h1 (br_f dz_n10 (dx_number_t h2 (br_f dz_n10 (dx_number_t h3 (br_f dz_n10 (dx_number_t h4 (br_f dz_n10 (⟨vp_in_nI h1 (by omega), ?_⟩))))))))
  rw [nI_clamp (n := t) (by omega), ez]
  by_cases c24 : 24 ≤ n
  · exact br_t (nI_le (a := 24) c24 (by omega)) hp
  · exact br_f (nI_ge (b := 24) (by omega) (by omega)) (dx_room_f (k := 1) (hf.resolve_left c24) (br_t rfl hp))
theorem dx_insert_ok {post : Int32 → SX → Prop} {t n : Nat} {a b c : Int32} (h1 : t < 3) (h2 : dz_ok a) (h3 : dz_ok b) (h4 : dz_ok c) (hn : n < 24) (ez : Z t = nI n) {cy cx' : Int32} (hf : dz_Fit fo fc cy cx' 1) (hp : post (nI (n + 1)) (fo, cx', fr, dz_w3 A (72 * t + 3 * n) a b c, upd Z t (nI (n + 1)), B, W, R)) : wpX_insert post (fo, fc, fr, A, Z, B, W, R) (nI t) a b c := by
  unfold wpX_insert
  dsimp only
  refine dx_table_t h1 (br_f dz_n10 (dx_number_t h2 (br_f dz_n10 (dx_number_t h3 (br_f dz_n10 (dx_number_t h4 (br_f dz_n10 (⟨vp_in_nI h1 (by omega), ?_⟩))))))))
  rw [nI_clamp (n := t) (by omega), ez]
  refine br_f (nI_ge (b := 24) (by omega) (by omega)) (dx_room_t (k := 1) hf (br_f dz_n10 ⟨vp_in_nI h1 (by omega), ?_⟩))
  refine dx_cellOf (c := 0) ?_
  show vp_in (nI (72 * t + 3 * n)) 216 ∧ _
  rw [Nat.add_zero, nI_1 (72 * t + 3 * n), dz_p2 (72 * t + 3 * n), nI_clamp (n := 72 * t + 3 * n) (by omega), nI_clamp (n := 72 * t + 3 * n + 1) (by omega), nI_clamp (n := 72 * t + 3 * n + 2) (by omega), nI_1 n]
  refine ⟨vp_in_nI (by omega) (by omega), nm_e ⟨vp_in_nI (by omega) (by omega), nm_e ⟨vp_in_nI (by omega) (by omega), nm_e ⟨vp_in_nI h1 (by omega), vp_in_nI h1 (by omega), nm_e (dx_note (k := 1) hf ⟨vp_in_nI h1 (by omega), ?_⟩)⟩⟩⟩⟩
  show post (upd Z t (nI (n + 1)) t) (fo, cx', fr, dz_w3 A (72 * t + 3 * n) a b c, upd Z t (nI (n + 1)), B, W, R)
  rw [pk_us]
  exact hp
theorem dy_insert_full {post : Int32 → SY → Prop} {t n : Nat} {a b c : Int32} (h1 : t < 3) (h2 : dz_ok a) (h3 : dz_ok b) (h4 : dz_ok c) (hn : n ≤ 24) (ez : Z t = nI n) {cx : Int32} (hf : 24 ≤ n ∨ dz_Full fo cx fc 1) (hp : post (-2000) (fo, fc, fr, Z, A, W, B, R)) : wpY_insert post (fo, fc, fr, Z, A, W, B, R) (nI t) a b c := by
  unfold wpY_insert
  dsimp only
  refine dy_table_t h1 (br_f dz_n10 (dy_number_t h2 (br_f dz_n10 (dy_number_t h3 (br_f dz_n10 (dy_number_t h4 (br_f dz_n10 (⟨vp_in_nI h1 (by omega), ?_⟩))))))))
  rw [nI_clamp (n := t) (by omega), ez]
  by_cases c24 : 24 ≤ n
  · exact br_t (nI_le (a := 24) c24 (by omega)) hp
  · exact br_f (nI_ge (b := 24) (by omega) (by omega)) (dy_room_f (k := 1) (hf.resolve_left c24) (br_f dz_n10 hp))
theorem dy_insert_ok {post : Int32 → SY → Prop} {t n : Nat} {a b c : Int32} (h1 : t < 3) (h2 : dz_ok a) (h3 : dz_ok b) (h4 : dz_ok c) (hn : n < 24) (ez : Z t = nI n) {cx cx' : Int32} (hf : dz_Fit fo cx fc cx' 1) (hp : post (nI (n + 1)) (fo, fc + 1, fr, upd Z t (nI (n + 1)), dz_w3 A (72 * t + 3 * n) a b c, W, B, R)) : wpY_insert post (fo, fc, fr, Z, A, W, B, R) (nI t) a b c := by
  unfold wpY_insert
  dsimp only
  refine dy_table_t h1 (br_f dz_n10 (dy_number_t h2 (br_f dz_n10 (dy_number_t h3 (br_f dz_n10 (dy_number_t h4 (br_f dz_n10 (⟨vp_in_nI h1 (by omega), ?_⟩))))))))
  rw [nI_clamp (n := t) (by omega), ez]
  refine br_f (nI_ge (b := 24) (by omega) (by omega)) (dy_room_t (k := 1) hf (br_t rfl ⟨vp_in_nI h1 (by omega), dy_put (c := 0) h1 hn (by omega) ⟨vp_in_nI h1 (by omega), ?_⟩⟩))
  dsimp only
  rw [ez]
  refine dy_put (c := 1) h1 hn (by omega) ⟨vp_in_nI h1 (by omega), ?_⟩
  dsimp only
  rw [ez]
  refine dy_put (c := 2) h1 hn (by omega) ⟨vp_in_nI h1 (by omega), vp_in_nI h1 (by omega), ?_⟩
  dsimp only
  rw [ez, nI_1 n]
  refine nm_e (nm_e ⟨vp_in_nI h1 (by omega), ?_⟩)
  show post (upd Z t (nI (n + 1)) t) (fo, fc + 1, fr, upd Z t (nI (n + 1)), dz_w3 A (72 * t + 3 * n) a b c, W, B, R)
  rw [pk_us]
  exact hp
theorem dx_delete_full {post : Int32 → SX → Prop} {t q n : Nat} {v : Int32} (h1 : t < 3) (h2 : q < 15) (hn : n ≤ 24) (ez : Z t = nI n) {cy : Int32} (hf : dz_Full fo fc cy (dz_cn (dz_mt A t q v) n)) (hp : post (-2000) (fo, fc, fr, A, Z, B, W, R)) : wpX_delete post (fo, fc, fr, A, Z, B, W, R) (nI t) (nI q) v := by
  unfold wpX_delete
  dsimp only
  exact dx_table_t h1 (br_f dz_n10 (dx_condition_t h2 (br_f dz_n10 (dx_count h1 h2 hn ez (dx_room_f hf (br_t rfl hp))))))
theorem dx_delete_ok {post : Int32 → SX → Prop} {t q n : Nat} {v : Int32} (h1 : t < 3) (h2 : q < 15) (hn : n ≤ 24) (ez : Z t = nI n) {cy cx' : Int32} (hf : dz_Fit fo fc cy cx' (dz_cn (dz_mt A t q v) n)) (hp : post (nI (dz_cn (dz_mt A t q v) n)) (fo, cx', fr, (dz_dl t q v A n).1, upd Z t (nI (dz_dl t q v A n).2), B, W, R)) : wpX_delete post (fo, fc, fr, A, Z, B, W, R) (nI t) (nI q) v := by
  unfold wpX_delete
  dsimp only
  exact dx_table_t h1 (br_f dz_n10 (dx_condition_t h2 (br_f dz_n10 (dx_count h1 h2 hn ez (dx_room_t hf (br_f dz_n10 (dx_keep h1 h2 hn ez (dx_note hf hp))))))))
theorem dy_delete_full {post : Int32 → SY → Prop} {t q n : Nat} {v : Int32} (h1 : t < 3) (h2 : q < 15) (hn : n ≤ 24) (ez : Z t = nI n) {cx : Int32} (hf : dz_Full fo cx fc (dz_cn (dz_mt A t q v) n)) (hp : post (-2000) (fo, fc, fr, Z, A, W, B, R)) : wpY_delete post (fo, fc, fr, Z, A, W, B, R) (nI t) (nI q) v := by
  unfold wpY_delete
  dsimp only
  exact dy_table_t h1 (br_f dz_n10 (dy_condition_t h2 (br_f dz_n10 (dy_count h1 h2 hn ez (dy_room_f hf (br_f dz_n10 hp))))))
theorem dy_delete_ok {post : Int32 → SY → Prop} {t q n : Nat} {v : Int32} (h1 : t < 3) (h2 : q < 15) (hn : n ≤ 24) (ez : Z t = nI n) {cx cx' : Int32} (hf : dz_Fit fo cx fc cx' (dz_cn (dz_mt A t q v) n)) (hp : post (nI (dz_cn (dz_mt A t q v) n)) (fo, fc + nI (dz_cn (dz_mt A t q v) n), fr, upd Z t (nI (dz_dl t q v A n).2), (dz_dl t q v A n).1, W, B, R)) : wpY_delete post (fo, fc, fr, Z, A, W, B, R) (nI t) (nI q) v := by
  unfold wpY_delete
  dsimp only
  exact dy_table_t h1 (br_f dz_n10 (dy_condition_t h2 (br_f dz_n10 (dy_count h1 h2 hn ez (dy_room_t hf (br_t rfl ⟨n + 1, dy_del_l h1 h2 hn ez hp n 0 (by omega)⟩))))))
theorem dx_update_bad {post : Int32 → SX → Prop} {v1 v2 v3 v4 : Int32} (h : ¬ (dz_v 3 v1 ∧ dz_v 15 v2 ∧ dz_v 597 v4)) (hp : post (-1000) (fo, fc, fr, A, Z, B, W, R)) : wpX_update post (fo, fc, fr, A, Z, B, W, R) v1 v2 v3 v4 := by
  unfold wpX_update
  dsimp only
  by_cases c1 : dz_v 3 v1
  · obtain ⟨j1, h1, e1⟩ := id c1
    rw [e1]
    refine dx_table_t h1 (br_f dz_n10 ?_)
    by_cases c2 : dz_v 15 v2
    · obtain ⟨j2, h2, e2⟩ := id c2
      rw [e2]
      refine dx_condition_t h2 (br_f dz_n10 (br_c (fun _ => hp) (fun h4 => br_f (fun z => ?_) hp)))
      obtain ⟨s, hs, e⟩ := nI_of h4
      rw [e] at z
      have z2 := (nI_ltI (b := 597) hs (by omega)).mp z
      exact h ⟨c1, c2, s, by omega, e⟩
    · exact dx_condition_f c2 (br_t rfl hp)
  · exact dx_table_f c1 (br_t rfl hp)
theorem dx_update_full {post : Int32 → SX → Prop} {t q s n : Nat} {v : Int32} (h1 : t < 3) (h2 : q < 15) (hs : s < 597) (hn : n ≤ 24) (ez : Z t = nI n) {cy : Int32} (hf : dz_Full fo fc cy (dz_cn (dz_mt A t q v) n)) (hp : post (-2000) (fo, fc, fr, A, Z, B, W, R)) : wpX_update post (fo, fc, fr, A, Z, B, W, R) (nI t) (nI q) v (nI s) := by
  unfold wpX_update
  dsimp only
  exact dx_table_t h1 (br_f dz_n10 (dx_condition_t h2 (br_f dz_n10 (br_f (nI_pos (by omega)) (br_t (nI_lt (b := 597) hs (by omega)) (dx_count h1 h2 hn ez (dx_room_f hf (br_t rfl hp))))))))
theorem dx_update_ok {post : Int32 → SX → Prop} {t q s n : Nat} {v : Int32} (h1 : t < 3) (h2 : q < 15) (hs : s < 597) (hn : n ≤ 24) (ez : Z t = nI n) {cy cx' : Int32} (hf : dz_Fit fo fc cy cx' (dz_cn (dz_mt A t q v) n)) (hp : post (nI (dz_cn (dz_mt A t q v) n)) (fo, cx', fr, dz_ud t q v (s % 3) (dz_nv (s / 3)) A n, Z, B, W, R)) : wpX_update post (fo, fc, fr, A, Z, B, W, R) (nI t) (nI q) v (nI s) := by
  unfold wpX_update
  dsimp only
  exact dx_table_t h1 (br_f dz_n10 (dx_condition_t h2 (br_f dz_n10 (br_f (nI_pos (by omega)) (br_t (nI_lt (b := 597) hs (by omega)) (dx_count h1 h2 hn ez (dx_room_t hf (br_f dz_n10 ⟨dz_n30, nm_r (dz_rem3 (by omega)) ⟨dz_n30, nm_r (dz_set (by omega)) ⟨n + 1, dx_upd_l h1 h2 (by omega) hn ez hf hp n 0 (by omega)⟩⟩⟩))))))))
theorem dy_update_bad {post : Int32 → SY → Prop} {v1 v2 v3 v4 : Int32} (h : ¬ (dz_v 3 v1 ∧ dz_v 15 v2 ∧ dz_v 597 v4)) (hp : post (-1000) (fo, fc, fr, Z, A, W, B, R)) : wpY_update post (fo, fc, fr, Z, A, W, B, R) v1 v2 v3 v4 := by
  unfold wpY_update
  dsimp only
  by_cases c1 : dz_v 3 v1
  · obtain ⟨j1, h1, e1⟩ := id c1
    rw [e1]
    refine dy_table_t h1 (br_f dz_n10 ?_)
    by_cases c2 : dz_v 15 v2
    · obtain ⟨j2, h2, e2⟩ := id c2
      rw [e2]
      refine dy_condition_t h2 (br_f dz_n10 (br_c (fun _ => hp) (fun h4 => br_f (fun z => ?_) hp)))
      obtain ⟨s, hs, e⟩ := nI_of h4
      rw [e] at z
      have z2 := (nI_leI (b := 596) hs (by omega)).mp z
      exact h ⟨c1, c2, s, by omega, e⟩
    · exact dy_condition_f c2 (br_t rfl hp)
  · exact dy_table_f c1 (br_t rfl hp)
theorem dy_update_full {post : Int32 → SY → Prop} {t q s n : Nat} {v : Int32} (h1 : t < 3) (h2 : q < 15) (hs : s < 597) (hn : n ≤ 24) (ez : Z t = nI n) {cx : Int32} (hf : dz_Full fo cx fc (dz_cn (dz_mt A t q v) n)) (hp : post (-2000) (fo, fc, fr, Z, A, W, B, R)) : wpY_update post (fo, fc, fr, Z, A, W, B, R) (nI t) (nI q) v (nI s) := by
  unfold wpY_update
  dsimp only
  exact dy_table_t h1 (br_f dz_n10 (dy_condition_t h2 (br_f dz_n10 (br_f (nI_pos (by omega)) (br_t (nI_le (b := 596) (by omega) (by omega)) (dy_count h1 h2 hn ez (dy_room_f hf (br_f dz_n10 hp))))))))
theorem dy_update_ok {post : Int32 → SY → Prop} {t q s n : Nat} {v : Int32} (h1 : t < 3) (h2 : q < 15) (hs : s < 597) (hn : n ≤ 24) (ez : Z t = nI n) {cx cx' : Int32} (hf : dz_Fit fo cx fc cx' (dz_cn (dz_mt A t q v) n)) (hp : post (nI (dz_cn (dz_mt A t q v) n)) (fo, fc + nI (dz_cn (dz_mt A t q v) n), fr, Z, dz_ud t q v (s % 3) (dz_nv (s / 3)) A n, W, B, R)) : wpY_update post (fo, fc, fr, Z, A, W, B, R) (nI t) (nI q) v (nI s) := by
  unfold wpY_update
  dsimp only
  exact dy_table_t h1 (br_f dz_n10 (dy_condition_t h2 (br_f dz_n10 (br_f (nI_pos (by omega)) (br_t (nI_le (b := 596) (by omega) (by omega)) (dy_count h1 h2 hn ez (dy_room_t hf (br_t rfl ⟨n + 1, dy_upd_l h1 h2 hs hn ez hp n 0 (by omega)⟩))))))))
theorem dx_count_ok {post : Int32 → Prop} {t q n : Nat} {v : Int32} (h1 : t < 3) (h2 : q < 15) (hn : n ≤ 24) (ez : Z t = nI n) (hp : post (nI (dz_cn (dz_mt A t q v) n))) : wpX_count post (fo, fc, fr, A, Z, B, W, R) (nI t) (nI q) v := by
  unfold wpX_count
  dsimp only
  exact dx_table_t h1 (br_f dz_n10 (dx_condition_t h2 (br_f dz_n10 (dx_count h1 h2 hn ez hp))))
theorem dx_sum_ok {post : Int32 → Prop} {t c q n : Nat} {v : Int32} (h1 : t < 3) (h2 : c < 3) (h3 : q < 15) (hn : n ≤ 24) (ez : Z t = nI n) (hp : post (dz_in (dz_mt A t q v) (fun r => A (72 * t + 3 * r + c)) 0 n)) : wpX_sum post (fo, fc, fr, A, Z, B, W, R) (nI t) (nI c) (nI q) v := by
  unfold wpX_sum
  dsimp only
  exact dx_table_t h1 (br_f dz_n10 (dx_column_t h2 (br_f dz_n10 (dx_condition_t h3 (br_f dz_n10 (⟨n + 1, dx_sum_l h1 h3 h2 hn ez hp n 0 (by omega)⟩))))))
theorem dx_join_ok {post : Int32 → Prop} {t u q n m : Nat} (h1 : t < 3) (h2 : u < 3) (h3 : q < 9) (hn : n ≤ 24) (hm : m ≤ 24) (ez : Z t = nI n) (ey : Z u = nI m) (hp : post (dz_out (dz_jp A t u q) (fun _ _ => 1) m n)) : wpX_join post (fo, fc, fr, A, Z, B, W, R) (nI t) (nI u) (nI q) := by
  unfold wpX_join
  dsimp only
  exact dx_table_t h1 (br_f dz_n10 (dx_table_t h2 (br_f dz_n10 (dx_pair_t h3 (br_f dz_n10 (⟨n + 1, dx_join_l h1 h2 h3 hn hm ez ey hp n 0 (by omega)⟩))))))
theorem dx_joinSum_ok {post : Int32 → Prop} {t u q w n m : Nat} (h1 : t < 3) (h2 : u < 3) (h3 : q < 9) (h4 : w < 9) (hn : n ≤ 24) (hm : m ≤ 24) (ez : Z t = nI n) (ey : Z u = nI m) (hp : post (dz_out (dz_jp A t u q) (dz_jh A t u w) m n)) : wpX_joinSum post (fo, fc, fr, A, Z, B, W, R) (nI t) (nI u) (nI q) (nI w) := by
  unfold wpX_joinSum
  dsimp only
  exact dx_table_t h1 (br_f dz_n10 (dx_table_t h2 (br_f dz_n10 (dx_pair_t h3 (br_f dz_n10 (dx_pair_t h4 (br_f dz_n10 (⟨n + 1, dx_jsum_l h1 h2 h3 h4 hn hm ez ey hp n 0 (by omega)⟩))))))))
theorem dx_index_ok {post : Int32 → Prop} {t c : Nat} {v : Int32} (h1 : t < 3) (h2 : c < 3) (hp : post 1) : wpX_index post (fo, fc, fr, A, Z, B, W, R) (nI t) (nI c) v := by
  unfold wpX_index
  dsimp only
  exact dx_table_t h1 (br_f dz_n10 (dx_column_t h2 (br_f dz_n10 (hp))))
theorem dy_count_ok {post : Int32 → Prop} {t q n : Nat} {v : Int32} (h1 : t < 3) (h2 : q < 15) (hn : n ≤ 24) (ez : Z t = nI n) (hp : post (nI (dz_cn (dz_mt A t q v) n))) : wpY_count post (fo, fc, fr, Z, A, W, B, R) (nI t) (nI q) v := by
  unfold wpY_count
  dsimp only
  exact dy_table_t h1 (br_f dz_n10 (dy_condition_t h2 (br_f dz_n10 (dy_count h1 h2 hn ez hp))))
theorem dy_sum_ok {post : Int32 → Prop} {t c q n : Nat} {v : Int32} (h1 : t < 3) (h2 : c < 3) (h3 : q < 15) (hn : n ≤ 24) (ez : Z t = nI n) (hp : post (dz_in (dz_mt A t q v) (fun r => A (72 * t + 3 * r + c)) 0 n)) : wpY_sum post (fo, fc, fr, Z, A, W, B, R) (nI t) (nI c) (nI q) v := by
  unfold wpY_sum
  dsimp only
  exact dy_table_t h1 (br_f dz_n10 (dy_condition_t h3 (br_f dz_n10 (dy_table_t h2 (br_f dz_n10 (⟨n + 1, dy_sum_l h1 h3 h2 hn ez hp n 0 (by omega)⟩))))))
theorem dy_join_ok {post : Int32 → Prop} {t u q n m : Nat} (h1 : t < 3) (h2 : u < 3) (h3 : q < 9) (hn : n ≤ 24) (hm : m ≤ 24) (ez : Z t = nI n) (ey : Z u = nI m) (hp : post (dz_out (dz_jp A t u q) (fun _ _ => 1) m n)) : wpY_join post (fo, fc, fr, Z, A, W, B, R) (nI t) (nI u) (nI q) := by
  unfold wpY_join
  dsimp only
  exact dy_table_t h1 (br_f dz_n10 (dy_table_t h2 (br_f dz_n10 (dy_nine_t h3 (br_f dz_n10 (⟨n + 1, dy_join_l h1 h2 h3 hn hm ez ey hp n 0 (by omega)⟩))))))
theorem dy_joinSum_ok {post : Int32 → Prop} {t u q w n m : Nat} (h1 : t < 3) (h2 : u < 3) (h3 : q < 9) (h4 : w < 9) (hn : n ≤ 24) (hm : m ≤ 24) (ez : Z t = nI n) (ey : Z u = nI m) (hp : post (dz_out (dz_jp A t u q) (dz_jh A t u w) m n)) : wpY_joinSum post (fo, fc, fr, Z, A, W, B, R) (nI t) (nI u) (nI q) (nI w) := by
  unfold wpY_joinSum
  dsimp only
  exact dy_table_t h1 (br_f dz_n10 (dy_table_t h2 (br_f dz_n10 (dy_nine_t h3 (br_f dz_n10 (dy_nine_t h4 (br_f dz_n10 (⟨n + 1, dy_jsum_l h1 h2 h3 h4 hn hm ez ey hp n 0 (by omega)⟩))))))))
theorem dy_index_ok {post : Int32 → Prop} {t c : Nat} {v : Int32} (h1 : t < 3) (h2 : c < 3) (hp : post 1) : wpY_index post (fo, fc, fr, Z, A, W, B, R) (nI t) (nI c) v := by
  unfold wpY_index
  dsimp only
  exact dy_table_t h1 (br_f dz_n10 (dy_table_t h2 (br_f dz_n10 (hp))))
theorem dx_distinct_ok {post : Int32 → Prop} {t c n : Nat} (h1 : t < 3) (h2 : c < 3) (hn : n ≤ 24) (ez : Z t = nI n) (hA : ∀ j, dz_ok (A j)) (hp : post (nI (dz_cn (dz_hd (dz_f A t c) n) 199))) : wpX_distinct post (fo, fc, fr, A, Z, B, W, R) (nI t) (nI c) := by
  have k0 := dx_dist_l (fo := fo) (fc := fc) (fr := fr) (B := B) (W := W) (R := R) h1 h2 hn ez hA hp 199 0 (by omega)
  rw [dz_nv_0] at k0
  unfold wpX_distinct
  dsimp only
  exact dx_table_t h1 (br_f dz_n10 (dx_column_t h2 (br_f dz_n10 ⟨200, k0⟩)))
theorem dy_distinct_ok {post : Int32 → Prop} {t c n : Nat} (h1 : t < 3) (h2 : c < 3) (hn : n ≤ 24) (ez : Z t = nI n) (hA : ∀ j, dz_ok (A j)) (hp : post (nI (dz_cn (dz_hd (dz_f A t c) n) 199))) : wpY_distinct post (fo, fc, fr, Z, A, W, B, R) (nI t) (nI c) := by
  unfold wpY_distinct
  dsimp only
  refine dy_table_t h1 (br_f dz_n10 (dy_table_t h2 (br_f dz_n10 (dy_next (p := 0) h1 h2 hn ez hA dz_m100 (by omega) (fun q hN => ⟨200, ?_⟩)))))
  have k0 := dy_dist_l (fo := fo) (fc := fc) (fr := fr) (B := B) (W := W) (R := R) h1 h2 hn ez hA hp 200 q (by omega) hN.2.1 (fun z => dz_nx_hit hN z)
  rw [dz_nx_gap hN] at k0
  exact k0
theorem dx_kth_ok {post : Int32 → Prop} {t c n : Nat} {K : Int32} (h1 : t < 3) (h2 : c < 3) (hn : n ≤ 24) (ez : Z t = nI n) (hA : ∀ j, dz_ok (A j)) (hp : ∀ r, dz_Ks (dz_f A t c) n K r → post r) : wpX_kth post (fo, fc, fr, A, Z, B, W, R) (nI t) (nI c) K := by
  have k0 := dx_kth_l (fo := fo) (fc := fc) (fr := fr) (B := B) (W := W) (R := R) h1 h2 hn ez hA hp 199 0 (by omega) (fun j hj => absurd hj (by omega))
  rw [dz_nv_0] at k0
  unfold wpX_kth
  dsimp only
  exact dx_table_t h1 (br_f dz_n10 (dx_column_t h2 (br_f dz_n10 ⟨200, k0⟩)))
theorem dy_kth_ok {post : Int32 → Prop} {t c n : Nat} {K : Int32} (h1 : t < 3) (h2 : c < 3) (hn : n ≤ 24) (ez : Z t = nI n) (hA : ∀ j, dz_ok (A j)) (hp : ∀ r, dz_Ks (dz_f A t c) n K r → post r) : wpY_kth post (fo, fc, fr, Z, A, W, B, R) (nI t) (nI c) K := by
  unfold wpY_kth
  dsimp only
  refine dy_table_t h1 (br_f dz_n10 (dy_table_t h2 (br_f dz_n10 (br_c (fun l => hp _ (dz_Ks_lo hn l)) (fun l => br_c (fun g => ?_) (fun g => hp _ (dz_Ks_hi hn g)))))))
  obtain ⟨k, hk, rfl⟩ := nI_of l
  have hk2 : k ≤ 24 := (nI_leI (b := 24) hk (by omega)).mp g
  refine dy_next (p := 0) h1 h2 hn ez hA dz_m100 (by omega) (fun q hN => ⟨25, ?_⟩)
  exact dy_kth_l (fo := fo) (fc := fc) (fr := fr) (B := B) (W := W) (R := R) h1 h2 hn hk2 ez hA hp 25 0 q (by omega) (by omega) hN.2.1 (dz_nx_gap hN) (fun z => dz_nx_hit hN z)
theorem dx_select_ok {post : Int32 → SX → Prop} {t q o n : Nat} {v : Int32} (h1 : t < 3) (h2 : q < 15) (h4 : o < 3) (hn : n ≤ 24) (ez : Z t = nI n) (hA : ∀ j, dz_ok (A j)) (hp : ∀ R', dz_Q R' o (dz_cn (dz_mt A t q v) n) (dz_cb A t q v o n) → dz_Srt (dz_ky R' o) (dz_cn (dz_mt A t q v) n) → post (nI (dz_cn (dz_mt A t q v) n)) (fo, fc, nI (dz_cn (dz_mt A t q v) n), A, Z, B, W, R')) : wpX_select post (fo, fc, fr, A, Z, B, W, R) (nI t) (nI q) v (nI o) := by
  unfold wpX_select
  dsimp only
  exact dx_table_t h1 (br_f dz_n10 (dx_condition_t h2 (br_f dz_n10 (dx_column_t h4 (br_f dz_n10 ⟨n + 1, dx_sel_l h1 h2 h4 hn ez hA hp n 0 R (by omega) (dz_Q_0 R o) (fun _ b _ hb => absurd hb (Nat.not_lt_zero b))⟩)))))
theorem dy_select_ok {post : Int32 → SY → Prop} {t q o n : Nat} {v : Int32} (h1 : t < 3) (h2 : q < 15) (h4 : o < 3) (hn : n ≤ 24) (ez : Z t = nI n) (hA : ∀ j, dz_ok (A j)) (hp : ∀ R', dz_Q R' o (dz_cn (dz_mt A t q v) n) (dz_cb A t q v o n) → dz_Srt (dz_ky R' o) (dz_cn (dz_mt A t q v) n) → post (nI (dz_cn (dz_mt A t q v) n)) (fo, fc, nI (dz_cn (dz_mt A t q v) n), Z, A, W, B, R')) : wpY_select post (fo, fc, fr, Z, A, W, B, R) (nI t) (nI q) v (nI o) := by
  unfold wpY_select
  dsimp only
  exact dy_table_t h1 (br_f dz_n10 (dy_condition_t h2 (br_f dz_n10 (dy_table_t h4 (br_f dz_n10 ⟨n + 1, dy_sel_l h1 h2 h4 hn ez hA hp n 0 R (by omega) (dz_Q_0 R o)⟩)))))
theorem dx_row_bad {post : Int32 → Prop} {m : Nat} {v1 v2 : Int32} (hm : m ≤ 24) (h : ¬ (dz_v m v1 ∧ dz_v 3 v2)) (hp : post (-1000)) : wpX_row post (fo, fc, nI m, A, Z, B, W, R) v1 v2 := by
  unfold wpX_row
  dsimp only
  refine br_c (fun _ => hp) (fun l => br_c (fun _ => hp) (fun g => dx_column_f (fun c2 => h ⟨?_, c2⟩) (br_t rfl hp)))
  obtain ⟨j, hj, e⟩ := nI_of l
  rw [e, nI_leI (by omega) hj] at g
  exact ⟨j, by omega, e⟩
theorem dy_row_bad {post : Int32 → Prop} {m : Nat} {v1 v2 : Int32} (hm : m ≤ 24) (h : ¬ (dz_v m v1 ∧ dz_v 3 v2)) (hp : post (-1000)) : wpY_row post (fo, fc, nI m, Z, A, W, B, R) v1 v2 := by
  unfold wpY_row
  dsimp only
  refine br_c (fun _ => hp) (fun l => br_c (fun _ => hp) (fun g => dy_table_f (fun c2 => h ⟨?_, c2⟩) (br_t rfl hp)))
  obtain ⟨j, hj, e⟩ := nI_of l
  rw [e, nI_leI (by omega) hj] at g
  exact ⟨j, by omega, e⟩
theorem dx_row_ok {post : Int32 → Prop} {m i c : Nat} (hm : m ≤ 24) (hi : i < m) (hc : c < 3) (hp : post (R (3 * i + c))) : wpX_row post (fo, fc, nI m, A, Z, B, W, R) (nI i) (nI c) := by
  unfold wpX_row
  dsimp only
  rw [dz_ixR i c, nI_clamp (n := 3 * i + c) (by omega)]
  exact br_f (nI_pos (by omega)) (br_f (nI_ge hi (by omega)) (dx_column_t hc (br_f dz_n10 ⟨vp_in_nI (by omega) (by omega), hp⟩)))
theorem dy_row_ok {post : Int32 → Prop} {m i c : Nat} (hm : m ≤ 24) (hi : i < m) (hc : c < 3) (hp : post (R (3 * i + c))) : wpY_row post (fo, fc, nI m, Z, A, W, B, R) (nI i) (nI c) := by
  unfold wpY_row
  dsimp only
  rw [dz_ixS i c, nI_clamp (n := 3 * i + c) (by omega)]
  exact br_f (nI_pos (by omega)) (br_f (nI_ge hi (by omega)) (dy_table_t hc (br_f dz_n10 ⟨vp_in_nI (by omega) (by omega), hp⟩)))
end
