/-! what is owed -/
section
variable {fo fc fr : Int32} {A Z B W R : Nat → Int32}
theorem dx_begin_ok {post : Int32 → SX → Prop} (h : fo = 0) (hp : post 1 (1, fc, fr, A, Z, dz_cp A B 216, dz_cp Z W 3, R)) : wpX_begin post (fo, fc, fr, A, Z, B, W, R) := by
  unfold wpX_begin
  dsimp only
  exact br_t h (dx_cp_cells_savedCells (dx_cp_sizes_savedSizes hp))
theorem dx_begin_no {post : Int32 → SX → Prop} (h : ¬ fo = 0) (hp : post 0 (fo, fc, fr, A, Z, B, W, R)) : wpX_begin post (fo, fc, fr, A, Z, B, W, R) := br_f h hp
theorem dy_begin_ok {post : Int32 → SY → Prop} (h : fo = 0) (hp : post 1 (1, 0, fr, Z, A, dz_cp Z W 3, dz_cp A B 216, R)) : wpY_begin post (fo, fc, fr, Z, A, W, B, R) := by
  unfold wpY_begin
  dsimp only
  exact br_t h (dy_begin_21 (dy_begin_46 hp))
theorem dy_begin_no {post : Int32 → SY → Prop} (h : ¬ fo = 0) (hp : post 0 (fo, fc, fr, Z, A, W, B, R)) : wpY_begin post (fo, fc, fr, Z, A, W, B, R) := br_f h hp
theorem dx_commit_no {post : Int32 → SX → Prop} (h : fo = 0) (hp : post (-1000) (fo, fc, fr, A, Z, B, W, R)) : wpX_commit post (fo, fc, fr, A, Z, B, W, R) := br_t h hp
theorem dx_commit_ok {post : Int32 → SX → Prop} (h : ¬ fo = 0) (hp : post fc (0, 0, fr, A, Z, B, W, R)) : wpX_commit post (fo, fc, fr, A, Z, B, W, R) := br_f h hp
theorem dy_commit_no {post : Int32 → SY → Prop} (h : fo = 0) (hp : post (-1000) (fo, fc, fr, Z, A, W, B, R)) : wpY_commit post (fo, fc, fr, Z, A, W, B, R) := br_t h hp
theorem dy_commit_ok {post : Int32 → SY → Prop} (h : ¬ fo = 0) (hp : post fc (0, fc, fr, Z, A, W, B, R)) : wpY_commit post (fo, fc, fr, Z, A, W, B, R) := br_f h hp
theorem dx_bring {post : SX → Prop} (hp : post (fo, fc, fr, dz_cp B A 216, dz_cp W Z 3, B, W, R)) : wpX_bringBack post (fo, fc, fr, A, Z, B, W, R) := by
  unfold wpX_bringBack
  dsimp only
  exact dx_cp_savedCells_cells (dx_cp_savedSizes_sizes hp)
theorem dx_rollback_no {post : Int32 → SX → Prop} (h : fo = 0) (hp : post (-1000) (fo, fc, fr, A, Z, B, W, R)) : wpX_rollback post (fo, fc, fr, A, Z, B, W, R) := br_t h hp
theorem dx_rollback_ok {post : Int32 → SX → Prop} (h : ¬ fo = 0) (hp : post fc (0, 0, fr, dz_cp B A 216, dz_cp W Z 3, B, W, R)) : wpX_rollback post (fo, fc, fr, A, Z, B, W, R) := by
  unfold wpX_rollback
  dsimp only
  exact br_f h (dx_bring hp)
theorem dy_rollback_no {post : Int32 → SY → Prop} (h : fo = 0) (hp : post (-1000) (fo, fc, fr, Z, A, W, B, R)) : wpY_rollback post (fo, fc, fr, Z, A, W, B, R) := br_t h hp
theorem dy_rollback_ok {post : Int32 → SY → Prop} (h : ¬ fo = 0) (hp : post fc (0, fc, fr, dz_cp W Z 3, dz_cp B A 216, W, B, R)) : wpY_rollback post (fo, fc, fr, Z, A, W, B, R) := by
  unfold wpY_rollback
  dsimp only
  exact br_f h (dy_rollback_18 (dy_rollback_43 hp))
theorem dx_crash_no {post : Int32 → SX → Prop} (h : fo = 0) (hp : post fc (0, 0, 0, A, Z, B, W, R)) : wpX_crash post (fo, fc, fr, A, Z, B, W, R) := by
  unfold wpX_crash
  dsimp only
  exact br_t h hp
theorem dx_crash_ok {post : Int32 → SX → Prop} (h : ¬ fo = 0) (hp : post fc (0, 0, 0, dz_cp B A 216, dz_cp W Z 3, B, W, R)) : wpX_crash post (fo, fc, fr, A, Z, B, W, R) := by
  unfold wpX_crash
  dsimp only
  exact br_f h (dx_bring hp)
theorem dy_crash_no {post : Int32 → SY → Prop} (h : fo = 0) (hp : post 0 (fo, fc, 0, Z, A, W, B, R)) : wpY_crash post (fo, fc, fr, Z, A, W, B, R) := by
  unfold wpY_crash
  dsimp only
  exact dy_rollback_no h (br_t rfl hp)
theorem dy_crash_ok {post : Int32 → SY → Prop} (h : ¬ fo = 0) (hc : ¬ fc = -1000) (hp : post fc (0, fc, 0, dz_cp W Z 3, dz_cp B A 216, W, B, R)) : wpY_crash post (fo, fc, fr, Z, A, W, B, R) := by
  unfold wpY_crash
  dsimp only
  exact dy_rollback_ok h (br_f hc hp)
end
theorem dz_nbad {c : Nat} (hc : c ≤ 30) : ¬ nI c = -1000 := by
  intro e
  have h1 := congrArg Int32.toInt e
  have h2 : (-1000 : Int32).toInt = -1000 := by decide
  rw [nI_toInt (by omega), h2] at h1
  omega
def i_Rel (k : Nat) (u : SX) (v : SY) : Prop := ∃ (fo cx cy : Int32) (m : Nat) (A Z B W RX RY : Nat → Int32), u = (fo, cx, nI m, A, Z, B, W, RX) ∧ v = (fo, cy, nI m, Z, A, W, B, RY) ∧ (∀ j, dz_ok (A j)) ∧ (∀ j, dz_ok (B j)) ∧ (∀ j, dz_z (Z j)) ∧ (∀ j, dz_z (W j)) ∧ dz_tr fo cx cy ∧ m ≤ 24 ∧ (∀ j, j < 3 * m → RX j = RY j)
theorem dz_R {k m : Nat} {fo cx cy : Int32} {A Z B W RX RY : Nat → Int32} (hA : ∀ j, dz_ok (A j)) (hB : ∀ j, dz_ok (B j)) (hZ : ∀ j, dz_z (Z j)) (hW : ∀ j, dz_z (W j)) (ht : dz_tr fo cx cy) (hm : m ≤ 24) (hR : ∀ j, j < 3 * m → RX j = RY j) : i_Rel k (fo, cx, nI m, A, Z, B, W, RX) (fo, cy, nI m, Z, A, W, B, RY) :=
  ⟨fo, cx, cy, m, A, Z, B, W, RX, RY, rfl, rfl, hA, hB, hZ, hW, ht, hm, hR⟩
theorem i_up {k : Nat} {u : SX} {v : SY} (h : i_Rel k u v) : i_Rel (k + 5) u v := h
theorem i_vc0 : wpX_init (fun u => wpY_init (fun v => i_Rel 0 u v)) :=
  dz_R (k := 0) (m := 0) (fun _ => dz_ok0) (fun _ => dz_ok0) (fun _ => dz_z0) (fun _ => dz_z0) (Or.inl ⟨rfl, rfl⟩) (by omega) (fun _ _ => rfl)
theorem i_vc_insert {k : Nat} {u : SX} {v : SY} (I : i_Rel k u v) (hk : k + 5 ≤ 2560) (v1 : Int32) (v2 : Int32) (v3 : Int32) (v4 : Int32) : wpX_insert (fun r u' => wpY_insert (fun r' v' => r' = r ∧ i_Rel (k + 5) u' v') v v1 v2 v3 v4) u v1 v2 v3 v4 := by
  obtain ⟨fo, cx, cy, m, A, Z, B, W, RX, RY, rfl, rfl, hA, hB, hZ, hW, ht, hm, hR⟩ := I
  by_cases c : dz_v 3 v1 ∧ dz_ok v2 ∧ dz_ok v3 ∧ dz_ok v4
  · obtain ⟨⟨t, h1, rfl⟩, h2, h3, h4⟩ := c
    obtain ⟨n, hn, ez⟩ := hZ t
    rcases dz_room 1 ht (by omega) with hf | ⟨cx', hf, ht'⟩
    · exact dx_insert_full h1 h2 h3 h4 hn ez (Or.inr hf) (dy_insert_full h1 h2 h3 h4 hn ez (Or.inr hf) ⟨rfl, dz_R hA hB hZ hW ht hm hR⟩)
    · by_cases c24 : 24 ≤ n
      · exact dx_insert_full (cy := 0) h1 h2 h3 h4 hn ez (Or.inl c24) (dy_insert_full (cx := 0) h1 h2 h3 h4 hn ez (Or.inl c24) ⟨rfl, dz_R hA hB hZ hW ht hm hR⟩)
      · exact dx_insert_ok h1 h2 h3 h4 (by omega) ez hf (dy_insert_ok h1 h2 h3 h4 (by omega) ez hf ⟨rfl, dz_R (dz_w3_ok hA h2 h3 h4) hB (dz_upd_z hZ ⟨n + 1, by omega, rfl⟩) hW ht' hm hR⟩)
  · exact dx_insert_bad c (dy_insert_bad c ⟨rfl, dz_R hA hB hZ hW ht hm hR⟩)
theorem i_vc_delete {k : Nat} {u : SX} {v : SY} (I : i_Rel k u v) (hk : k + 5 ≤ 2560) (v1 : Int32) (v2 : Int32) (v3 : Int32) : wpX_delete (fun r u' => wpY_delete (fun r' v' => r' = r ∧ i_Rel (k + 5) u' v') v v1 v2 v3) u v1 v2 v3 := by
  obtain ⟨fo, cx, cy, m, A, Z, B, W, RX, RY, rfl, rfl, hA, hB, hZ, hW, ht, hm, hR⟩ := I
  by_cases c : dz_v 3 v1 ∧ dz_v 15 v2
  · obtain ⟨⟨t, h1, rfl⟩, q, h2, rfl⟩ := c
    obtain ⟨n, hn, ez⟩ := hZ t
    have hl := dz_cn_le (dz_mt A t q v3) n
    have hd := dz_dl_le t q v3 A n
    rcases dz_room (dz_cn (dz_mt A t q v3) n) ht (by omega) with hf | ⟨cx', hf, ht'⟩
    · exact dx_delete_full h1 h2 hn ez hf (dy_delete_full h1 h2 hn ez hf ⟨rfl, dz_R hA hB hZ hW ht hm hR⟩)
    · exact dx_delete_ok h1 h2 hn ez hf (dy_delete_ok h1 h2 hn ez hf ⟨rfl, dz_R (dz_dl_ok hA n) hB (dz_upd_z hZ ⟨_, by omega, rfl⟩) hW ht' hm hR⟩)
  · exact dx_delete_bad c (dy_delete_bad c ⟨rfl, dz_R hA hB hZ hW ht hm hR⟩)
theorem i_vc_update {k : Nat} {u : SX} {v : SY} (I : i_Rel k u v) (hk : k + 5 ≤ 2560) (v1 : Int32) (v2 : Int32) (v3 : Int32) (v4 : Int32) : wpX_update (fun r u' => wpY_update (fun r' v' => r' = r ∧ i_Rel (k + 5) u' v') v v1 v2 v3 v4) u v1 v2 v3 v4 := by
  obtain ⟨fo, cx, cy, m, A, Z, B, W, RX, RY, rfl, rfl, hA, hB, hZ, hW, ht, hm, hR⟩ := I
  by_cases c : dz_v 3 v1 ∧ dz_v 15 v2 ∧ dz_v 597 v4
  · obtain ⟨⟨t, h1, rfl⟩, ⟨q, h2, rfl⟩, s, hs, rfl⟩ := c
    obtain ⟨n, hn, ez⟩ := hZ t
    have hl := dz_cn_le (dz_mt A t q v3) n
    rcases dz_room (dz_cn (dz_mt A t q v3) n) ht (by omega) with hf | ⟨cx', hf, ht'⟩
    · exact dx_update_full h1 h2 hs hn ez hf (dy_update_full h1 h2 hs hn ez hf ⟨rfl, dz_R hA hB hZ hW ht hm hR⟩)
    · exact dx_update_ok h1 h2 hs hn ez hf (dy_update_ok h1 h2 hs hn ez hf ⟨rfl, dz_R (dz_ud_ok hA (dz_nv_ok (by omega)) n) hB hZ hW ht' hm hR⟩)
  · exact dx_update_bad c (dy_update_bad c ⟨rfl, dz_R hA hB hZ hW ht hm hR⟩)
theorem i_vc_begin {k : Nat} {u : SX} {v : SY} (I : i_Rel k u v) (hk : k + 5 ≤ 2560) : wpX_begin (fun r u' => wpY_begin (fun r' v' => r' = r ∧ i_Rel (k + 5) u' v') v) u := by
  obtain ⟨fo, cx, cy, m, A, Z, B, W, RX, RY, rfl, rfl, hA, hB, hZ, hW, ht, hm, hR⟩ := I
  rcases id ht with ⟨e0, e1⟩ | ⟨e0, c, hc, e1, e2⟩
  · exact dx_begin_ok e0 (dy_begin_ok e0 ⟨rfl, dz_R hA (dz_cp_p hA hB) hZ (dz_cp_p hZ hW) (Or.inr ⟨rfl, 0, by omega, e1, rfl⟩) hm hR⟩)
  · have h : ¬ fo = 0 := by rw [e0]; exact dz_n10
    exact dx_begin_no h (dy_begin_no h ⟨rfl, dz_R hA hB hZ hW ht hm hR⟩)
theorem i_vc_commit {k : Nat} {u : SX} {v : SY} (I : i_Rel k u v) (hk : k + 5 ≤ 2560) : wpX_commit (fun r u' => wpY_commit (fun r' v' => r' = r ∧ i_Rel (k + 5) u' v') v) u := by
  obtain ⟨fo, cx, cy, m, A, Z, B, W, RX, RY, rfl, rfl, hA, hB, hZ, hW, ht, hm, hR⟩ := I
  rcases id ht with ⟨e0, e1⟩ | ⟨e0, c, hc, e1, e2⟩
  · exact dx_commit_no e0 (dy_commit_no e0 ⟨rfl, dz_R hA hB hZ hW ht hm hR⟩)
  · have h : ¬ fo = 0 := by rw [e0]; exact dz_n10
    exact dx_commit_ok h (dy_commit_ok h ⟨e2.trans e1.symm, dz_R hA hB hZ hW (Or.inl ⟨rfl, rfl⟩) hm hR⟩)
theorem i_vc_rollback {k : Nat} {u : SX} {v : SY} (I : i_Rel k u v) (hk : k + 5 ≤ 2560) : wpX_rollback (fun r u' => wpY_rollback (fun r' v' => r' = r ∧ i_Rel (k + 5) u' v') v) u := by
  obtain ⟨fo, cx, cy, m, A, Z, B, W, RX, RY, rfl, rfl, hA, hB, hZ, hW, ht, hm, hR⟩ := I
  rcases id ht with ⟨e0, e1⟩ | ⟨e0, c, hc, e1, e2⟩
  · exact dx_rollback_no e0 (dy_rollback_no e0 ⟨rfl, dz_R hA hB hZ hW ht hm hR⟩)
  · have h : ¬ fo = 0 := by rw [e0]; exact dz_n10
    exact dx_rollback_ok h (dy_rollback_ok h ⟨e2.trans e1.symm, dz_R (dz_cp_p hB hA) hB (dz_cp_p hW hZ) hW (Or.inl ⟨rfl, rfl⟩) hm hR⟩)
theorem i_vc_crash {k : Nat} {u : SX} {v : SY} (I : i_Rel k u v) (hk : k + 5 ≤ 2560) : wpX_crash (fun r u' => wpY_crash (fun r' v' => r' = r ∧ i_Rel (k + 5) u' v') v) u := by
  obtain ⟨fo, cx, cy, m, A, Z, B, W, RX, RY, rfl, rfl, hA, hB, hZ, hW, ht, hm, hR⟩ := I
  rcases id ht with ⟨e0, e1⟩ | ⟨e0, c, hc, e1, e2⟩
  · exact dx_crash_no e0 (dy_crash_no e0 ⟨e1.symm, by rw [e0]; exact dz_R (m := 0) hA hB hZ hW (Or.inl ⟨rfl, rfl⟩) (by omega) (fun j hj => absurd hj (by omega))⟩)
  · have h : ¬ fo = 0 := by rw [e0]; exact dz_n10
    exact dx_crash_ok h (dy_crash_ok h (by rw [e2]; exact dz_nbad hc) ⟨e2.trans e1.symm, dz_R (m := 0) (dz_cp_p hB hA) hB (dz_cp_p hW hZ) hW (Or.inl ⟨rfl, rfl⟩) (by omega) (fun j hj => absurd hj (by omega))⟩)
theorem i_vc_index {k : Nat} {u : SX} {v : SY} (I : i_Rel k u v) (hk : k + 5 ≤ 2560) (v1 : Int32) (v2 : Int32) (v3 : Int32) : wpX_index (fun r => wpY_index (fun r' => r' = r ∧ i_Rel (k + 5) u v) v v1 v2 (lw_bz v3)) u v1 v2 (lw_bz v3) := by
  obtain ⟨fo, cx, cy, m, A, Z, B, W, RX, RY, rfl, rfl, hA, hB, hZ, hW, ht, hm, hR⟩ := I
  by_cases c : dz_v 3 v1 ∧ dz_v 3 v2
  · obtain ⟨⟨t, h1, rfl⟩, q, h2, rfl⟩ := c
    exact dx_index_ok h1 h2 (dy_index_ok h1 h2 ⟨rfl, dz_R hA hB hZ hW ht hm hR⟩)
  · exact dx_index_bad c (dy_index_bad c ⟨rfl, dz_R hA hB hZ hW ht hm hR⟩)
theorem i_vc_select {k : Nat} {u : SX} {v : SY} (I : i_Rel k u v) (hk : k + 5 ≤ 2560) (v1 : Int32) (v2 : Int32) (v3 : Int32) (v4 : Int32) : wpX_select (fun r u' => wpY_select (fun r' v' => r' = r ∧ i_Rel (k + 5) u' v') v v1 v2 v3 v4) u v1 v2 v3 v4 := by
  obtain ⟨fo, cx, cy, m, A, Z, B, W, RX, RY, rfl, rfl, hA, hB, hZ, hW, ht, hm, hR⟩ := I
  by_cases c : dz_v 3 v1 ∧ dz_v 15 v2 ∧ dz_v 3 v4
  · obtain ⟨⟨t, h1, rfl⟩, ⟨q, h2, rfl⟩, o, h4, rfl⟩ := c
    obtain ⟨n, hn, ez⟩ := hZ t
    have hl := dz_cn_le (dz_mt A t q v3) n
    exact dx_select_ok h1 h2 h4 hn ez hA (fun R1 q1 s1 => dy_select_ok h1 h2 h4 hn ez hA (fun R2 q2 s2 => ⟨rfl, dz_R hA hB hZ hW ht (by omega) (dz_Q_eq q1 q2 s1 s2)⟩))
  · exact dx_select_bad c (dy_select_bad c ⟨rfl, dz_R hA hB hZ hW ht hm hR⟩)
theorem i_vc_row {k : Nat} {u : SX} {v : SY} (I : i_Rel k u v) (hk : k + 5 ≤ 2560) (v1 : Int32) (v2 : Int32) : wpX_row (fun r => wpY_row (fun r' => r' = r ∧ i_Rel (k + 5) u v) v v1 v2) u v1 v2 := by
  obtain ⟨fo, cx, cy, m, A, Z, B, W, RX, RY, rfl, rfl, hA, hB, hZ, hW, ht, hm, hR⟩ := I
  by_cases c : dz_v m v1 ∧ dz_v 3 v2
  · obtain ⟨⟨i, h1, rfl⟩, q, h2, rfl⟩ := c
    exact dx_row_ok hm h1 h2 (dy_row_ok hm h1 h2 ⟨(hR _ (by omega)).symm, dz_R hA hB hZ hW ht hm hR⟩)
  · exact dx_row_bad hm c (dy_row_bad hm c ⟨rfl, dz_R hA hB hZ hW ht hm hR⟩)
theorem i_vc_count {k : Nat} {u : SX} {v : SY} (I : i_Rel k u v) (hk : k + 5 ≤ 2560) (v1 : Int32) (v2 : Int32) (v3 : Int32) : wpX_count (fun r => wpY_count (fun r' => r' = r ∧ i_Rel (k + 5) u v) v v1 v2 v3) u v1 v2 v3 := by
  obtain ⟨fo, cx, cy, m, A, Z, B, W, RX, RY, rfl, rfl, hA, hB, hZ, hW, ht, hm, hR⟩ := I
  by_cases c : dz_v 3 v1 ∧ dz_v 15 v2
  · obtain ⟨⟨t, h1, rfl⟩, q, h2, rfl⟩ := c
    obtain ⟨n, hn, ez⟩ := hZ t
    exact dx_count_ok h1 h2 hn ez (dy_count_ok h1 h2 hn ez ⟨rfl, dz_R hA hB hZ hW ht hm hR⟩)
  · exact dx_count_bad c (dy_count_bad c ⟨rfl, dz_R hA hB hZ hW ht hm hR⟩)
theorem i_vc_sum {k : Nat} {u : SX} {v : SY} (I : i_Rel k u v) (hk : k + 5 ≤ 2560) (v1 : Int32) (v2 : Int32) (v3 : Int32) (v4 : Int32) : wpX_sum (fun r => wpY_sum (fun r' => r' = r ∧ i_Rel (k + 5) u v) v v1 v2 v3 v4) u v1 v2 v3 v4 := by
  obtain ⟨fo, cx, cy, m, A, Z, B, W, RX, RY, rfl, rfl, hA, hB, hZ, hW, ht, hm, hR⟩ := I
  by_cases c : dz_v 3 v1 ∧ dz_v 3 v2 ∧ dz_v 15 v3
  · obtain ⟨⟨t, h1, rfl⟩, ⟨q, h2, rfl⟩, w, h3, rfl⟩ := c
    obtain ⟨n, hn, ez⟩ := hZ t
    exact dx_sum_ok h1 h2 h3 hn ez (dy_sum_ok h1 h2 h3 hn ez ⟨rfl, dz_R hA hB hZ hW ht hm hR⟩)
  · exact dx_sum_bad c (dy_sum_bad c ⟨rfl, dz_R hA hB hZ hW ht hm hR⟩)
theorem i_vc_join {k : Nat} {u : SX} {v : SY} (I : i_Rel k u v) (hk : k + 5 ≤ 2560) (v1 : Int32) (v2 : Int32) (v3 : Int32) : wpX_join (fun r => wpY_join (fun r' => r' = r ∧ i_Rel (k + 5) u v) v v1 v2 v3) u v1 v2 v3 := by
  obtain ⟨fo, cx, cy, m, A, Z, B, W, RX, RY, rfl, rfl, hA, hB, hZ, hW, ht, hm, hR⟩ := I
  by_cases c : dz_v 3 v1 ∧ dz_v 3 v2 ∧ dz_v 9 v3
  · obtain ⟨⟨t, h1, rfl⟩, ⟨q, h2, rfl⟩, w, h3, rfl⟩ := c
    obtain ⟨n, hn, ez⟩ := hZ t
    obtain ⟨l, hl, ey⟩ := hZ q
    exact dx_join_ok h1 h2 h3 hn hl ez ey (dy_join_ok h1 h2 h3 hn hl ez ey ⟨rfl, dz_R hA hB hZ hW ht hm hR⟩)
  · exact dx_join_bad c (dy_join_bad c ⟨rfl, dz_R hA hB hZ hW ht hm hR⟩)
theorem i_vc_joinSum {k : Nat} {u : SX} {v : SY} (I : i_Rel k u v) (hk : k + 5 ≤ 2560) (v1 : Int32) (v2 : Int32) (v3 : Int32) (v4 : Int32) : wpX_joinSum (fun r => wpY_joinSum (fun r' => r' = r ∧ i_Rel (k + 5) u v) v v1 v2 v3 v4) u v1 v2 v3 v4 := by
  obtain ⟨fo, cx, cy, m, A, Z, B, W, RX, RY, rfl, rfl, hA, hB, hZ, hW, ht, hm, hR⟩ := I
  by_cases c : dz_v 3 v1 ∧ dz_v 3 v2 ∧ dz_v 9 v3 ∧ dz_v 9 v4
  · obtain ⟨⟨t, h1, rfl⟩, ⟨q, h2, rfl⟩, ⟨w, h3, rfl⟩, y, h4, rfl⟩ := c
    obtain ⟨n, hn, ez⟩ := hZ t
    obtain ⟨l, hl, ey⟩ := hZ q
    exact dx_joinSum_ok h1 h2 h3 h4 hn hl ez ey (dy_joinSum_ok h1 h2 h3 h4 hn hl ez ey ⟨rfl, dz_R hA hB hZ hW ht hm hR⟩)
  · exact dx_joinSum_bad c (dy_joinSum_bad c ⟨rfl, dz_R hA hB hZ hW ht hm hR⟩)
theorem i_vc_distinct {k : Nat} {u : SX} {v : SY} (I : i_Rel k u v) (hk : k + 5 ≤ 2560) (v1 : Int32) (v2 : Int32) : wpX_distinct (fun r => wpY_distinct (fun r' => r' = r ∧ i_Rel (k + 5) u v) v v1 v2) u v1 v2 := by
  obtain ⟨fo, cx, cy, m, A, Z, B, W, RX, RY, rfl, rfl, hA, hB, hZ, hW, ht, hm, hR⟩ := I
  by_cases c : dz_v 3 v1 ∧ dz_v 3 v2
  · obtain ⟨⟨t, h1, rfl⟩, q, h2, rfl⟩ := c
    obtain ⟨n, hn, ez⟩ := hZ t
    exact dx_distinct_ok h1 h2 hn ez hA (dy_distinct_ok h1 h2 hn ez hA ⟨rfl, dz_R hA hB hZ hW ht hm hR⟩)
  · exact dx_distinct_bad c (dy_distinct_bad c ⟨rfl, dz_R hA hB hZ hW ht hm hR⟩)
theorem i_vc_kth {k : Nat} {u : SX} {v : SY} (I : i_Rel k u v) (hk : k + 5 ≤ 2560) (v1 : Int32) (v2 : Int32) (v3 : Int32) : wpX_kth (fun r => wpY_kth (fun r' => r' = r ∧ i_Rel (k + 5) u v) v v1 v2 v3) u v1 v2 v3 := by
  obtain ⟨fo, cx, cy, m, A, Z, B, W, RX, RY, rfl, rfl, hA, hB, hZ, hW, ht, hm, hR⟩ := I
  by_cases c : dz_v 3 v1 ∧ dz_v 3 v2
  · obtain ⟨⟨t, h1, rfl⟩, q, h2, rfl⟩ := c
    obtain ⟨n, hn, ez⟩ := hZ t
    exact dx_kth_ok h1 h2 hn ez hA (fun r1 s1 => dy_kth_ok h1 h2 hn ez hA (fun r2 s2 => ⟨dz_Ks_u hn s1 s2, dz_R hA hB hZ hW ht hm hR⟩))
  · exact dx_kth_bad c (dy_kth_bad c ⟨rfl, dz_R hA hB hZ hW ht hm hR⟩)
