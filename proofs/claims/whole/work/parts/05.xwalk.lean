/-! walks of both sides, small helpers: ranges, conditions, counts, room, moves, copies -/
def dz_v (N : Nat) (x : Int32) : Prop := ∃ j : Nat, j < N ∧ x = nI j
theorem dz_n_v {N : Nat} {x : Int32} (hN : N < 2 ^ 31) (h : ¬ dz_v N x) : x < 0 ∨ nI N ≤ x := by
  rcases pk_ix x hN with a | b | c
  · exact Or.inl a
  · exact Or.inr b
  · exact absurd c h
theorem dz_n30 : ¬ (3 : Int32) = 0 := by decide
theorem dz_n10 : ¬ (1 : Int32) = 0 := by decide
theorem dz_rX_t {post : Int32 → Prop} {N j : Nat} (h : j < N) (hN : N < 2 ^ 31) (hp : post 1) : ((nI j < 0 → (post 0)) ∧ (¬ nI j < 0 → (((nI N ≤ nI j → (post 0)) ∧ (¬ nI N ≤ nI j → (post 1)))))) :=
  br_f (nI_pos (by omega)) (br_f (nI_ge h hN) hp)
theorem dz_rX_f {post : Int32 → Prop} {N : Nat} {x : Int32} (hN : N < 2 ^ 31) (h : ¬ dz_v N x) (hp : post 0) : ((x < 0 → (post 0)) ∧ (¬ x < 0 → (((nI N ≤ x → (post 0)) ∧ (¬ nI N ≤ x → (post 1)))))) := by
  rcases dz_n_v hN h with a | b
  · exact br_t a hp
  · exact br_c (fun _ => hp) (fun _ => br_t b hp)
theorem dz_rY_t {post : Int32 → Prop} {M j : Nat} (h : j < M + 1) (hN : M < 2 ^ 30) (hp : post 1) : ((nI j < 0 → (post 0)) ∧ (¬ nI j < 0 → (((nI M < nI j → (post 0)) ∧ (¬ nI M < nI j → (post 1)))))) :=
  br_f (nI_pos (by omega)) (br_f (nI_nlt (by omega) (by omega)) hp)
theorem dz_rY_f {post : Int32 → Prop} {M : Nat} {x : Int32} (hN : M < 2 ^ 30) (h : ¬ dz_v (M + 1) x) (hp : post 0) : ((x < 0 → (post 0)) ∧ (¬ x < 0 → (((nI M < x → (post 0)) ∧ (¬ nI M < x → (post 1)))))) := by
  refine br_c (fun _ => hp) (fun h1 => br_c (fun _ => hp) (fun h2 => absurd ?_ h))
  obtain ⟨j, hj, e⟩ := nI_of h1
  rw [e, nI_ltI (by omega) hj] at h2
  exact ⟨j, by omega, e⟩
theorem dz_num_t {post : Int32 → Prop} {x : Int32} (h : dz_ok x) (hp : post 1) : ((x < (-99) → (post 0)) ∧ (¬ x < (-99) → (((99 < x → (post 0)) ∧ (¬ 99 < x → (post 1)))))) := by
  have h1 := h.1
  have h2 := h.2
  refine br_f ?_ (br_f ?_ hp)
  · rw [Int32.lt_iff_toInt_lt, dz_m99]; omega
  · rw [Int32.lt_iff_toInt_lt, dz_p99]; omega
theorem dz_num_f {post : Int32 → Prop} {x : Int32} (h : ¬ dz_ok x) (hp : post 0) : ((x < (-99) → (post 0)) ∧ (¬ x < (-99) → (((99 < x → (post 0)) ∧ (¬ 99 < x → (post 1)))))) :=
  br_c (fun _ => hp) (fun h1 => br_c (fun _ => hp) (fun h2 => absurd (dz_is_ok (Int32.not_lt.mp h1) (Int32.not_lt.mp h2)) h))
theorem dz_swX {post : Int32 → Prop} {op : Nat} {x v : Int32} (hop : op < 5) (h1 : dz_me op x v = true → post 1) (h0 : dz_me op x v = false → post 0) : ((nI op < 0 → post 1) ∧ (¬ nI op < 0 → ((3 < nI op → post 1) ∧ (¬ 3 < nI op → ((nI op = 0 → ((x = v → post 1) ∧ (¬ x = v → post 0))) ∧ (¬ nI op = 0 → ((nI op = 1 → ((v ≤ x → post 0) ∧ (¬ v ≤ x → post 1))) ∧ (¬ nI op = 1 → ((nI op = 2 → ((x ≤ v → post 0) ∧ (¬ x ≤ v → post 1))) ∧ (¬ nI op = 2 → ((nI op = 3 → ((x = v → post 0) ∧ (¬ x = v → post 1))) ∧ (¬ nI op = 3 → True)))))))))))) := by
  refine br_f (nI_pos (by omega)) ?_
  have hc : op = 0 ∨ op = 1 ∨ op = 2 ∨ op = 3 ∨ op = 4 := by omega
  rcases hc with rfl | rfl | rfl | rfl | rfl
  · exact br_f (by decide +kernel) (br_t (by decide +kernel) (br_c (fun h => h1 (dz_me0t h)) (fun h => h0 (dz_me0f h))))
  · exact br_f (by decide +kernel) (br_f (by decide +kernel) (br_t (by decide +kernel) (br_c (fun h => h0 (dz_me1f (Int32.not_lt.mpr h))) (fun h => h1 (dz_me1t (Int32.not_le.mp h))))))
  · exact br_f (by decide +kernel) (br_f (by decide +kernel) (br_f (by decide +kernel) (br_t (by decide +kernel) (br_c (fun h => h0 (dz_me2f (Int32.not_lt.mpr h))) (fun h => h1 (dz_me2t (Int32.not_le.mp h)))))))
  · exact br_f (by decide +kernel) (br_f (by decide +kernel) (br_f (by decide +kernel) (br_f (by decide +kernel) (br_t (by decide +kernel) (br_c (fun h => h0 (dz_me3f h)) (fun h => h1 (dz_me3t h)))))))
  · exact br_t (by decide +kernel) (h1 (dz_me4 (by omega)))
theorem dz_swY {post : Int32 → Prop} {op : Nat} {x v : Int32} (hop : op < 5) (h1 : dz_me op x v = true → post 1) (h0 : dz_me op x v = false → post 0) : ((nI op = 0 → ((x = v → post 1) ∧ (¬ x = v → post 0))) ∧ (¬ nI op = 0 → ((nI op = 1 → ((v ≤ x → post 0) ∧ (¬ v ≤ x → post 1))) ∧ (¬ nI op = 1 → ((nI op = 2 → ((x ≤ v → post 0) ∧ (¬ x ≤ v → post 1))) ∧ (¬ nI op = 2 → ((nI op = 3 → ((x = v → post 0) ∧ (¬ x = v → post 1))) ∧ (¬ nI op = 3 → post 1)))))))) := by
  have hc : op = 0 ∨ op = 1 ∨ op = 2 ∨ op = 3 ∨ op = 4 := by omega
  rcases hc with rfl | rfl | rfl | rfl | rfl
  · exact br_t (by decide +kernel) (br_c (fun h => h1 (dz_me0t h)) (fun h => h0 (dz_me0f h)))
  · exact br_f (by decide +kernel) (br_t (by decide +kernel) (br_c (fun h => h0 (dz_me1f (Int32.not_lt.mpr h))) (fun h => h1 (dz_me1t (Int32.not_le.mp h)))))
  · exact br_f (by decide +kernel) (br_f (by decide +kernel) (br_t (by decide +kernel) (br_c (fun h => h0 (dz_me2f (Int32.not_lt.mpr h))) (fun h => h1 (dz_me2t (Int32.not_le.mp h))))))
  · exact br_f (by decide +kernel) (br_f (by decide +kernel) (br_f (by decide +kernel) (br_t (by decide +kernel) (br_c (fun h => h0 (dz_me3f h)) (fun h => h1 (dz_me3t h))))))
  · exact br_f (by decide +kernel) (br_f (by decide +kernel) (br_f (by decide +kernel) (br_f (by decide +kernel) (h1 (dz_me4 (by omega))))))
theorem dz_rem3 {q : Nat} (h : q < 2 ^ 31) : nI q - nI q / 3 * 3 = nI (q % 3) := pk_rem (a := q) (d := 3) h (by omega) (by omega)
theorem dz_div3 {q : Nat} (h : q < 2 ^ 31) : nI q / 3 = nI (q / 3) := pk_div (a := q) (d := 3) h (by omega) (by omega)
section
variable {fo fc fr : Int32} {A Z B W R : Nat → Int32}
theorem dx_table_t {post : Int32 → Prop} {j : Nat} (h : j < 3) (hp : post 1) : wpX_isTable post (nI j) := dz_rX_t (N := 3) h (by omega) hp
theorem dx_table_f {post : Int32 → Prop} {x : Int32} (h : ¬ dz_v 3 x) (hp : post 0) : wpX_isTable post x := dz_rX_f (N := 3) (by omega) h hp
theorem dx_column_t {post : Int32 → Prop} {j : Nat} (h : j < 3) (hp : post 1) : wpX_isColumn post (nI j) := dz_rX_t (N := 3) h (by omega) hp
theorem dx_column_f {post : Int32 → Prop} {x : Int32} (h : ¬ dz_v 3 x) (hp : post 0) : wpX_isColumn post x := dz_rX_f (N := 3) (by omega) h hp
theorem dx_condition_t {post : Int32 → Prop} {j : Nat} (h : j < 15) (hp : post 1) : wpX_isCondition post (nI j) := dz_rX_t (N := 15) h (by omega) hp
theorem dx_condition_f {post : Int32 → Prop} {x : Int32} (h : ¬ dz_v 15 x) (hp : post 0) : wpX_isCondition post x := dz_rX_f (N := 15) (by omega) h hp
theorem dx_pair_t {post : Int32 → Prop} {j : Nat} (h : j < 9) (hp : post 1) : wpX_isColumnPair post (nI j) := dz_rX_t (N := 9) h (by omega) hp
theorem dx_pair_f {post : Int32 → Prop} {x : Int32} (h : ¬ dz_v 9 x) (hp : post 0) : wpX_isColumnPair post x := dz_rX_f (N := 9) (by omega) h hp
theorem dx_number_t {post : Int32 → Prop} {x : Int32} (h : dz_ok x) (hp : post 1) : wpX_isNumber post x := dz_num_t h hp
theorem dx_number_f {post : Int32 → Prop} {x : Int32} (h : ¬ dz_ok x) (hp : post 0) : wpX_isNumber post x := dz_num_f h hp
theorem dy_table_t {post : Int32 → Prop} {j : Nat} (h : j < 3) (hp : post 1) : wpY_table post (fo, fc, fr, Z, A, W, B, R) (nI j) := dz_rY_t (M := 2) h (by omega) hp
theorem dy_table_f {post : Int32 → Prop} {x : Int32} (h : ¬ dz_v 3 x) (hp : post 0) : wpY_table post (fo, fc, fr, Z, A, W, B, R) x := dz_rY_f (M := 2) (by omega) h hp
theorem dy_condition_t {post : Int32 → Prop} {j : Nat} (h : j < 15) (hp : post 1) : wpY_isCondition post (fo, fc, fr, Z, A, W, B, R) (nI j) := dz_rY_t (M := 14) h (by omega) hp
theorem dy_condition_f {post : Int32 → Prop} {x : Int32} (h : ¬ dz_v 15 x) (hp : post 0) : wpY_isCondition post (fo, fc, fr, Z, A, W, B, R) x := dz_rY_f (M := 14) (by omega) h hp
theorem dy_nine_t {post : Int32 → Prop} {j : Nat} (h : j < 9) (hp : post 1) : wpY_nine post (fo, fc, fr, Z, A, W, B, R) (nI j) := dz_rY_t (M := 8) h (by omega) hp
theorem dy_nine_f {post : Int32 → Prop} {x : Int32} (h : ¬ dz_v 9 x) (hp : post 0) : wpY_nine post (fo, fc, fr, Z, A, W, B, R) x := dz_rY_f (M := 8) (by omega) h hp
theorem dy_number_t {post : Int32 → Prop} {x : Int32} (h : dz_ok x) (hp : post 1) : wpY_number post (fo, fc, fr, Z, A, W, B, R) x := dz_num_t h hp
theorem dy_number_f {post : Int32 → Prop} {x : Int32} (h : ¬ dz_ok x) (hp : post 0) : wpY_number post (fo, fc, fr, Z, A, W, B, R) x := dz_num_f h hp
theorem dy_cell {post : Int32 → Prop} {t r c : Nat} (ht : t < 3) (hr : r < 24) (hc : c < 3) (h : post (A (72 * t + 3 * r + c))) : wpY_cell post (fo, fc, fr, Z, A, W, B, R) (nI t) (nI r) (nI c) := by
  unfold wpY_cell
  dsimp only
  rw [dz_ixY, nI_clamp (by omega)]
  exact ⟨vp_in_nI (by omega) (by omega), h⟩
theorem dy_put {post : SY → Prop} {t r c : Nat} {x : Int32} (ht : t < 3) (hr : r < 24) (hc : c < 3) (h : post (fo, fc, fr, Z, upd A (72 * t + 3 * r + c) x, W, B, R)) : wpY_put post (fo, fc, fr, Z, A, W, B, R) (nI t) (nI r) (nI c) x := by
  unfold wpY_put
  dsimp only
  rw [dz_ixY, nI_clamp (by omega)]
  exact ⟨vp_in_nI (by omega) (by omega), nm_e h⟩
theorem dx_meets {post : Int32 → Prop} {t r q : Nat} {v : Int32} (ht : t < 3) (hr : r < 24) (hq : q < 15) (h1 : dz_mt A t q v r = true → post 1) (h0 : dz_mt A t q v r = false → post 0) : wpX_meets post (fo, fc, fr, A, Z, B, W, R) (nI t) (nI r) (nI q) v := by
  unfold wpX_meets wpX_cellOf
  dsimp only
  rw [dz_rem3 (by omega), dz_div3 (by omega), dz_ixX, nI_clamp (by omega)]
  exact ⟨dz_n30, vp_in_nI (by omega) (by omega), nm_e ⟨dz_n30, nm_e (dz_swX (by omega) h1 h0)⟩⟩
theorem dy_meets {post : Int32 → Prop} {t r q : Nat} {v : Int32} (ht : t < 3) (hr : r < 24) (hq : q < 15) (h1 : dz_mt A t q v r = true → post 1) (h0 : dz_mt A t q v r = false → post 0) : wpY_meets post (fo, fc, fr, Z, A, W, B, R) (nI t) (nI r) (nI q) v := by
  unfold wpY_meets
  dsimp only
  rw [dz_rem3 (by omega), dz_div3 (by omega)]
  exact ⟨dz_n30, dy_cell ht hr (by omega) ⟨dz_n30, nm_e (dz_swY (by omega) h1 h0)⟩⟩
theorem dx_count_l {post : Int32 → Prop} {t q n : Nat} {v : Int32} (ht : t < 3) (hq : q < 15) (hn : n ≤ 24) (hz : Z t = nI n) (hp : post (nI (dz_cn (dz_mt A t q v) n))) : ∀ d r, r + d = n → wX_countMeeting_6 post (nI t) (nI q) v fo fc fr A Z B W R (d + 1) (nI (dz_cn (dz_mt A t q v) r)) (nI r) := by
  intro d
  induction d with
  | zero =>
    intro r hr
    have e : r = n := by omega
    subst e
    refine ⟨vp_in_nI ht (by omega), ?_⟩
    rw [nI_clamp (by omega), hz]
    exact br_t (nI_le (by omega) (by omega)) hp
  | succ d ih =>
    intro r hr
    refine ⟨vp_in_nI ht (by omega), ?_⟩
    rw [nI_clamp (by omega), hz]
    refine br_f (nI_ge (by omega) (by omega)) (dx_meets ht (by omega) hq (fun h => ?_) (fun h => ?_))
    · refine br_f dz_n10 (nm_r (nI_1 _) (nm_r (nI_1 _) ?_))
      rw [← dz_cn_t h]
      exact ih (r + 1) (by omega)
    · refine br_t rfl (nm_r (nI_1 _) ?_)
      rw [← dz_cn_f h]
      exact ih (r + 1) (by omega)
theorem dx_count {post : Int32 → Prop} {t q n : Nat} {v : Int32} (ht : t < 3) (hq : q < 15) (hn : n ≤ 24) (hz : Z t = nI n) (hp : post (nI (dz_cn (dz_mt A t q v) n))) : wpX_countMeeting post (fo, fc, fr, A, Z, B, W, R) (nI t) (nI q) v :=
  ⟨n + 1, dx_count_l ht hq hn hz hp n 0 (by omega)⟩
theorem dy_count_l {post : Int32 → Prop} {t q n : Nat} {v : Int32} (ht : t < 3) (hq : q < 15) (hn : n ≤ 24) (hz : Z t = nI n) (hp : post (nI (dz_cn (dz_mt A t q v) n))) : ∀ d r, r + d = n → wY_matching_6 post (nI t) (nI q) v fo fc fr Z A W B R (d + 1) (nI (dz_cn (dz_mt A t q v) r)) (nI r) := by
  intro d
  induction d with
  | zero =>
    intro r hr
    have e : r = n := by omega
    subst e
    refine ⟨vp_in_nI ht (by omega), ?_⟩
    rw [nI_clamp (by omega), hz]
    exact br_t (nI_le (by omega) (by omega)) hp
  | succ d ih =>
    intro r hr
    refine ⟨vp_in_nI ht (by omega), ?_⟩
    rw [nI_clamp (by omega), hz]
    refine br_f (nI_ge (by omega) (by omega)) (dy_meets ht (by omega) hq (fun h => ?_) (fun h => ?_))
    · refine br_f dz_n10 (nm_r (nI_1 _) (nm_r (nI_1 _) ?_))
      rw [← dz_cn_t h]
      exact ih (r + 1) (by omega)
    · refine br_t rfl (nm_r (nI_1 _) ?_)
      rw [← dz_cn_f h]
      exact ih (r + 1) (by omega)
theorem dy_count {post : Int32 → Prop} {t q n : Nat} {v : Int32} (ht : t < 3) (hq : q < 15) (hn : n ≤ 24) (hz : Z t = nI n) (hp : post (nI (dz_cn (dz_mt A t q v) n))) : wpY_matching post (fo, fc, fr, Z, A, W, B, R) (nI t) (nI q) v :=
  ⟨n + 1, dy_count_l ht hq hn hz hp n 0 (by omega)⟩
end
