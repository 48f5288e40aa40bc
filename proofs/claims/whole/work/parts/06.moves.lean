/-! room, moves, deletes, updates, copies -/
def dz_tr (fo cx cy : Int32) : Prop := (fo = 0 ∧ cx = 0) ∨ (fo = 1 ∧ ∃ c : Nat, c ≤ 30 ∧ cx = nI c ∧ cy = nI c)
def dz_Fit (fo cx cy cx' : Int32) (k : Nat) : Prop := (fo = 0 ∧ cx' = cx) ∨ (fo = 1 ∧ ¬ 30 < cx + nI k ∧ cy + nI k ≤ 30 ∧ cx' = cx + nI k)
def dz_Full (fo cx cy : Int32) (k : Nat) : Prop := fo = 1 ∧ 30 < cx + nI k ∧ ¬ cy + nI k ≤ 30
theorem dz_room {fo cx cy : Int32} (k : Nat) (h : dz_tr fo cx cy) (hk : k ≤ 24) : dz_Full fo cx cy k ∨ ∃ cx', dz_Fit fo cx cy cx' k ∧ dz_tr fo cx' (cy + nI k) := by
  rcases h with ⟨h0, h1⟩ | ⟨h0, c, hc, e1, e2⟩
  · exact Or.inr ⟨cx, Or.inl ⟨h0, rfl⟩, Or.inl ⟨h0, h1⟩⟩
  · by_cases l : c + k ≤ 30
    · refine Or.inr ⟨cx + nI k, Or.inr ⟨h0, ?_, ?_, rfl⟩, Or.inr ⟨h0, c + k, l, ?_, ?_⟩⟩
      · rw [e1, nI_add]; exact nI_nlt (a := 30) l (by omega)
      · rw [e2, nI_add]; exact nI_le (b := 30) l (by omega)
      · rw [e1, nI_add]
      · rw [e2, nI_add]
    · refine Or.inl ⟨h0, ?_, ?_⟩
      · rw [e1, nI_add]; exact nI_lt (a := 30) (by omega) (by omega)
      · rw [e2, nI_add]; exact nI_ge (a := 30) (by omega) (by omega)
theorem dz_sub99 (m : Nat) : nI m - 99 = dz_nv m := Int32.sub_eq_add_neg (nI m) 99
section
variable {fo fc fr : Int32} {A Z B W R : Nat → Int32}
theorem dx_cellOf {post : Int32 → Prop} {t r c : Nat} (h : post (nI (72 * t + 3 * r + c))) : wpX_cellOf post (nI t) (nI r) (nI c) := by
  unfold wpX_cellOf
  rw [dz_ixX]
  exact h
theorem dx_room_t {post : Int32 → Prop} {cy cx' : Int32} {k : Nat} (h : dz_Fit fo fc cy cx' k) (hp : post 1) : wpX_hasRoomFor post (fo, fc, fr, A, Z, B, W, R) (nI k) := by
  rcases h with ⟨h0, _⟩ | ⟨h0, h1, _, _⟩
  · exact br_t h0 hp
  · exact br_f (by rw [h0]; exact dz_n10) (br_f h1 hp)
theorem dx_room_f {post : Int32 → Prop} {cy : Int32} {k : Nat} (h : dz_Full fo fc cy k) (hp : post 0) : wpX_hasRoomFor post (fo, fc, fr, A, Z, B, W, R) (nI k) :=
  br_f (by rw [h.1]; exact dz_n10) (br_t h.2.1 hp)
theorem dy_room_t {post : Int32 → Prop} {cx cx' : Int32} {k : Nat} (h : dz_Fit fo cx fc cx' k) (hp : post 0) : wpY_tooMany post (fo, fc, fr, Z, A, W, B, R) (nI k) := by
  rcases h with ⟨h0, _⟩ | ⟨h0, _, h1, _⟩
  · exact br_t h0 hp
  · exact br_f (by rw [h0]; exact dz_n10) (br_t h1 hp)
theorem dy_room_f {post : Int32 → Prop} {cx : Int32} {k : Nat} (h : dz_Full fo cx fc k) (hp : post 1) : wpY_tooMany post (fo, fc, fr, Z, A, W, B, R) (nI k) :=
  br_f (by rw [h.1]; exact dz_n10) (br_f h.2.2 hp)
theorem dx_note {post : SX → Prop} {cy cx' : Int32} {k : Nat} (h : dz_Fit fo fc cy cx' k) (hp : post (fo, cx', fr, A, Z, B, W, R)) : wpX_noteChanges post (fo, fc, fr, A, Z, B, W, R) (nI k) := by
  rcases h with ⟨h0, e⟩ | ⟨h0, _, _, e⟩
  · rw [e] at hp; exact br_t h0 hp
  · rw [e] at hp; exact br_f (by rw [h0]; exact dz_n10) (nm_e hp)
theorem dx_mv_s {post : SX → Prop} {t r k c n : Nat} (ht : t < 3) (hr : r < 24) (hk : k < 24) (hc : c < 3) (h : wX_moveRow_3 post (nI t) (nI r) (nI k) fo fc fr n (nI (c + 1)) (dz_c1 A (72 * t + 3 * k + c) (72 * t + 3 * r + c)) Z B W R) : wX_moveRow_3 post (nI t) (nI r) (nI k) fo fc fr (n + 1) (nI c) A Z B W R := by
  refine br_f (nI_ge (b := 3) hc (by omega)) ?_
  refine dx_cellOf (dx_cellOf ?_)
  rw [nI_clamp (n := 72 * t + 3 * k + c) (by omega), nI_clamp (n := 72 * t + 3 * r + c) (by omega)]
  exact ⟨vp_in_nI (by omega) (by omega), vp_in_nI (by omega) (by omega), nm_e (nm_r (nI_1 c) h)⟩
theorem dx_moveRow {post : SX → Prop} {t r k : Nat} (ht : t < 3) (hr : r < 24) (hk : k < 24) (h : post (fo, fc, fr, dz_mv A (72 * t + 3 * k) (72 * t + 3 * r), Z, B, W, R)) : wpX_moveRow post (fo, fc, fr, A, Z, B, W, R) (nI t) (nI r) (nI k) :=
  ⟨4, dx_mv_s (c := 0) ht hr hk (by omega) (dx_mv_s (c := 1) ht hr hk (by omega) (dx_mv_s (c := 2) ht hr hk (by omega) (br_t (by decide +kernel) h)))⟩
theorem dx_keep_l {post : SX → Prop} {t q n : Nat} {v : Int32} (ht : t < 3) (hq : q < 15) (hn : n ≤ 24) (hz : Z t = nI n) (hp : post (fo, fc, fr, (dz_dl t q v A n).1, upd Z t (nI (dz_dl t q v A n).2), B, W, R)) : ∀ d r, r + d = n → wX_keepOthers_6 post (nI t) (nI q) v (d + 1) (nI (dz_dl t q v A r).2) (nI r) fo fc fr (dz_dl t q v A r).1 Z B W R := by
  intro d
  induction d with
  | zero =>
    intro r hr
    have e : r = n := by omega
    subst e
    refine ⟨vp_in_nI ht (by omega), ?_⟩
    rw [nI_clamp (by omega), hz]
    exact br_t (nI_le (by omega) (by omega)) ⟨vp_in_nI ht (by omega), nm_e hp⟩
  | succ d ih =>
    intro r hr
    have ih' := ih (r + 1) (by omega)
    refine ⟨vp_in_nI ht (by omega), ?_⟩
    rw [nI_clamp (by omega), hz]
    refine br_f (nI_ge (by omega) (by omega)) (dx_meets ht (by omega) hq (fun h => ?_) (fun h => ?_))
    · rw [dz_dl_t h] at ih'
      exact br_f dz_n10 (nm_r (nI_1 _) ih')
    · rw [dz_dl_f h] at ih'
      exact br_t rfl (dx_moveRow ht (by omega) (by have := dz_dl_le t q v A r; omega) (nm_r (nI_1 _) (nm_r (nI_1 _) ih')))
theorem dx_keep {post : SX → Prop} {t q n : Nat} {v : Int32} (ht : t < 3) (hq : q < 15) (hn : n ≤ 24) (hz : Z t = nI n) (hp : post (fo, fc, fr, (dz_dl t q v A n).1, upd Z t (nI (dz_dl t q v A n).2), B, W, R)) : wpX_keepOthers post (fo, fc, fr, A, Z, B, W, R) (nI t) (nI q) v :=
  ⟨n + 1, dx_keep_l ht hq hn hz hp n 0 (by omega)⟩
theorem dy_del_s {post : Int32 → SY → Prop} {J : Int32 → Int32 → Int32 → Int32 → Int32 → (Nat → Int32) → (Nat → Int32) → (Nat → Int32) → (Nat → Int32) → (Nat → Int32) → Prop} {x2 x3 x4 : Int32} {t r k c n : Nat} (ht : t < 3) (hr : r < 24) (hk : k < 24) (hc : c < 3) (h : wY_delete_74 post J (nI t) x2 x3 x4 (nI k) (nI r) n (nI (c + 1)) fo fc fr Z (dz_c1 A (72 * t + 3 * k + c) (72 * t + 3 * r + c)) W B R) : wY_delete_74 post J (nI t) x2 x3 x4 (nI k) (nI r) (n + 1) (nI c) fo fc fr Z A W B R :=
  br_f (nI_ge (b := 3) hc (by omega)) (dy_cell ht hr hc (dy_put ht hk hc (nm_r (nI_1 c) h)))
theorem dy_del_row {post : Int32 → SY → Prop} {J : Int32 → Int32 → Int32 → Int32 → Int32 → (Nat → Int32) → (Nat → Int32) → (Nat → Int32) → (Nat → Int32) → (Nat → Int32) → Prop} {x2 x3 x4 : Int32} {t r k : Nat} (ht : t < 3) (hr : r < 24) (hk : k < 24) (h : J (nI (k + 1)) (nI (r + 1)) fo fc fr Z (dz_mv A (72 * t + 3 * k) (72 * t + 3 * r)) W B R) : ∃ n, wY_delete_74 post J (nI t) x2 x3 x4 (nI k) (nI r) n 0 fo fc fr Z A W B R :=
  ⟨4, dy_del_s (c := 0) ht hr hk (by omega) (dy_del_s (c := 1) ht hr hk (by omega) (dy_del_s (c := 2) ht hr hk (by omega) (br_t (by decide +kernel) (nm_r (nI_1 _) (nm_r (nI_1 _) h)))))⟩
theorem dy_del_l {post : Int32 → SY → Prop} {x4 : Int32} {t q n : Nat} {v : Int32} (ht : t < 3) (hq : q < 15) (hn : n ≤ 24) (hz : Z t = nI n) (hp : post x4 (fo, fc + x4, fr, upd Z t (nI (dz_dl t q v A n).2), (dz_dl t q v A n).1, W, B, R)) : ∀ d r, r + d = n → wY_delete_48 post (nI t) (nI q) v x4 (d + 1) (nI (dz_dl t q v A r).2) (nI r) fo fc fr Z (dz_dl t q v A r).1 W B R := by
  intro d
  induction d with
  | zero =>
    intro r hr
    have e : r = n := by omega
    subst e
    refine ⟨vp_in_nI ht (by omega), ?_⟩
    rw [nI_clamp (by omega), hz]
    exact br_t (nI_le (by omega) (by omega)) ⟨vp_in_nI ht (by omega), nm_e (nm_e hp)⟩
  | succ d ih =>
    intro r hr
    have ih' := ih (r + 1) (by omega)
    refine ⟨vp_in_nI ht (by omega), ?_⟩
    rw [nI_clamp (by omega), hz]
    refine br_f (nI_ge (by omega) (by omega)) (dy_meets ht (by omega) hq (fun h => ?_) (fun h => ?_))
    · rw [dz_dl_t h] at ih'
      exact br_f dz_n10 (nm_r (nI_1 _) ih')
    · rw [dz_dl_f h] at ih'
      exact br_t rfl (dy_del_row ht (by omega) (by have := dz_dl_le t q v A r; omega) ih')
theorem dx_upd_l {post : Int32 → SX → Prop} {cy cx' x : Int32} {t q n c k : Nat} {v : Int32} (ht : t < 3) (hq : q < 15) (hc : c < 3) (hn : n ≤ 24) (hz : Z t = nI n) (hf : dz_Fit fo fc cy cx' k) (hp : post (nI k) (fo, cx', fr, dz_ud t q v c x A n, Z, B, W, R)) : ∀ d r, r + d = n → wX_update_71 post (nI t) (nI q) v (nI k) (nI c) x fo fc fr (d + 1) (nI r) (dz_ud t q v c x A r) Z B W R := by
  intro d
  induction d with
  | zero =>
    intro r hr
    have e : r = n := by omega
    subst e
    refine ⟨vp_in_nI ht (by omega), ?_⟩
    rw [nI_clamp (by omega), hz]
    exact br_t (nI_le (by omega) (by omega)) (dx_note hf hp)
  | succ d ih =>
    intro r hr
    have ih' := ih (r + 1) (by omega)
    refine ⟨vp_in_nI ht (by omega), ?_⟩
    rw [nI_clamp (by omega), hz]
    refine br_f (nI_ge (by omega) (by omega)) (dx_meets ht (by omega) hq (fun h => ?_) (fun h => ?_))
    · rw [dz_ud_t h] at ih'
      refine br_f dz_n10 (dx_cellOf ?_)
      rw [nI_clamp (n := 72 * t + 3 * r + c) (by omega)]
      exact ⟨vp_in_nI (by omega) (by omega), nm_e (nm_r (nI_1 r) ih')⟩
    · rw [dz_ud_f h] at ih'
      exact br_t rfl (nm_r (nI_1 _) ih')
theorem dy_upd_l {post : Int32 → SY → Prop} {x5 : Int32} {t q n s : Nat} {v : Int32} (ht : t < 3) (hq : q < 15) (hs : s < 597) (hn : n ≤ 24) (hz : Z t = nI n) (hp : post x5 (fo, fc + x5, fr, Z, dz_ud t q v (s % 3) (dz_nv (s / 3)) A n, W, B, R)) : ∀ d r, r + d = n → wY_update_58 post (nI t) (nI q) v (nI s) x5 (d + 1) (nI r) fo fc fr Z (dz_ud t q v (s % 3) (dz_nv (s / 3)) A r) W B R := by
  intro d
  induction d with
  | zero =>
    intro r hr
    have e : r = n := by omega
    subst e
    refine ⟨vp_in_nI ht (by omega), ?_⟩
    rw [nI_clamp (by omega), hz]
    exact br_t (nI_le (by omega) (by omega)) (nm_e hp)
  | succ d ih =>
    intro r hr
    have ih' := ih (r + 1) (by omega)
    refine ⟨vp_in_nI ht (by omega), ?_⟩
    rw [nI_clamp (by omega), hz]
    refine br_f (nI_ge (by omega) (by omega)) (dy_meets ht (by omega) hq (fun h => ?_) (fun h => ?_))
    · rw [dz_ud_t h] at ih'
      refine br_f dz_n10 ⟨dz_n30, dz_n30, ?_⟩
      rw [dz_rem3 (by omega), dz_div3 (by omega), dz_sub99]
      exact dy_put ht (by omega) (by omega) (nm_r (nI_1 r) ih')
    · rw [dz_ud_f h] at ih'
      exact br_t rfl (nm_r (nI_1 _) ih')
theorem dx_cp_cells_savedCells {post : SX → Prop} (hp : post (fo, fc, fr, A, Z, dz_cp A B 216, W, R)) : wpX_copy__cells_savedCells post (fo, fc, fr, A, Z, B, W, R) 216 := by
  have key : ∀ d i, i + d = 216 → wX_copy__cells_savedCells_2 post (nI 216) fo fc fr (d + 1) (nI i) A Z (dz_cp A B i) W R := by
    intro d
    induction d with
    | zero =>
      intro i hi
      have e : i = 216 := by omega
      subst e
      exact br_t (nI_le (by omega) (by omega)) hp
    | succ d ih =>
      intro i hi
      refine br_f (nI_ge (by omega) (by omega)) ⟨vp_in_nI (by omega) (by omega), vp_in_nI (by omega) (by omega), ?_⟩
      rw [nI_clamp (by omega)]
      exact nm_r (dz_cp_s A B i) (nm_r (nI_1 i) (ih (i + 1) (by omega)))
  have k0 := key 216 0 (by omega)
  rw [dz_cp_0] at k0
  exact ⟨216 + 1, k0⟩
theorem dx_cp_sizes_savedSizes {post : SX → Prop} (hp : post (fo, fc, fr, A, Z, B, dz_cp Z W 3, R)) : wpX_copy__sizes_savedSizes post (fo, fc, fr, A, Z, B, W, R) 3 := by
  have key : ∀ d i, i + d = 3 → wX_copy__sizes_savedSizes_2 post (nI 3) fo fc fr (d + 1) (nI i) A Z B (dz_cp Z W i) R := by
    intro d
    induction d with
    | zero =>
      intro i hi
      have e : i = 3 := by omega
      subst e
      exact br_t (nI_le (by omega) (by omega)) hp
    | succ d ih =>
      intro i hi
      refine br_f (nI_ge (by omega) (by omega)) ⟨vp_in_nI (by omega) (by omega), vp_in_nI (by omega) (by omega), ?_⟩
      rw [nI_clamp (by omega)]
      exact nm_r (dz_cp_s Z W i) (nm_r (nI_1 i) (ih (i + 1) (by omega)))
  have k0 := key 3 0 (by omega)
  rw [dz_cp_0] at k0
  exact ⟨3 + 1, k0⟩
theorem dx_cp_savedCells_cells {post : SX → Prop} (hp : post (fo, fc, fr, dz_cp B A 216, Z, B, W, R)) : wpX_copy__savedCells_cells post (fo, fc, fr, A, Z, B, W, R) 216 := by
  have key : ∀ d i, i + d = 216 → wX_copy__savedCells_cells_2 post (nI 216) fo fc fr (d + 1) (nI i) (dz_cp B A i) Z B W R := by
    intro d
    induction d with
    | zero =>
      intro i hi
      have e : i = 216 := by omega
      subst e
      exact br_t (nI_le (by omega) (by omega)) hp
    | succ d ih =>
      intro i hi
      refine br_f (nI_ge (by omega) (by omega)) ⟨vp_in_nI (by omega) (by omega), vp_in_nI (by omega) (by omega), ?_⟩
      rw [nI_clamp (by omega)]
      exact nm_r (dz_cp_s B A i) (nm_r (nI_1 i) (ih (i + 1) (by omega)))
  have k0 := key 216 0 (by omega)
  rw [dz_cp_0] at k0
  exact ⟨216 + 1, k0⟩
theorem dx_cp_savedSizes_sizes {post : SX → Prop} (hp : post (fo, fc, fr, A, dz_cp W Z 3, B, W, R)) : wpX_copy__savedSizes_sizes post (fo, fc, fr, A, Z, B, W, R) 3 := by
  have key : ∀ d i, i + d = 3 → wX_copy__savedSizes_sizes_2 post (nI 3) fo fc fr (d + 1) (nI i) A (dz_cp W Z i) B W R := by
    intro d
    induction d with
    | zero =>
      intro i hi
      have e : i = 3 := by omega
      subst e
      exact br_t (nI_le (by omega) (by omega)) hp
    | succ d ih =>
      intro i hi
      refine br_f (nI_ge (by omega) (by omega)) ⟨vp_in_nI (by omega) (by omega), vp_in_nI (by omega) (by omega), ?_⟩
      rw [nI_clamp (by omega)]
      exact nm_r (dz_cp_s W Z i) (nm_r (nI_1 i) (ih (i + 1) (by omega)))
  have k0 := key 3 0 (by omega)
  rw [dz_cp_0] at k0
  exact ⟨3 + 1, k0⟩
theorem dy_begin_46 {post : Int32 → SY → Prop} (hp : post 1 (fo, fc, fr, Z, A, W, dz_cp A B 216, R)) : ∃ m, wY_begin_46 post fo fc fr m 0 Z A W B R := by
  have key : ∀ d i, i + d = 216 → wY_begin_46 post fo fc fr (d + 1) (nI i) Z A W (dz_cp A B i) R := by
    intro d
    induction d with
    | zero =>
      intro i hi
      have e : i = 216 := by omega
      subst e
      exact br_t (nI_le (a := 216) (b := 216) (by omega) (by omega)) hp
    | succ d ih =>
      intro i hi
      refine br_f (nI_ge (b := 216) (by omega) (by omega)) ⟨vp_in_nI (by omega) (by omega), vp_in_nI (by omega) (by omega), ?_⟩
      rw [nI_clamp (by omega)]
      exact nm_r (dz_cp_s A B i) (nm_r (nI_1 i) (ih (i + 1) (by omega)))
  have k0 := key 216 0 (by omega)
  rw [dz_cp_0] at k0
  exact ⟨216 + 1, k0⟩
theorem dy_begin_21 {post : Int32 → SY → Prop} (hp : ∃ m, wY_begin_46 post fo fc fr m 0 Z A (dz_cp Z W 3) B R) : ∃ m, wY_begin_21 post fo fc fr m 0 Z A W B R := by
  have key : ∀ d i, i + d = 3 → wY_begin_21 post fo fc fr (d + 1) (nI i) Z A (dz_cp Z W i) B R := by
    intro d
    induction d with
    | zero =>
      intro i hi
      have e : i = 3 := by omega
      subst e
      exact br_t (nI_le (a := 3) (b := 3) (by omega) (by omega)) hp
    | succ d ih =>
      intro i hi
      refine br_f (nI_ge (b := 3) (by omega) (by omega)) ⟨vp_in_nI (by omega) (by omega), vp_in_nI (by omega) (by omega), ?_⟩
      rw [nI_clamp (by omega)]
      exact nm_r (dz_cp_s Z W i) (nm_r (nI_1 i) (ih (i + 1) (by omega)))
  have k0 := key 3 0 (by omega)
  rw [dz_cp_0] at k0
  exact ⟨3 + 1, k0⟩
theorem dy_rollback_43 {post : Int32 → SY → Prop} (hp : post fc (fo, fc, fr, Z, dz_cp B A 216, W, B, R)) : ∃ m, wY_rollback_43 post fo fc fr m 0 Z A W B R := by
  have key : ∀ d i, i + d = 216 → wY_rollback_43 post fo fc fr (d + 1) (nI i) Z (dz_cp B A i) W B R := by
    intro d
    induction d with
    | zero =>
      intro i hi
      have e : i = 216 := by omega
      subst e
      exact br_t (nI_le (a := 216) (b := 216) (by omega) (by omega)) hp
    | succ d ih =>
      intro i hi
      refine br_f (nI_ge (b := 216) (by omega) (by omega)) ⟨vp_in_nI (by omega) (by omega), vp_in_nI (by omega) (by omega), ?_⟩
      rw [nI_clamp (by omega)]
      exact nm_r (dz_cp_s B A i) (nm_r (nI_1 i) (ih (i + 1) (by omega)))
  have k0 := key 216 0 (by omega)
  rw [dz_cp_0] at k0
  exact ⟨216 + 1, k0⟩
theorem dy_rollback_18 {post : Int32 → SY → Prop} (hp : ∃ m, wY_rollback_43 post fo fc fr m 0 (dz_cp W Z 3) A W B R) : ∃ m, wY_rollback_18 post fo fc fr m 0 Z A W B R := by
  have key : ∀ d i, i + d = 3 → wY_rollback_18 post fo fc fr (d + 1) (nI i) (dz_cp W Z i) A W B R := by
    intro d
    induction d with
    | zero =>
      intro i hi
      have e : i = 3 := by omega
      subst e
      exact br_t (nI_le (a := 3) (b := 3) (by omega) (by omega)) hp
    | succ d ih =>
      intro i hi
      refine br_f (nI_ge (b := 3) (by omega) (by omega)) ⟨vp_in_nI (by omega) (by omega), vp_in_nI (by omega) (by omega), ?_⟩
      rw [nI_clamp (by omega)]
      exact nm_r (dz_cp_s W Z i) (nm_r (nI_1 i) (ih (i + 1) (by omega)))
  have k0 := key 3 0 (by omega)
  rw [dz_cp_0] at k0
  exact ⟨3 + 1, k0⟩
end
