/-! the two selects -/
theorem dz_dec {post : Int32 → Prop} {x y : Int32} {P : Prop} (iff : x < y ↔ P) (h1 : P → post 1) (h0 : ¬ P → post 0) : ((y ≤ x → post 0) ∧ (¬ y ≤ x → post 1)) :=
  br_c (fun h => h0 (fun p => Int32.not_lt.mpr h (iff.mpr p))) (fun h => h1 (iff.mp (Int32.not_le.mp h)))
theorem dz_i3 (i : Nat) : nI i * 3 = nI (3 * i) := by
  rw [dz_l3, pk_mul]
  exact congrArg nI (by omega)
section
variable {fo fc fr : Int32} {A Z B W R : Nat → Int32}
theorem dx_cb_s {post : Int32 → Prop} {F i c n : Nat} (hF : F + 3 ≤ 216) (hi : i < 24) (hc : c < 3) (he : A (F + c) = R (3 * i + c) → wX_comesBefore_54 post (nI F) (nI (3 * i)) fo fc fr A Z B W R n (nI (c + 1))) (hne : ¬ A (F + c) = R (3 * i + c) → ((R (3 * i + c) ≤ A (F + c) → post 0) ∧ (¬ R (3 * i + c) ≤ A (F + c) → post 1))) : wX_comesBefore_54 post (nI F) (nI (3 * i)) fo fc fr A Z B W R (n + 1) (nI c) := by
  refine br_f (nI_ge (b := 3) hc (by omega)) ?_
  rw [nI_add F c, nI_add (3 * i) c, nI_clamp (n := F + c) (by omega), nI_clamp (n := 3 * i + c) (by omega)]
  exact ⟨vp_in_nI (by omega) (by omega), vp_in_nI (by omega) (by omega), br_c (fun h => nm_r (nI_1 c) (he h)) (fun h => ⟨vp_in_nI (by omega) (by omega), vp_in_nI (by omega) (by omega), hne h⟩)⟩
theorem dx_comes {post : Int32 → Prop} {F i o : Nat} (hF : F + 3 ≤ 216) (hi : i < 24) (ho : o < 3) (ha : dz_O3 (fun c => A (F + c))) (hb : dz_O3 (fun c => R (3 * i + c))) (h1 : dz_K (fun c => A (F + c)) o < dz_ky R o i → post 1) (h0 : ¬ dz_K (fun c => A (F + c)) o < dz_ky R o i → post 0) : wpX_comesBefore post (fo, fc, fr, A, Z, B, W, R) (nI F) (nI i) (nI o) := by
  unfold wpX_comesBefore
  dsimp only
  refine nm_r (dz_i3 i) ?_
  rw [nI_add F o, nI_add (3 * i) o, nI_clamp (n := F + o) (by omega), nI_clamp (n := 3 * i + o) (by omega)]
  refine ⟨vp_in_nI (by omega) (by omega), vp_in_nI (by omega) (by omega), br_c (fun e => ⟨4, ?_⟩) (fun e => ⟨vp_in_nI (by omega) (by omega), vp_in_nI (by omega) (by omega), dz_dec (dz_K_o ha hb ho e) h1 h0⟩)⟩
  exact dx_cb_s (c := 0) hF hi (by omega) (fun e0 => dx_cb_s (c := 1) hF hi (by omega) (fun e1 => dx_cb_s (c := 2) hF hi (by omega) (fun e2 => br_t (by decide +kernel) (h0 (dz_K_e e e0 e1 e2))) (fun n2 => dz_dec (dz_K_2 ha hb e e0 e1) h1 h0)) (fun n1 => dz_dec (dz_K_1 ha hb e e0 n1) h1 h0)) (fun n0 => dz_dec (dz_K_0 ha hb e n0) h1 h0)
theorem dx_sh_s {post : SX → Prop} {i c n : Nat} (hi : i + 1 < 24) (hc : c < 3) (h : wX_shiftResultRow_2 post (nI i) fo fc fr n (nI (c + 1)) A Z B W (dz_c1 R (3 * (i + 1) + c) (3 * i + c))) : wX_shiftResultRow_2 post (nI i) fo fc fr (n + 1) (nI c) A Z B W R := by
  refine br_f (nI_ge (b := 3) hc (by omega)) ?_
  rw [nI_1 i, dz_ixR i c, dz_ixR (i + 1) c, nI_clamp (n := 3 * i + c) (by omega), nI_clamp (n := 3 * (i + 1) + c) (by omega)]
  exact ⟨vp_in_nI (by omega) (by omega), vp_in_nI (by omega) (by omega), nm_e (nm_r (nI_1 c) h)⟩
theorem dx_shift {post : SX → Prop} {i : Nat} (hi : i + 1 < 24) (h : post (fo, fc, fr, A, Z, B, W, dz_mv R (3 * (i + 1)) (3 * i))) : wpX_shiftResultRow post (fo, fc, fr, A, Z, B, W, R) (nI i) :=
  ⟨4, dx_sh_s (c := 0) hi (by omega) (dx_sh_s (c := 1) hi (by omega) (dx_sh_s (c := 2) hi (by omega) (br_t (by decide +kernel) h)))⟩
theorem dx_add_s {post : SX → Prop} {F p c n : Nat} (hF : F + 3 ≤ 216) (hp : p < 24) (hc : c < 3) (h : wX_addToResult_50 post (nI F) (nI p) fo fc fr n (nI (c + 1)) A Z B W (upd R (3 * p + c) (A (F + c)))) : wX_addToResult_50 post (nI F) (nI p) fo fc fr (n + 1) (nI c) A Z B W R := by
  refine br_f (nI_ge (b := 3) hc (by omega)) ?_
  rw [nI_add F c, dz_ixR p c, nI_clamp (n := F + c) (by omega), nI_clamp (n := 3 * p + c) (by omega)]
  exact ⟨vp_in_nI (by omega) (by omega), vp_in_nI (by omega) (by omega), nm_e (nm_r (nI_1 c) h)⟩
theorem dx_add_end {post : SX → Prop} {F p m : Nat} (hF : F + 3 ≤ 216) (hp : p < 24) (h : post (fo, fc, nI (m + 1), A, Z, B, W, dz_w3 R (3 * p) (A F) (A (F + 1)) (A (F + 2)))) : ∃ n, wX_addToResult_50 post (nI F) (nI p) fo fc (nI m) n 0 A Z B W R :=
  ⟨4, dx_add_s (c := 0) hF hp (by omega) (dx_add_s (c := 1) hF hp (by omega) (dx_add_s (c := 2) hF hp (by omega) (br_t (by decide +kernel) (nm_r (nI_1 m) h))))⟩
theorem dx_add_l {post : SX → Prop} {F o m : Nat} {T : Nat → Nat} {R0 : Nat → Int32} (hF : F + 3 ≤ 216) (ho : o < 3) (hm : m < 24) (ha : dz_O3 (fun c => A (F + c))) (hQ : dz_Q R0 o m T) (hs : dz_Srt (dz_ky R0 o) m) (hp : ∀ R', dz_Q R' o (m + 1) (fun x => T x + (if dz_K (fun c => A (F + c)) o < x then 1 else 0)) → dz_Srt (dz_ky R' o) (m + 1) → post (fo, fc, nI (m + 1), A, Z, B, W, R')) : ∀ p R1, dz_Wh R0 R1 o m p (dz_K (fun c => A (F + c)) o) → wX_addToResult_14 post (nI o) (nI F) (p + 1) (nI p) fo fc (nI m) A Z B W R1 := by
  intro p
  induction p with
  | zero =>
    intro R1 hW
    have e := dz_Wh_end ho hQ hs ha hW (fun i hi => absurd hi (by omega))
    exact br_t (by decide +kernel) (dx_add_end hF (by omega) (hp _ e.1 e.2))
  | succ p ih =>
    intro R1 hW
    have hpm := hW.1
    have hb : dz_O3 (fun c => R1 (3 * p + c)) := by
      intro c hc
      show dz_ok (R1 (3 * p + c))
      rw [hW.2.1 (3 * p + c) (by omega)]
      exact hQ.2 _ (by omega)
    refine br_f (nI_nle (by omega) (by omega)) ?_
    rw [nI_pred p]
    refine dx_comes hF (by omega) ho ha hb (fun h => ?_) (fun h => ?_)
    · exact br_f dz_n10 (dx_shift (by omega) (nm_r (pk_m1 p) (ih _ (dz_Wh_s ho hW h))))
    · have e := dz_Wh_end ho hQ hs ha hW (fun i hi => by
        have e2 : i = p := by omega
        rw [e2]; exact h)
      exact br_t rfl (dx_add_end hF (by omega) (hp _ e.1 e.2))
theorem dx_add {post : SX → Prop} {t r o m : Nat} {T : Nat → Nat} (ht : t < 3) (hr : r < 24) (ho : o < 3) (hm : m < 24) (hA : ∀ j, dz_ok (A j)) (hQ : dz_Q R o m T) (hs : dz_Srt (dz_ky R o) m) (hp : ∀ R', dz_Q R' o (m + 1) (fun x => T x + (if dz_K (fun c => A (72 * t + 3 * r + c)) o < x then 1 else 0)) → dz_Srt (dz_ky R' o) (m + 1) → post (fo, fc, nI (m + 1), A, Z, B, W, R')) : wpX_addToResult post (fo, fc, nI m, A, Z, B, W, R) (nI t) (nI r) (nI o) := by
  unfold wpX_addToResult
  dsimp only
  refine dx_cellOf (c := 0) ⟨m + 1, ?_⟩
  exact dx_add_l (F := 72 * t + 3 * r) (by omega) ho hm (fun c _ => hA _) hQ hs hp m R (dz_Wh_0 R o m _)
theorem dx_sel_l {post : Int32 → SX → Prop} {t q o n : Nat} {v : Int32} (ht : t < 3) (hq : q < 15) (ho : o < 3) (hn : n ≤ 24) (hz : Z t = nI n) (hA : ∀ j, dz_ok (A j)) (hp : ∀ R', dz_Q R' o (dz_cn (dz_mt A t q v) n) (dz_cb A t q v o n) → dz_Srt (dz_ky R' o) (dz_cn (dz_mt A t q v) n) → post (nI (dz_cn (dz_mt A t q v) n)) (fo, fc, nI (dz_cn (dz_mt A t q v) n), A, Z, B, W, R')) : ∀ d r R1, r + d = n → dz_Q R1 o (dz_cn (dz_mt A t q v) r) (dz_cb A t q v o r) → dz_Srt (dz_ky R1 o) (dz_cn (dz_mt A t q v) r) → wX_select_34 post (nI t) (nI q) v (nI o) (d + 1) (nI r) fo fc (nI (dz_cn (dz_mt A t q v) r)) A Z B W R1 := by
  intro d
  induction d with
  | zero =>
    intro r R1 hr hQ hS
    have e : r = n := by omega
    subst e
    refine ⟨vp_in_nI ht (by omega), ?_⟩
    rw [nI_clamp (by omega), hz]
    exact br_t (nI_le (by omega) (by omega)) (hp R1 hQ hS)
  | succ d ih =>
    intro r R1 hr hQ hS
    refine ⟨vp_in_nI ht (by omega), ?_⟩
    rw [nI_clamp (by omega), hz]
    refine br_f (nI_ge (by omega) (by omega)) (dx_meets ht (by omega) hq (fun h => ?_) (fun h => ?_))
    · refine br_f dz_n10 (dx_add ht (by omega) ho (by have := dz_cn_le (dz_mt A t q v) r; omega) hA hQ hS (fun R' q' s' => nm_r (nI_1 r) ?_))
      have ih' := ih (r + 1) R' (by omega)
      rw [dz_cn_t h] at ih'
      exact ih' (dz_Q_T q' (dz_cb_t h)) s'
    · have ih' := ih (r + 1) R1 (by omega)
      rw [dz_cn_f h] at ih'
      exact br_t rfl (nm_r (nI_1 r) (ih' (dz_Q_T hQ (dz_cb_f h)) hS))
theorem dy_bf_s {post : Int32 → Prop} {i j c n : Nat} (hi : i < 24) (hj : j < 24) (hc : c < 3) (he : R (3 * j + c) = R (3 * i + c) → wY_before_55 post (nI j) (nI i) fo fc fr Z A W B R n (nI (c + 1))) (hne : ¬ R (3 * j + c) = R (3 * i + c) → ((R (3 * i + c) ≤ R (3 * j + c) → post 0) ∧ (¬ R (3 * i + c) ≤ R (3 * j + c) → post 1))) : wY_before_55 post (nI j) (nI i) fo fc fr Z A W B R (n + 1) (nI c) := by
  refine br_f (nI_ge (b := 3) hc (by omega)) ?_
  rw [dz_ixS j c, dz_ixS i c, nI_clamp (n := 3 * j + c) (by omega), nI_clamp (n := 3 * i + c) (by omega)]
  exact ⟨vp_in_nI (by omega) (by omega), vp_in_nI (by omega) (by omega), br_c (fun h => nm_r (nI_1 c) (he h)) (fun h => ⟨vp_in_nI (by omega) (by omega), vp_in_nI (by omega) (by omega), hne h⟩)⟩
theorem dy_before {post : Int32 → Prop} {i j o : Nat} (hi : i < 24) (hj : j < 24) (ho : o < 3) (ha : dz_O3 (fun c => R (3 * j + c))) (hb : dz_O3 (fun c => R (3 * i + c))) (h1 : dz_ky R o j < dz_ky R o i → post 1) (h0 : ¬ dz_ky R o j < dz_ky R o i → post 0) : wpY_before post (fo, fc, fr, Z, A, W, B, R) (nI j) (nI i) (nI o) := by
  unfold wpY_before
  dsimp only
  rw [dz_ixS j o, dz_ixS i o, nI_clamp (n := 3 * j + o) (by omega), nI_clamp (n := 3 * i + o) (by omega)]
  refine ⟨vp_in_nI (by omega) (by omega), vp_in_nI (by omega) (by omega), br_c (fun e => ⟨4, ?_⟩) (fun e => ⟨vp_in_nI (by omega) (by omega), vp_in_nI (by omega) (by omega), dz_dec (dz_K_o ha hb ho e) h1 h0⟩)⟩
  exact dy_bf_s (c := 0) hi hj (by omega) (fun e0 => dy_bf_s (c := 1) hi hj (by omega) (fun e1 => dy_bf_s (c := 2) hi hj (by omega) (fun e2 => br_t (by decide +kernel) (h0 (dz_K_e e e0 e1 e2))) (fun n2 => dz_dec (dz_K_2 ha hb e e0 e1) h1 h0)) (fun n1 => dz_dec (dz_K_1 ha hb e e0 n1) h1 h0)) (fun n0 => dz_dec (dz_K_0 ha hb e n0) h1 h0)
theorem dy_ex_s {post : SY → Prop} {i j c n : Nat} (hi : i < 24) (hj : j < 24) (hc : c < 3) (h : wY_exchange_2 post (nI i) (nI j) fo fc fr n (nI (c + 1)) Z A W B (dz_x1 R (3 * i + c) (3 * j + c))) : wY_exchange_2 post (nI i) (nI j) fo fc fr (n + 1) (nI c) Z A W B R := by
  refine br_f (nI_ge (b := 3) hc (by omega)) ?_
  rw [dz_ixS i c, dz_ixS j c, nI_clamp (n := 3 * i + c) (by omega), nI_clamp (n := 3 * j + c) (by omega)]
  exact ⟨vp_in_nI (by omega) (by omega), nm_e ⟨vp_in_nI (by omega) (by omega), vp_in_nI (by omega) (by omega), nm_e ⟨vp_in_nI (by omega) (by omega), nm_e (nm_r (nI_1 c) h)⟩⟩⟩
theorem dy_exchange {post : SY → Prop} {i j : Nat} (hi : i < 24) (hj : j < 24) (h : post (fo, fc, fr, Z, A, W, B, dz_x3 R i j)) : wpY_exchange post (fo, fc, fr, Z, A, W, B, R) (nI i) (nI j) :=
  ⟨4, dy_ex_s (c := 0) hi hj (by omega) (dy_ex_s (c := 1) hi hj (by omega) (dy_ex_s (c := 2) hi hj (by omega) (br_t (by decide +kernel) h)))⟩
theorem dy_s132 {post : Int32 → SY → Prop} {J : Int32 → Int32 → Int32 → Int32 → (Nat → Int32) → (Nat → Int32) → (Nat → Int32) → (Nat → Int32) → (Nat → Int32) → Prop} {o i n : Nat} {T : Nat → Nat} (ho : o < 3) (hn : n ≤ 24) (hi : i < n) (hp : ∀ R', dz_Q R' o n T → dz_Pre (dz_ky R' o) n (i + 1) → J (nI (i + 1)) fo fc (nI n) Z A W B R') : ∀ d j R1, j + d = n → i < j → dz_Q R1 o n T → dz_Pre (dz_ky R1 o) n i → dz_Row (dz_ky R1 o) i j → wY_select_132 post J (nI o) (nI i) (d + 1) (nI j) fo fc (nI n) Z A W B R1 := by
  intro d
  induction d with
  | zero =>
    intro j R1 hj hij hQ hP hR
    have e : j = n := by omega
    subst e
    exact br_t (nI_le (by omega) (by omega)) (nm_r (nI_1 i) (hp R1 hQ (dz_pre_s hP hR)))
  | succ d ih =>
    intro j R1 hj hij hQ hP hR
    refine br_f (nI_ge (by omega) (by omega)) (dy_before (by omega) (by omega) ho (dz_Q_O3 hQ (by omega)) (dz_Q_O3 hQ hi) (fun h => ?_) (fun h => ?_))
    · have hx := dz_ex_s ho hQ hP hR hij (by omega) h
      exact br_f dz_n10 (dy_exchange (by omega) (by omega) (nm_r (nI_1 j) (ih (j + 1) _ (by omega) (by omega) hx.1 hx.2.1 hx.2.2)))
    · exact br_t rfl (nm_r (nI_1 j) (ih (j + 1) R1 (by omega) (by omega) hQ hP (dz_no_row hR h)))
theorem dy_s117 {post : Int32 → SY → Prop} {o n : Nat} {T : Nat → Nat} (ho : o < 3) (hn : n ≤ 24) (hp : ∀ R', dz_Q R' o n T → dz_Srt (dz_ky R' o) n → post (nI n) (fo, fc, nI n, Z, A, W, B, R')) : ∀ d i R1, i + d = n → dz_Q R1 o n T → dz_Pre (dz_ky R1 o) n i → wY_select_117 post (nI o) (d + 1) (nI i) fo fc (nI n) Z A W B R1 := by
  intro d
  induction d with
  | zero =>
    intro i R1 hi hQ hP
    have e : i = n := by omega
    subst e
    exact br_t (nI_le (by omega) (by omega)) (hp R1 hQ (dz_pre_srt hP))
  | succ d ih =>
    intro i R1 hi hQ hP
    exact br_f (nI_ge (by omega) (by omega)) (nm_r (nI_1 i) ⟨n - (i + 1) + 1, dy_s132 ho hn (by omega) (fun R' q p => ih (i + 1) R' (by omega) q p) (n - (i + 1)) (i + 1) R1 (by omega) (by omega) hQ hP (fun b h1 h2 => absurd h1 (by omega))⟩)
theorem dy_s63_s {post : Int32 → SY → Prop} {J : Int32 → Int32 → (Nat → Int32) → (Nat → Int32) → (Nat → Int32) → (Nat → Int32) → (Nat → Int32) → Prop} {x2 x3 x4 : Int32} {t r m c n : Nat} (ht : t < 3) (hr : r < 24) (hm : m < 24) (hc : c < 3) (h : wY_select_63 post J (nI t) x2 x3 x4 (nI r) fo fc (nI m) n (nI (c + 1)) Z A W B (upd R (3 * m + c) (A (72 * t + 3 * r + c)))) : wY_select_63 post J (nI t) x2 x3 x4 (nI r) fo fc (nI m) (n + 1) (nI c) Z A W B R := by
  refine br_f (nI_ge (b := 3) hc (by omega)) (dy_cell ht hr hc ?_)
  rw [dz_ixS m c, nI_clamp (n := 3 * m + c) (by omega)]
  exact ⟨vp_in_nI (by omega) (by omega), nm_e (nm_r (nI_1 c) h)⟩
theorem dy_s63 {post : Int32 → SY → Prop} {J : Int32 → Int32 → (Nat → Int32) → (Nat → Int32) → (Nat → Int32) → (Nat → Int32) → (Nat → Int32) → Prop} {x2 x3 x4 : Int32} {t r m : Nat} (ht : t < 3) (hr : r < 24) (hm : m < 24) (h : J (nI (r + 1)) (nI (m + 1)) Z A W B (dz_w3 R (3 * m) (A (72 * t + 3 * r)) (A (72 * t + 3 * r + 1)) (A (72 * t + 3 * r + 2)))) : ∃ n, wY_select_63 post J (nI t) x2 x3 x4 (nI r) fo fc (nI m) n 0 Z A W B R :=
  ⟨4, dy_s63_s (c := 0) ht hr hm (by omega) (dy_s63_s (c := 1) ht hr hm (by omega) (dy_s63_s (c := 2) ht hr hm (by omega) (br_t (by decide +kernel) (nm_r (nI_1 m) (nm_r (nI_1 r) h)))))⟩
theorem dy_sel_l {post : Int32 → SY → Prop} {t q o n : Nat} {v : Int32} (ht : t < 3) (hq : q < 15) (ho : o < 3) (hn : n ≤ 24) (hz : Z t = nI n) (hA : ∀ j, dz_ok (A j)) (hp : ∀ R', dz_Q R' o (dz_cn (dz_mt A t q v) n) (dz_cb A t q v o n) → dz_Srt (dz_ky R' o) (dz_cn (dz_mt A t q v) n) → post (nI (dz_cn (dz_mt A t q v) n)) (fo, fc, nI (dz_cn (dz_mt A t q v) n), Z, A, W, B, R')) : ∀ d r R1, r + d = n → dz_Q R1 o (dz_cn (dz_mt A t q v) r) (dz_cb A t q v o r) → wY_select_37 post (nI t) (nI q) v (nI o) fo fc (d + 1) (nI r) (nI (dz_cn (dz_mt A t q v) r)) Z A W B R1 := by
  intro d
  induction d with
  | zero =>
    intro r R1 hr hQ
    have e : r = n := by omega
    subst e
    have hl := dz_cn_le (dz_mt A t q v) r
    refine ⟨vp_in_nI ht (by omega), ?_⟩
    rw [nI_clamp (by omega), hz]
    exact br_t (nI_le (by omega) (by omega)) ⟨dz_cn (dz_mt A t q v) r + 1, dy_s117 ho (by omega) hp (dz_cn (dz_mt A t q v) r) 0 R1 (by omega) hQ (fun a b h => absurd h (by omega))⟩
  | succ d ih =>
    intro r R1 hr hQ
    refine ⟨vp_in_nI ht (by omega), ?_⟩
    rw [nI_clamp (by omega), hz]
    refine br_f (nI_ge (by omega) (by omega)) (dy_meets ht (by omega) hq (fun h => ?_) (fun h => ?_))
    · refine br_f dz_n10 (dy_s63 ht (by omega) (by have := dz_cn_le (dz_mt A t q v) r; omega) ?_)
      have ih' := ih (r + 1) (dz_w3 R1 (3 * dz_cn (dz_mt A t q v) r) (A (72 * t + 3 * r)) (A (72 * t + 3 * r + 1)) (A (72 * t + 3 * r + 2))) (by omega)
      rw [dz_cn_t h] at ih'
      exact ih' (dz_Q_T (dz_Q_add (a := fun c => A (72 * t + 3 * r + c)) ho hQ (fun j hj => dz_w3_lo hj) (fun c hc => dz_w3_at (fun c => A (72 * t + 3 * r + c)) hc) (fun c _ => hA _)) (dz_cb_t h))
    · have ih' := ih (r + 1) R1 (by omega)
      rw [dz_cn_f h] at ih'
      exact br_t rfl (nm_r (nI_1 r) (ih' (dz_Q_T hQ (dz_cb_f h))))
end
