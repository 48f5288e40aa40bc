/-! what next, kth and the two sorts keep -/
/-- the number of row r in column c of table t, as a natural -/
def dz_f (A : Nat → Int32) (t c r : Nat) : Nat := dz_d (A (72 * t + 3 * r + c))
theorem dz_nx_0 (f : Nat → Nat) {p : Nat} (h : p ≤ 199) : dz_Nx f 0 p 199 := ⟨h, Nat.le_refl _, fun r hr => absurd hr (by omega), fun hq => absurd hq (by omega)⟩
theorem dz_nx_y {f : Nat → Nat} {i p q : Nat} (h : dz_Nx f i p q) (h1 : p ≤ f i) (h2 : f i < q) : dz_Nx f (i + 1) p (f i) := by
  refine ⟨h1, by have := h.2.1; omega, ?_, fun _ => ⟨i, by omega, rfl⟩⟩
  intro r hr hp
  by_cases e : r = i
  · rw [e]; exact Nat.le_refl _
  · have := h.2.2.1 r (by omega) hp
    omega
theorem dz_nx_n {f : Nat → Nat} {i p q : Nat} (h : dz_Nx f i p q) (h1 : ¬ (p ≤ f i ∧ f i < q)) : dz_Nx f (i + 1) p q := by
  refine ⟨h.1, h.2.1, ?_, ?_⟩
  · intro r hr hp
    by_cases e : r = i
    · rw [e] at hp ⊢; omega
    · exact h.2.2.1 r (by omega) hp
  · intro hq
    obtain ⟨r, hr, e⟩ := h.2.2.2 hq
    exact ⟨r, by omega, e⟩
theorem dz_gt_v {x v : Int32} {p : Nat} (hv : v.toInt = (p : Int) - 100) (hx : dz_ok x) : v < x ↔ p ≤ dz_d x := by
  rw [Int32.lt_iff_toInt_lt, hv, dz_d_i hx]
  omega
theorem dz_lt_nv {x : Int32} {q : Nat} (hq : q ≤ 199) (hx : dz_ok x) : x < dz_nv q ↔ dz_d x < q := by
  rw [Int32.lt_iff_toInt_lt, dz_nv_i (by omega), dz_d_i hx]
  omega
theorem dz_nv_v {q : Nat} (h : q < 199) : (dz_nv q).toInt = ((q + 1 : Nat) : Int) - 100 := by
  rw [dz_nv_i (by omega)]
  omega
theorem dz_eq_nv {x : Int32} {k : Nat} (hk : k < 199) (hx : dz_ok x) : x = dz_nv k ↔ dz_d x = k := by
  rw [dz_eq hx (dz_nv_ok hk), dz_nv_d (by omega)]
/-- the answer of kth -/
def dz_Ks (f : Nat → Nat) (n : Nat) (K r : Int32) : Prop := (∃ k, k < 199 ∧ dz_hd f n k = true ∧ nI (dz_cn (dz_hd f n) k) = K ∧ r = dz_nv k) ∨ ((∀ k, k < 199 → dz_hd f n k = true → ¬ nI (dz_cn (dz_hd f n) k) = K) ∧ r = -1000)
theorem dz_hit_lt {f : Nat → Nat} {n k l : Nat} (h : dz_hd f n k = true) (hl : k < l) : dz_cn (dz_hd f n) k < dz_cn (dz_hd f n) l := by
  have h1 := dz_cn_mono (dz_hd f n) (a := k + 1) l (by omega)
  rw [dz_cn_t h] at h1
  omega
theorem dz_Ks_u {f : Nat → Nat} {n : Nat} {K r r' : Int32} (hn : n ≤ 24) (h : dz_Ks f n K r) (h' : dz_Ks f n K r') : r' = r := by
  rcases h with ⟨k, hk, hh, hc, e⟩ | ⟨hno, e⟩
  · rcases h' with ⟨l, hl, hh', hc', e'⟩ | ⟨hno', e'⟩
    · have b1 := dz_hd_le f k n
      have b2 := dz_hd_le f l n
      have ec : dz_cn (dz_hd f n) k = dz_cn (dz_hd f n) l := (nI_eq (by omega) (by omega)).mp (hc.trans hc'.symm)
      have ekl : k = l := by
        by_cases c1 : k < l
        · have := dz_hit_lt hh c1
          omega
        · by_cases c2 : l < k
          · have := dz_hit_lt hh' c2
            omega
          · omega
      rw [e, e', ekl]
    · exact absurd hc (hno' k hk hh)
  · rcases h' with ⟨l, hl, hh', hc', e'⟩ | ⟨hno', e'⟩
    · exact absurd hc' (hno l hl hh')
    · rw [e, e']
theorem dz_Ks_lo {f : Nat → Nat} {n : Nat} {K : Int32} (hn : n ≤ 24) (h : K < 0) : dz_Ks f n K (-1000) := by
  refine Or.inr ⟨fun k hk _ e => ?_, rfl⟩
  have b1 := dz_hd_le f k n
  rw [← e] at h
  exact nI_pos (by omega) h
theorem dz_Ks_hi {f : Nat → Nat} {n : Nat} {K : Int32} (hn : n ≤ 24) (h : ¬ K ≤ 24) : dz_Ks f n K (-1000) := by
  refine Or.inr ⟨fun k hk _ e => h ?_, rfl⟩
  have b1 := dz_hd_le f k n
  rw [← e]
  exact nI_le (b := 24) (by omega) (by decide)
/-- kth's jumps stopped at q behind i of them -/
theorem dz_Ks_hit {f : Nat → Nat} {n q i : Nat} (hq : q < 199) (hh : dz_hd f n q = true) (hc : dz_cn (dz_hd f n) q = i) : dz_Ks f n (nI i) (dz_nv q) := Or.inl ⟨q, hq, hh, by rw [hc], rfl⟩
theorem dz_Ks_no {f : Nat → Nat} {n i K : Nat} (hn : n ≤ 24) (hK : K ≤ 24) (hi : i ≤ K) (hc : dz_cn (dz_hd f n) 199 = i) : dz_Ks f n (nI K) (-1000) := by
  refine Or.inr ⟨fun k hk hh e => ?_, rfl⟩
  have b1 := dz_hd_le f k n
  have e2 : dz_cn (dz_hd f n) k = K := (nI_eq (by omega) (by omega)).mp e
  have := dz_hit_lt hh hk
  omega
/-- the rows that meet, and hold a key below x -/
def dz_cb (A : Nat → Int32) (t q : Nat) (v : Int32) (o r x : Nat) : Nat := dz_cn (fun i => dz_mt A t q v i && decide (dz_K (fun c => A (72 * t + 3 * i + c)) o < x)) r
theorem dz_cb_t {A : Nat → Int32} {t q : Nat} {v : Int32} {o r : Nat} (h : dz_mt A t q v r = true) (x : Nat) : dz_cb A t q v o r x + (if dz_K (fun c => A (72 * t + 3 * r + c)) o < x then 1 else 0) = dz_cb A t q v o (r + 1) x := by
  show _ = dz_cn (fun i => dz_mt A t q v i && decide (dz_K (fun c => A (72 * t + 3 * i + c)) o < x)) (r + 1)
  rw [dz_cn_s]
  show _ = dz_cb A t q v o r x + (if (dz_mt A t q v r && decide (dz_K (fun c => A (72 * t + 3 * r + c)) o < x)) = true then 1 else 0)
  rw [h, Bool.true_and]
  by_cases l : dz_K (fun c => A (72 * t + 3 * r + c)) o < x
  · rw [if_pos l, decide_eq_true l, if_pos rfl]
  · rw [if_neg l, decide_eq_false l, if_neg Bool.false_ne_true]
theorem dz_cb_f {A : Nat → Int32} {t q : Nat} {v : Int32} {o r : Nat} (h : dz_mt A t q v r = false) (x : Nat) : dz_cb A t q v o r x = dz_cb A t q v o (r + 1) x := by
  refine (dz_cn_f ?_).symm
  show (dz_mt A t q v r && decide (dz_K (fun c => A (72 * t + 3 * r + c)) o < x)) = false
  rw [h, Bool.false_and]
/-- an insertion under way: rows from p on have moved by one, the new row's key is k -/
def dz_Wh (R R1 : Nat → Int32) (o m p k : Nat) : Prop := p ≤ m ∧ (∀ j, j < 3 * p → R1 j = R j) ∧ (∀ j, 3 * p ≤ j → j < 3 * m → R1 (j + 3) = R j) ∧ ∀ j, p ≤ j → j < m → k < dz_ky R o j
theorem dz_Wh_0 (R : Nat → Int32) (o m k : Nat) : dz_Wh R R o m m k := ⟨Nat.le_refl m, fun _ _ => rfl, fun j h1 h2 => absurd h1 (by omega), fun j h1 h2 => absurd h1 (by omega)⟩
theorem dz_Wh_ky {R R1 : Nat → Int32} {o m p k i : Nat} (ho : o < 3) (h : dz_Wh R R1 o m p k) (hi : i < p) : dz_ky R1 o i = dz_ky R o i := dz_ky_e ho (fun c hc => h.2.1 (3 * i + c) (by omega))
theorem dz_Wh_s {R R1 : Nat → Int32} {o m p k : Nat} (ho : o < 3) (h : dz_Wh R R1 o m (p + 1) k) (hk : k < dz_ky R1 o p) : dz_Wh R (dz_mv R1 (3 * (p + 1)) (3 * p)) o m p k := by
  refine ⟨by have := h.1; omega, ?_, ?_, ?_⟩
  · intro j hj
    rw [dz_mv_o (Or.inl (by omega))]
    exact h.2.1 j (by omega)
  · intro j h1 h2
    by_cases c1 : j < 3 * (p + 1)
    · have e : j + 3 = 3 * (p + 1) + (j - 3 * p) := by omega
      rw [e, dz_mv_at (by omega) (by omega), show 3 * p + (j - 3 * p) = j from by omega]
      exact h.2.1 j c1
    · rw [dz_mv_o (Or.inr (by omega))]
      exact h.2.2.1 j (by omega) h2
  · intro j h1 h2
    by_cases e : j = p
    · rw [e, ← dz_Wh_ky ho h (by omega)]; exact hk
    · exact h.2.2.2 j (by omega) h2
theorem dz_Wh_end {R R1 a : Nat → Int32} {o m p : Nat} {T : Nat → Nat} (ho : o < 3) (hQ : dz_Q R o m T) (hs : dz_Srt (dz_ky R o) m) (ha : dz_O3 a) (h : dz_Wh R R1 o m p (dz_K a o)) (hl : ∀ i, p = i + 1 → ¬ dz_K a o < dz_ky R1 o i) : dz_Q (dz_w3 R1 (3 * p) (a 0) (a 1) (a 2)) o (m + 1) (fun x => T x + (if dz_K a o < x then 1 else 0)) ∧ dz_Srt (dz_ky (dz_w3 R1 (3 * p) (a 0) (a 1) (a 2)) o) (m + 1) := by
  refine dz_Q_ins (R := R) (p := p) ho hQ hs h.1 ?_ ?_ ?_ ha ?_ h.2.2.2
  · intro j hj
    rw [dz_w3_lo hj]; exact h.2.1 j hj
  · intro c hc
    exact dz_w3_at a hc
  · intro j h1 h2
    rw [dz_w3_hi (by omega)]; exact h.2.2.1 j h1 h2
  · intro j hj
    obtain ⟨i, e⟩ : ∃ i, p = i + 1 := ⟨p - 1, by omega⟩
    have h1 := hl i e
    rw [dz_Wh_ky ho h (by omega)] at h1
    have hm := h.1
    by_cases c1 : j = i
    · rw [c1]; omega
    · have := hs j i (by omega) (by omega)
      omega
theorem dz_ex_s {R : Nat → Int32} {o n i j : Nat} {T : Nat → Nat} (ho : o < 3) (hQ : dz_Q R o n T) (hP : dz_Pre (dz_ky R o) n i) (hR : dz_Row (dz_ky R o) i j) (hij : i < j) (hj : j < n) (hlt : dz_ky R o j < dz_ky R o i) : dz_Q (dz_x3 R i j) o n T ∧ dz_Pre (dz_ky (dz_x3 R i j) o) n i ∧ dz_Row (dz_ky (dz_x3 R i j) o) i (j + 1) := by
  obtain ⟨q, e⟩ := dz_Q_sw (R' := dz_x3 R i j) ho hQ hij hj (fun c hc => dz_x3_i hij hc) (fun c hc => dz_x3_j hij hc) (fun k c hc h1 h2 => dz_x3_k hc h1 h2)
  exact ⟨q, dz_Pre_c e (dz_sw_pre hP hij hj), dz_Row_c e (dz_sw_row hR hij hlt)⟩
