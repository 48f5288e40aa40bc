/-! sums, joins, the numbers held, next, kth -/
def dz_in (p : Nat → Bool) (h : Nat → Int32) (a : Int32) : Nat → Int32 := dz_fd (fun s a => if p s = true then a + h s else a) a
theorem dz_in_t {p : Nat → Bool} {h : Nat → Int32} {a : Int32} {s : Nat} (e : p s = true) : dz_in p h a s + h s = dz_in p h a (s + 1) := (if_pos e).symm
theorem dz_in_f {p : Nat → Bool} {h : Nat → Int32} {a : Int32} {s : Nat} (e : p s = false) : dz_in p h a s = dz_in p h a (s + 1) := (if_neg (by rw [e]; exact Bool.false_ne_true)).symm
def dz_out (p : Nat → Nat → Bool) (h : Nat → Nat → Int32) (m : Nat) : Nat → Int32 := dz_fd (fun r a => dz_in (p r) (h r) a m) 0
def dz_jp (A : Nat → Int32) (t u q r s : Nat) : Bool := decide (A (72 * t + 3 * r + q % 3) = A (72 * u + 3 * s + q / 3))
def dz_jh (A : Nat → Int32) (t u q r s : Nat) : Int32 := A (72 * t + 3 * r + q % 3) * A (72 * u + 3 * s + q / 3)
theorem dz_nv_gt {k : Nat} (h : k < 1000) : 99 < dz_nv k ↔ 199 ≤ k := by
  rw [Int32.lt_iff_toInt_lt, dz_nv_i h, dz_p99]
  omega
theorem dz_nv_ge {k : Nat} (h : k < 1000) : 100 ≤ dz_nv k ↔ 199 ≤ k := by
  rw [Int32.le_iff_toInt_le, dz_nv_i h, dz_p100]
  omega
section
variable {fo fc fr : Int32} {A Z B W R : Nat → Int32}
theorem dx_sum_l {post : Int32 → Prop} {t q n c : Nat} {v : Int32} (ht : t < 3) (hq : q < 15) (hc : c < 3) (hn : n ≤ 24) (hz : Z t = nI n) (hp : post (dz_in (dz_mt A t q v) (fun r => A (72 * t + 3 * r + c)) 0 n)) : ∀ d r, r + d = n → wX_sum_31 post (nI t) (nI c) (nI q) v fo fc fr A Z B W R (d + 1) (dz_in (dz_mt A t q v) (fun r => A (72 * t + 3 * r + c)) 0 r) (nI r) := by
  intro d
  induction d with
  | zero =>
    intro r hr
    have e : r = n := by omega
    subst e
    refine ⟨vp_in_nI ht (by omega), ?_⟩
    rw [nI_clamp (by omega), hz]
    exact br_t (nI_le (by omega) (by omega)) hp
  | succ d ih =>
    intro r hr
    have ih' := ih (r + 1) (by omega)
    refine ⟨vp_in_nI ht (by omega), ?_⟩
    rw [nI_clamp (by omega), hz]
    refine br_f (nI_ge (by omega) (by omega)) (dx_meets ht (by omega) hq (fun h => ?_) (fun h => ?_))
    · refine br_f dz_n10 (dx_cellOf ?_)
      rw [nI_clamp (n := 72 * t + 3 * r + c) (by omega)]
      exact ⟨vp_in_nI (by omega) (by omega), nm_r (dz_in_t h) (nm_r (nI_1 r) ih')⟩
    · rw [← dz_in_f h] at ih'
      exact br_t rfl (nm_r (nI_1 _) ih')
theorem dy_sum_l {post : Int32 → Prop} {t q n c : Nat} {v : Int32} (ht : t < 3) (hq : q < 15) (hc : c < 3) (hn : n ≤ 24) (hz : Z t = nI n) (hp : post (dz_in (dz_mt A t q v) (fun r => A (72 * t + 3 * r + c)) 0 n)) : ∀ d r, r + d = n → wY_sum_34 post (nI t) (nI c) (nI q) v fo fc fr Z A W B R (d + 1) (dz_in (dz_mt A t q v) (fun r => A (72 * t + 3 * r + c)) 0 r) (nI r) := by
  intro d
  induction d with
  | zero =>
    intro r hr
    have e : r = n := by omega
    subst e
    refine ⟨vp_in_nI ht (by omega), ?_⟩
    rw [nI_clamp (by omega), hz]
    exact br_t (nI_le (by omega) (by omega)) hp
  | succ d ih =>
    intro r hr
    have ih' := ih (r + 1) (by omega)
    refine ⟨vp_in_nI ht (by omega), ?_⟩
    rw [nI_clamp (by omega), hz]
    refine br_f (nI_ge (by omega) (by omega)) (dy_meets ht (by omega) hq (fun h => ?_) (fun h => ?_))
    · exact br_f dz_n10 (dy_cell ht (by omega) hc (nm_r (dz_in_t h) (nm_r (nI_1 r) ih')))
    · rw [← dz_in_f h] at ih'
      exact br_t rfl (nm_r (nI_1 _) ih')
theorem dx_joins {post : Int32 → Prop} {t u q r s : Nat} (ht : t < 3) (hu : u < 3) (hr : r < 24) (hs : s < 24) (hq : q < 9) (h1 : dz_jp A t u q r s = true → post 1) (h0 : dz_jp A t u q r s = false → post 0) : wpX_joins post (fo, fc, fr, A, Z, B, W, R) (nI t) (nI r) (nI u) (nI s) (nI q) := by
  unfold wpX_joins
  dsimp only
  rw [dz_rem3 (by omega), dz_div3 (by omega)]
  refine ⟨dz_n30, dx_cellOf ⟨vp_in_nI (by omega) (by omega), dz_n30, dx_cellOf ⟨vp_in_nI (by omega) (by omega), ?_⟩⟩⟩
  rw [nI_clamp (n := 72 * t + 3 * r + q % 3) (by omega), nI_clamp (n := 72 * u + 3 * s + q / 3) (by omega)]
  exact br_c (fun h => h1 (decide_eq_true h)) (fun h => h0 (decide_eq_false h))
theorem dx_join_in {post : Int32 → Prop} {J : Int32 → Int32 → Prop} {t u q r m : Nat} {a : Int32} (ht : t < 3) (hu : u < 3) (hr : r < 24) (hq : q < 9) (hm : m ≤ 24) (hz : Z u = nI m) (hp : J (dz_in (dz_jp A t u q r) (fun _ => 1) a m) (nI (r + 1))) : ∀ d s, s + d = m → wX_join_45 post J (nI t) (nI u) (nI q) (nI r) fo fc fr A Z B W R (d + 1) (dz_in (dz_jp A t u q r) (fun _ => 1) a s) (nI s) := by
  intro d
  induction d with
  | zero =>
    intro s hs
    have e : s = m := by omega
    subst e
    refine ⟨vp_in_nI hu (by omega), ?_⟩
    rw [nI_clamp (by omega), hz]
    exact br_t (nI_le (by omega) (by omega)) (nm_r (nI_1 r) hp)
  | succ d ih =>
    intro s hs
    have ih' := ih (s + 1) (by omega)
    refine ⟨vp_in_nI hu (by omega), ?_⟩
    rw [nI_clamp (by omega), hz]
    refine br_f (nI_ge (by omega) (by omega)) (dx_joins ht hu hr (by omega) hq (fun h => ?_) (fun h => ?_))
    · exact br_f dz_n10 (nm_r (dz_in_t h) (nm_r (nI_1 s) ih'))
    · rw [← dz_in_f h] at ih'
      exact br_t rfl (nm_r (nI_1 _) ih')
theorem dx_join_l {post : Int32 → Prop} {t u q n m : Nat} (ht : t < 3) (hu : u < 3) (hq : q < 9) (hn : n ≤ 24) (hm : m ≤ 24) (hz : Z t = nI n) (hy : Z u = nI m) (hp : post (dz_out (dz_jp A t u q) (fun _ _ => 1) m n)) : ∀ d r, r + d = n → wX_join_31 post (nI t) (nI u) (nI q) fo fc fr A Z B W R (d + 1) (dz_out (dz_jp A t u q) (fun _ _ => 1) m r) (nI r) := by
  intro d
  induction d with
  | zero =>
    intro r hr
    have e : r = n := by omega
    subst e
    refine ⟨vp_in_nI ht (by omega), ?_⟩
    rw [nI_clamp (by omega), hz]
    exact br_t (nI_le (by omega) (by omega)) hp
  | succ d ih =>
    intro r hr
    have ih' := ih (r + 1) (by omega)
    refine ⟨vp_in_nI ht (by omega), ?_⟩
    rw [nI_clamp (by omega), hz]
    exact br_f (nI_ge (by omega) (by omega)) ⟨m + 1, dx_join_in ht hu (by omega) hq hm hy ih' m 0 (by omega)⟩
theorem dy_join_in {post : Int32 → Prop} {J : Int32 → Int32 → Prop} {t u q r m : Nat} {a : Int32} (ht : t < 3) (hu : u < 3) (hr : r < 24) (hq : q < 9) (hm : m ≤ 24) (hz : Z u = nI m) (hp : J (dz_in (dz_jp A t u q r) (fun _ => 1) a m) (nI (r + 1))) : ∀ d s, s + d = m → wY_join_48 post J (nI t) (nI u) (nI q) (nI r) fo fc fr Z A W B R (d + 1) (dz_in (dz_jp A t u q r) (fun _ => 1) a s) (nI s) := by
  intro d
  induction d with
  | zero =>
    intro s hs
    have e : s = m := by omega
    subst e
    refine ⟨vp_in_nI hu (by omega), ?_⟩
    rw [nI_clamp (by omega), hz]
    exact br_t (nI_le (by omega) (by omega)) (nm_r (nI_1 r) hp)
  | succ d ih =>
    intro s hs
    have ih' := ih (s + 1) (by omega)
    refine ⟨vp_in_nI hu (by omega), ?_⟩
    rw [nI_clamp (by omega), hz]
    refine br_f (nI_ge (by omega) (by omega)) ?_
    rw [dz_rem3 (by omega), dz_div3 (by omega)]
    refine ⟨dz_n30, dy_cell ht hr (by omega) ⟨dz_n30, dy_cell hu (by omega) (by omega) (br_c (fun h => ?_) (fun h => ?_))⟩⟩
    · exact nm_r (dz_in_t (decide_eq_true h)) (nm_r (nI_1 s) ih')
    · rw [← dz_in_f (p := dz_jp A t u q r) (decide_eq_false h)] at ih'
      exact nm_r (nI_1 _) ih'
theorem dy_join_l {post : Int32 → Prop} {t u q n m : Nat} (ht : t < 3) (hu : u < 3) (hq : q < 9) (hn : n ≤ 24) (hm : m ≤ 24) (hz : Z t = nI n) (hy : Z u = nI m) (hp : post (dz_out (dz_jp A t u q) (fun _ _ => 1) m n)) : ∀ d r, r + d = n → wY_join_34 post (nI t) (nI u) (nI q) fo fc fr Z A W B R (d + 1) (dz_out (dz_jp A t u q) (fun _ _ => 1) m r) (nI r) := by
  intro d
  induction d with
  | zero =>
    intro r hr
    have e : r = n := by omega
    subst e
    refine ⟨vp_in_nI ht (by omega), ?_⟩
    rw [nI_clamp (by omega), hz]
    exact br_t (nI_le (by omega) (by omega)) hp
  | succ d ih =>
    intro r hr
    have ih' := ih (r + 1) (by omega)
    refine ⟨vp_in_nI ht (by omega), ?_⟩
    rw [nI_clamp (by omega), hz]
    exact br_f (nI_ge (by omega) (by omega)) ⟨m + 1, dy_join_in ht hu (by omega) hq hm hy ih' m 0 (by omega)⟩
theorem dx_jsum_in {post : Int32 → Prop} {J : Int32 → Int32 → Prop} {t u q w r m : Nat} {a : Int32} (ht : t < 3) (hu : u < 3) (hr : r < 24) (hq : q < 9) (hw : w < 9) (hm : m ≤ 24) (hz : Z u = nI m) (hp : J (dz_in (dz_jp A t u q r) (dz_jh A t u w r) a m) (nI (r + 1))) : ∀ d s, s + d = m → wX_joinSum_53 post J (nI t) (nI u) (nI q) (nI w) (nI r) fo fc fr A Z B W R (d + 1) (dz_in (dz_jp A t u q r) (dz_jh A t u w r) a s) (nI s) := by
  intro d
  induction d with
  | zero =>
    intro s hs
    have e : s = m := by omega
    subst e
    refine ⟨vp_in_nI hu (by omega), ?_⟩
    rw [nI_clamp (by omega), hz]
    exact br_t (nI_le (by omega) (by omega)) (nm_r (nI_1 r) hp)
  | succ d ih =>
    intro s hs
    have ih' := ih (s + 1) (by omega)
    refine ⟨vp_in_nI hu (by omega), ?_⟩
    rw [nI_clamp (by omega), hz]
    refine br_f (nI_ge (by omega) (by omega)) (dx_joins ht hu hr (by omega) hq (fun h => ?_) (fun h => ?_))
    · refine br_f dz_n10 ?_
      rw [dz_rem3 (by omega), dz_div3 (by omega)]
      refine ⟨dz_n30, dx_cellOf ⟨vp_in_nI (by omega) (by omega), dz_n30, dx_cellOf ⟨vp_in_nI (by omega) (by omega), ?_⟩⟩⟩
      rw [nI_clamp (n := 72 * t + 3 * r + w % 3) (by omega), nI_clamp (n := 72 * u + 3 * s + w / 3) (by omega)]
      exact nm_r (dz_in_t (h := dz_jh A t u w r) h) (nm_r (nI_1 s) ih')
    · rw [← dz_in_f h] at ih'
      exact br_t rfl (nm_r (nI_1 _) ih')
theorem dx_jsum_l {post : Int32 → Prop} {t u q w n m : Nat} (ht : t < 3) (hu : u < 3) (hq : q < 9) (hw : w < 9) (hn : n ≤ 24) (hm : m ≤ 24) (hz : Z t = nI n) (hy : Z u = nI m) (hp : post (dz_out (dz_jp A t u q) (dz_jh A t u w) m n)) : ∀ d r, r + d = n → wX_joinSum_39 post (nI t) (nI u) (nI q) (nI w) fo fc fr A Z B W R (d + 1) (dz_out (dz_jp A t u q) (dz_jh A t u w) m r) (nI r) := by
  intro d
  induction d with
  | zero =>
    intro r hr
    have e : r = n := by omega
    subst e
    refine ⟨vp_in_nI ht (by omega), ?_⟩
    rw [nI_clamp (by omega), hz]
    exact br_t (nI_le (by omega) (by omega)) hp
  | succ d ih =>
    intro r hr
    have ih' := ih (r + 1) (by omega)
    refine ⟨vp_in_nI ht (by omega), ?_⟩
    rw [nI_clamp (by omega), hz]
    exact br_f (nI_ge (by omega) (by omega)) ⟨m + 1, dx_jsum_in ht hu (by omega) hq hw hm hy ih' m 0 (by omega)⟩
theorem dy_jsum_in {post : Int32 → Prop} {J : Int32 → Int32 → Prop} {t u q w r m : Nat} {a : Int32} (ht : t < 3) (hu : u < 3) (hr : r < 24) (hq : q < 9) (hw : w < 9) (hm : m ≤ 24) (hz : Z u = nI m) (hp : J (dz_in (dz_jp A t u q r) (dz_jh A t u w r) a m) (nI (r + 1))) : ∀ d s, s + d = m → wY_joinSum_57 post J (nI t) (nI u) (nI q) (nI w) (nI r) fo fc fr Z A W B R (d + 1) (dz_in (dz_jp A t u q r) (dz_jh A t u w r) a s) (nI s) := by
  intro d
  induction d with
  | zero =>
    intro s hs
    have e : s = m := by omega
    subst e
    refine ⟨vp_in_nI hu (by omega), ?_⟩
    rw [nI_clamp (by omega), hz]
    exact br_t (nI_le (by omega) (by omega)) (nm_r (nI_1 r) hp)
  | succ d ih =>
    intro s hs
    have ih' := ih (s + 1) (by omega)
    refine ⟨vp_in_nI hu (by omega), ?_⟩
    rw [nI_clamp (by omega), hz]
    refine br_f (nI_ge (by omega) (by omega)) ?_
    rw [dz_rem3 (by omega), dz_div3 (by omega)]
    refine ⟨dz_n30, dy_cell ht hr (by omega) ⟨dz_n30, dy_cell hu (by omega) (by omega) (br_c (fun h => ?_) (fun h => ?_))⟩⟩
    · refine br_f dz_n10 ?_
      rw [dz_rem3 (by omega), dz_div3 (by omega)]
      exact ⟨dz_n30, dy_cell ht hr (by omega) ⟨dz_n30, dy_cell hu (by omega) (by omega) (nm_r (dz_in_t (p := dz_jp A t u q r) (h := dz_jh A t u w r) (decide_eq_true h)) (nm_r (nI_1 s) ih'))⟩⟩
    · rw [← dz_in_f (p := dz_jp A t u q r) (decide_eq_false h)] at ih'
      exact br_t rfl (nm_r (nI_1 _) ih')
theorem dy_jsum_l {post : Int32 → Prop} {t u q w n m : Nat} (ht : t < 3) (hu : u < 3) (hq : q < 9) (hw : w < 9) (hn : n ≤ 24) (hm : m ≤ 24) (hz : Z t = nI n) (hy : Z u = nI m) (hp : post (dz_out (dz_jp A t u q) (dz_jh A t u w) m n)) : ∀ d r, r + d = n → wY_joinSum_43 post (nI t) (nI u) (nI q) (nI w) fo fc fr Z A W B R (d + 1) (dz_out (dz_jp A t u q) (dz_jh A t u w) m r) (nI r) := by
  intro d
  induction d with
  | zero =>
    intro r hr
    have e : r = n := by omega
    subst e
    refine ⟨vp_in_nI ht (by omega), ?_⟩
    rw [nI_clamp (by omega), hz]
    exact br_t (nI_le (by omega) (by omega)) hp
  | succ d ih =>
    intro r hr
    have ih' := ih (r + 1) (by omega)
    refine ⟨vp_in_nI ht (by omega), ?_⟩
    rw [nI_clamp (by omega), hz]
    exact br_f (nI_ge (by omega) (by omega)) ⟨m + 1, dy_jsum_in ht hu (by omega) hq hw hm hy ih' m 0 (by omega)⟩
theorem dx_holds {post : Int32 → Prop} {t c n k : Nat} (ht : t < 3) (hc : c < 3) (hn : n ≤ 24) (hz : Z t = nI n) (hA : ∀ j, dz_ok (A j)) (hk : k < 199) (h1 : dz_hd (dz_f A t c) n k = true → post 1) (h0 : dz_hd (dz_f A t c) n k = false → post 0) : wpX_holds post (fo, fc, fr, A, Z, B, W, R) (nI t) (nI c) (dz_nv k) := by
  have key : ∀ d r, r + d = n → (∀ i, i < r → dz_f A t c i ≠ k) → wX_holds_3 post (nI t) (nI c) (dz_nv k) fo fc fr A Z B W R (d + 1) (nI r) := by
    intro d
    induction d with
    | zero =>
      intro r hr hno
      have e : r = n := by omega
      subst e
      refine ⟨vp_in_nI ht (by omega), ?_⟩
      rw [nI_clamp (by omega), hz]
      exact br_t (nI_le (by omega) (by omega)) (h0 (dz_hd_f r hno))
    | succ d ih =>
      intro r hr hno
      refine ⟨vp_in_nI ht (by omega), ?_⟩
      rw [nI_clamp (by omega), hz]
      refine br_f (nI_ge (by omega) (by omega)) (dx_cellOf ?_)
      rw [nI_clamp (n := 72 * t + 3 * r + c) (by omega)]
      refine ⟨vp_in_nI (by omega) (by omega), br_c (fun h => h1 (dz_hd_t n r (by omega) ((dz_eq_nv hk (hA _)).mp h))) (fun h => nm_r (nI_1 r) (ih (r + 1) (by omega) ?_))⟩
      intro i hi
      by_cases e : i = r
      · rw [e]; exact fun x => h ((dz_eq_nv hk (hA _)).mpr x)
      · exact hno i (by omega)
  exact ⟨n + 1, key n 0 (by omega) (fun i hi => absurd hi (by omega))⟩
theorem dx_dist_l {post : Int32 → Prop} {t c n : Nat} (ht : t < 3) (hc : c < 3) (hn : n ≤ 24) (hz : Z t = nI n) (hA : ∀ j, dz_ok (A j)) (hp : post (nI (dz_cn (dz_hd (dz_f A t c) n) 199))) : ∀ d k, k + d = 199 → wX_distinct_24 post (nI t) (nI c) fo fc fr A Z B W R (d + 1) (nI (dz_cn (dz_hd (dz_f A t c) n) k)) (dz_nv k) := by
  intro d
  induction d with
  | zero =>
    intro k hk
    have e : k = 199 := by omega
    subst e
    exact br_t ((dz_nv_gt (by omega)).mpr (by omega)) hp
  | succ d ih =>
    intro k hk
    have ih' := ih (k + 1) (by omega)
    refine br_f (fun z => by have := (dz_nv_gt (by omega)).mp z; omega) (dx_holds ht hc hn hz hA (by omega) (fun h => ?_) (fun h => ?_))
    · rw [dz_cn_t h] at ih'
      exact br_f dz_n10 (nm_r (nI_1 _) (nm_r (dz_nv_s k) ih'))
    · rw [dz_cn_f h] at ih'
      exact br_t rfl (nm_r (dz_nv_s k) ih')
theorem dx_kth_l {post : Int32 → Prop} {t c n : Nat} {K : Int32} (ht : t < 3) (hc : c < 3) (hn : n ≤ 24) (hz : Z t = nI n) (hA : ∀ j, dz_ok (A j)) (hp : ∀ r, dz_Ks (dz_f A t c) n K r → post r) : ∀ d k, k + d = 199 → (∀ j, j < k → dz_hd (dz_f A t c) n j = true → ¬ nI (dz_cn (dz_hd (dz_f A t c) n) j) = K) → wX_kth_25 post (nI t) (nI c) K fo fc fr A Z B W R (d + 1) (nI (dz_cn (dz_hd (dz_f A t c) n) k)) (dz_nv k) := by
  intro d
  induction d with
  | zero =>
    intro k hk hno
    have e : k = 199 := by omega
    subst e
    exact br_t ((dz_nv_gt (by omega)).mpr (by omega)) (hp _ (Or.inr ⟨hno, rfl⟩))
  | succ d ih =>
    intro k hk hno
    have ih' := ih (k + 1) (by omega)
    refine br_f (fun z => by have := (dz_nv_gt (by omega)).mp z; omega) (dx_holds ht hc hn hz hA (by omega) (fun h => ?_) (fun h => ?_))
    · rw [dz_cn_t h] at ih'
      refine br_f dz_n10 (br_c (fun e => hp _ (Or.inl ⟨k, by omega, h, e, rfl⟩)) (fun e => nm_r (nI_1 _) (nm_r (dz_nv_s k) (ih' ?_))))
      intro j hj hh
      by_cases c1 : j = k
      · rw [c1]; exact e
      · exact hno j (by omega) hh
    · rw [dz_cn_f h] at ih'
      refine br_t rfl (nm_r (dz_nv_s k) (ih' ?_))
      intro j hj hh
      by_cases c1 : j = k
      · rw [c1, h] at hh; exact absurd hh Bool.false_ne_true
      · exact hno j (by omega) hh
theorem dy_next {post : Int32 → Prop} {t c n p : Nat} {v : Int32} (ht : t < 3) (hc : c < 3) (hn : n ≤ 24) (hz : Z t = nI n) (hA : ∀ j, dz_ok (A j)) (hv : v.toInt = (p : Int) - 100) (h9 : p ≤ 199) (hp : ∀ q, dz_Nx (dz_f A t c) n p q → post (dz_nv q)) : wpY_next post (fo, fc, fr, Z, A, W, B, R) (nI t) (nI c) v := by
  have key : ∀ d r q, r + d = n → dz_Nx (dz_f A t c) r p q → wY_next_7 post (nI t) (nI c) v fo fc fr Z A W B R (d + 1) (dz_nv q) (nI r) := by
    intro d
    induction d with
    | zero =>
      intro r q hr hN
      have e : r = n := by omega
      subst e
      refine ⟨vp_in_nI ht (by omega), ?_⟩
      rw [nI_clamp (by omega), hz]
      exact br_t (nI_le (by omega) (by omega)) (hp q hN)
    | succ d ih =>
      intro r q hr hN
      refine ⟨vp_in_nI ht (by omega), ?_⟩
      rw [nI_clamp (by omega), hz]
      refine br_f (nI_ge (by omega) (by omega)) (dy_cell ht (by omega) hc (br_c (fun h => nm_r (nI_1 r) (ih (r + 1) q (by omega) (dz_nx_n hN ?_))) (fun h => br_c (fun l => nm_r (nI_1 r) (ih (r + 1) q (by omega) (dz_nx_n hN ?_))) (fun l => nm_r (nI_1 r) ?_))))
      · exact fun z => Int32.not_lt.mpr h ((dz_gt_v hv (hA _)).mpr z.1)
      · exact fun z => Int32.not_lt.mpr l ((dz_lt_nv hN.2.1 (hA _)).mpr z.2)
      · rw [dz_nv_of (hA (72 * t + 3 * r + c))]
        exact ih (r + 1) (dz_f A t c r) (by omega) (dz_nx_y hN ((dz_gt_v hv (hA _)).mp (Int32.not_le.mp h)) ((dz_lt_nv hN.2.1 (hA _)).mp (Int32.not_le.mp l)))
  have k0 := key n 0 199 (by omega) (dz_nx_0 _ h9)
  rw [dz_nv_199] at k0
  exact ⟨n + 1, k0⟩
theorem dy_dist_l {post : Int32 → Prop} {t c n : Nat} (ht : t < 3) (hc : c < 3) (hn : n ≤ 24) (hz : Z t = nI n) (hA : ∀ j, dz_ok (A j)) (hp : post (nI (dz_cn (dz_hd (dz_f A t c) n) 199))) : ∀ m q, 199 - q < m → q ≤ 199 → (q < 199 → dz_hd (dz_f A t c) n q = true) → wY_distinct_32 post (nI t) (nI c) fo fc fr Z A W B R m (nI (dz_cn (dz_hd (dz_f A t c) n) q)) (dz_nv q) := by
  intro m
  induction m with
  | zero => intro q h; omega
  | succ m ih =>
    intro q hm hq hh
    by_cases e : q = 199
    · subst e
      exact br_t ((dz_nv_ge (by omega)).mpr (by omega)) hp
    · refine br_f (fun z => by have := (dz_nv_ge (by omega)).mp z; omega) (nm_r (nI_1 _) (dy_next ht hc hn hz hA (dz_nv_v (by omega)) (by omega) (fun q' hN => ?_)))
      have h1 := dz_nx_gap hN
      rw [dz_cn_t (hh (by omega))] at h1
      rw [← h1]
      exact ih q' (by have := hN.1; have := hN.2.1; omega) hN.2.1 (fun z => dz_nx_hit hN z)
theorem dy_kth_l {post : Int32 → Prop} {t c n K : Nat} (ht : t < 3) (hc : c < 3) (hn : n ≤ 24) (hK : K ≤ 24) (hz : Z t = nI n) (hA : ∀ j, dz_ok (A j)) (hp : ∀ r, dz_Ks (dz_f A t c) n (nI K) r → post r) : ∀ m i q, K - i < m → i ≤ K → q ≤ 199 → dz_cn (dz_hd (dz_f A t c) n) q = i → (q < 199 → dz_hd (dz_f A t c) n q = true) → wY_kth_43 post (nI t) (nI c) (nI K) fo fc fr Z A W B R m (dz_nv q) (nI i) := by
  intro m
  induction m with
  | zero => intro i q h; omega
  | succ m ih =>
    intro i q hm hi hq hc1 hh
    by_cases e : i = K
    · subst e
      refine br_t (nI_le (by omega) (by omega)) ?_
      by_cases e9 : q = 199
      · subst e9
        exact br_t ((dz_nv_ge (by omega)).mpr (by omega)) (hp _ (dz_Ks_no hn hK hi hc1))
      · exact br_f (fun z => by have := (dz_nv_ge (by omega)).mp z; omega) (hp _ (dz_Ks_hit (by omega) (hh (by omega)) hc1))
    · refine br_f (nI_ge (by omega) (by omega)) ?_
      by_cases e9 : q = 199
      · subst e9
        exact br_t ((dz_nv_ge (by omega)).mpr (by omega)) (br_t ((dz_nv_ge (by omega)).mpr (by omega)) (hp _ (dz_Ks_no hn hK hi hc1)))
      · refine br_f (fun z => by have := (dz_nv_ge (by omega)).mp z; omega) (dy_next ht hc hn hz hA (dz_nv_v (by omega)) (by omega) (fun q' hN => nm_r (nI_1 i) ?_))
        have h1 := dz_nx_gap hN
        rw [dz_cn_t (hh (by omega)), hc1] at h1
        exact ih (i + 1) q' (by omega) (by omega) hN.2.1 h1 (fun z => dz_nx_hit hN z)
end
