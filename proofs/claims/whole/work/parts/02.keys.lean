/-! numbers from -99 to 99, rows as keys, the result as a set of keys -/
def dz_ok (x : Int32) : Prop := -99 ≤ x.toInt ∧ x.toInt ≤ 99
def dz_d (x : Int32) : Nat := (x.toInt + 99).toNat
theorem dz_d_i {x : Int32} (h : dz_ok x) : x.toInt = (dz_d x : Int) - 99 := by
  have h1 := h.1
  have h2 := h.2
  unfold dz_d
  omega
theorem dz_d_lt {x : Int32} (h : dz_ok x) : dz_d x < 199 := by
  have h1 := h.1
  have h2 := h.2
  unfold dz_d
  omega
theorem dz_lt {x y : Int32} (hx : dz_ok x) (hy : dz_ok y) : x < y ↔ dz_d x < dz_d y := by
  rw [Int32.lt_iff_toInt_lt, dz_d_i hx, dz_d_i hy]
  omega
theorem dz_eq {x y : Int32} (hx : dz_ok x) (hy : dz_ok y) : x = y ↔ dz_d x = dz_d y := by
  rw [← Int32.toInt_inj, dz_d_i hx, dz_d_i hy]
  omega
theorem dz_ok0 : dz_ok 0 := by
  have h : (0 : Int32).toInt = 0 := by decide
  unfold dz_ok
  rw [h]
  omega
theorem dz_m99 : (-99 : Int32).toInt = -99 := by decide
theorem dz_p99 : (99 : Int32).toInt = 99 := by decide
theorem dz_p100 : (100 : Int32).toInt = 100 := by decide
theorem dz_m100 : (-100 : Int32).toInt = -100 := by decide
/-- the number -99 + k -/
def dz_nv (k : Nat) : Int32 := nI k + (-99)
theorem dz_nv_i {k : Nat} (h : k < 1000) : (dz_nv k).toInt = (k : Int) - 99 := by
  unfold dz_nv
  rw [Int32.toInt_add, nI_toInt (by omega), dz_m99]
  exact (Int.bmod_eq_of_le (by omega) (by omega)).trans (by omega)
theorem dz_nv_0 : dz_nv 0 = -99 := by decide +kernel
theorem dz_nv_199 : dz_nv 199 = 100 := by decide +kernel
theorem dz_nv_s (k : Nat) : dz_nv k + 1 = dz_nv (k + 1) := by
  unfold dz_nv
  rw [Int32.add_assoc, Int32.add_comm (-99) 1, ← Int32.add_assoc, nI_1]
theorem dz_nv_ok {k : Nat} (h : k < 199) : dz_ok (dz_nv k) := by
  unfold dz_ok
  rw [dz_nv_i (by omega)]
  omega
theorem dz_nv_d {k : Nat} (h : k < 1000) : dz_d (dz_nv k) = k := by
  unfold dz_d
  rw [dz_nv_i h]
  omega
theorem dz_nv_le {k : Nat} (h : k < 1000) : dz_nv k ≤ 99 ↔ k < 199 := by
  rw [Int32.le_iff_toInt_le, dz_nv_i h, dz_p99]
  omega
theorem dz_nv_lt {k : Nat} (h : k < 1000) : dz_nv k < 100 ↔ k < 199 := by
  rw [Int32.lt_iff_toInt_lt, dz_nv_i h, dz_p100]
  omega
theorem dz_nv_of {x : Int32} (h : dz_ok x) : x = dz_nv (dz_d x) := by
  have h1 := dz_d_lt h
  rw [← Int32.toInt_inj, dz_nv_i (by omega)]
  exact dz_d_i h
theorem dz_is_ok {x : Int32} (h1 : -99 ≤ x) (h2 : x ≤ 99) : dz_ok x := by
  rw [Int32.le_iff_toInt_le, dz_m99] at h1
  rw [Int32.le_iff_toInt_le, dz_p99] at h2
  exact ⟨h1, h2⟩
/-- a row's key: the column of the order, then the columns from the left -/
def dz_K (a : Nat → Int32) (o : Nat) : Nat := ((dz_d (a o) * 199 + dz_d (a 0)) * 199 + dz_d (a 1)) * 199 + dz_d (a 2)
theorem dz_K_def (a : Nat → Int32) (o : Nat) : dz_K a o = ((dz_d (a o) * 199 + dz_d (a 0)) * 199 + dz_d (a 1)) * 199 + dz_d (a 2) := rfl
theorem dz_K_n1 {xo x0 x1 x2 yo y0 y1 y2 : Nat} (a0 : x0 < 199) (a1 : x1 < 199) (a2 : x2 < 199) (b0 : y0 < 199) (b1 : y1 < 199) (b2 : y2 < 199) (h : xo ≠ yo) : xo < yo ↔ ((xo * 199 + x0) * 199 + x1) * 199 + x2 < ((yo * 199 + y0) * 199 + y1) * 199 + y2 := by omega
theorem dz_K_n2 {xo x0 x1 x2 y0 y1 y2 : Nat} (a1 : x1 < 199) (a2 : x2 < 199) (b1 : y1 < 199) (b2 : y2 < 199) (h : x0 ≠ y0) : x0 < y0 ↔ ((xo * 199 + x0) * 199 + x1) * 199 + x2 < ((xo * 199 + y0) * 199 + y1) * 199 + y2 := by omega
theorem dz_K_n3 {xo x0 x1 x2 y1 y2 : Nat} (a2 : x2 < 199) (b2 : y2 < 199) (h : x1 ≠ y1) : x1 < y1 ↔ ((xo * 199 + x0) * 199 + x1) * 199 + x2 < ((xo * 199 + x0) * 199 + y1) * 199 + y2 := by omega
theorem dz_K_n4 {xo x0 x1 x2 y2 : Nat} : x2 < y2 ↔ ((xo * 199 + x0) * 199 + x1) * 199 + x2 < ((xo * 199 + x0) * 199 + x1) * 199 + y2 := by omega
theorem dz_K_n5 {xo x0 x1 x2 yo y0 y1 y2 : Nat} (a0 : x0 < 199) (a1 : x1 < 199) (a2 : x2 < 199) (b0 : y0 < 199) (b1 : y1 < 199) (b2 : y2 < 199) (h : ((xo * 199 + x0) * 199 + x1) * 199 + x2 = ((yo * 199 + y0) * 199 + y1) * 199 + y2) : x0 = y0 ∧ x1 = y1 ∧ x2 = y2 := by
  refine ⟨?_, ?_, ?_⟩ <;> omega
def dz_O3 (a : Nat → Int32) : Prop := ∀ c, c < 3 → dz_ok (a c)
theorem dz_K_o {a b : Nat → Int32} {o : Nat} (ha : dz_O3 a) (hb : dz_O3 b) (ho : o < 3) (hne : ¬ a o = b o) : a o < b o ↔ dz_K a o < dz_K b o := by
  rw [dz_eq (ha o ho) (hb o ho)] at hne
  rw [dz_lt (ha o ho) (hb o ho), dz_K_def, dz_K_def]
  exact dz_K_n1 (dz_d_lt (ha 0 (by omega))) (dz_d_lt (ha 1 (by omega))) (dz_d_lt (ha 2 (by omega))) (dz_d_lt (hb 0 (by omega))) (dz_d_lt (hb 1 (by omega))) (dz_d_lt (hb 2 (by omega))) hne
theorem dz_K_0 {a b : Nat → Int32} {o : Nat} (ha : dz_O3 a) (hb : dz_O3 b) (he : a o = b o) (hne : ¬ a 0 = b 0) : a 0 < b 0 ↔ dz_K a o < dz_K b o := by
  rw [dz_eq (ha 0 (by omega)) (hb 0 (by omega))] at hne
  rw [dz_lt (ha 0 (by omega)) (hb 0 (by omega)), dz_K_def, dz_K_def, he]
  exact dz_K_n2 (dz_d_lt (ha 1 (by omega))) (dz_d_lt (ha 2 (by omega))) (dz_d_lt (hb 1 (by omega))) (dz_d_lt (hb 2 (by omega))) hne
theorem dz_K_1 {a b : Nat → Int32} {o : Nat} (ha : dz_O3 a) (hb : dz_O3 b) (he : a o = b o) (e0 : a 0 = b 0) (hne : ¬ a 1 = b 1) : a 1 < b 1 ↔ dz_K a o < dz_K b o := by
  rw [dz_eq (ha 1 (by omega)) (hb 1 (by omega))] at hne
  rw [dz_lt (ha 1 (by omega)) (hb 1 (by omega)), dz_K_def, dz_K_def, he, e0]
  exact dz_K_n3 (dz_d_lt (ha 2 (by omega))) (dz_d_lt (hb 2 (by omega))) hne
theorem dz_K_2 {a b : Nat → Int32} {o : Nat} (ha : dz_O3 a) (hb : dz_O3 b) (he : a o = b o) (e0 : a 0 = b 0) (e1 : a 1 = b 1) : a 2 < b 2 ↔ dz_K a o < dz_K b o := by
  rw [dz_lt (ha 2 (by omega)) (hb 2 (by omega)), dz_K_def, dz_K_def, he, e0, e1]
  exact dz_K_n4
theorem dz_K_e {a b : Nat → Int32} {o : Nat} (he : a o = b o) (e0 : a 0 = b 0) (e1 : a 1 = b 1) (e2 : a 2 = b 2) : ¬ dz_K a o < dz_K b o := by
  rw [dz_K_def, dz_K_def, he, e0, e1, e2]
  exact Nat.lt_irrefl _
theorem dz_K_c {a b : Nat → Int32} {o : Nat} (ho : o < 3) (h : ∀ c, c < 3 → a c = b c) : dz_K a o = dz_K b o := by
  rw [dz_K_def, dz_K_def, h o ho, h 0 (by omega), h 1 (by omega), h 2 (by omega)]
theorem dz_K_inj {a b : Nat → Int32} {o : Nat} (ha : dz_O3 a) (hb : dz_O3 b) (h : dz_K a o = dz_K b o) : ∀ c, c < 3 → a c = b c := by
  rw [dz_K_def, dz_K_def] at h
  have e := dz_K_n5 (dz_d_lt (ha 0 (by omega))) (dz_d_lt (ha 1 (by omega))) (dz_d_lt (ha 2 (by omega))) (dz_d_lt (hb 0 (by omega))) (dz_d_lt (hb 1 (by omega))) (dz_d_lt (hb 2 (by omega))) h
  intro c hc
  rw [dz_eq (ha c hc) (hb c hc)]
  by_cases c0 : c = 0
  · rw [c0]; exact e.1
  · by_cases c1 : c = 1
    · rw [c1]; exact e.2.1
    · have c2 : c = 2 := by omega
      rw [c2]; exact e.2.2
/-- the key of row i of the result -/
def dz_ky (R : Nat → Int32) (o i : Nat) : Nat := dz_K (fun c => R (3 * i + c)) o
theorem dz_ky_c {R : Nat → Int32} {a : Nat → Int32} {o i : Nat} (ho : o < 3) (h : ∀ c, c < 3 → R (3 * i + c) = a c) : dz_ky R o i = dz_K a o := dz_K_c ho h
theorem dz_ky_e {R R' : Nat → Int32} {o i j : Nat} (ho : o < 3) (h : ∀ c, c < 3 → R (3 * i + c) = R' (3 * j + c)) : dz_ky R o i = dz_ky R' o j := dz_K_c ho h
theorem dz_bl_c {g h : Nat → Nat} {x j : Nat} (e : g j = h j) : dz_bl g x j = dz_bl h x j := by
  show decide (g j < x) = decide (h j < x)
  rw [e]
/-- the first n rows of R hold, below each key x, T x rows; all their numbers are numbers -/
def dz_Q (R : Nat → Int32) (o n : Nat) (T : Nat → Nat) : Prop := (∀ x, dz_cn (dz_bl (dz_ky R o) x) n = T x) ∧ ∀ j, j < 3 * n → dz_ok (R j)
theorem dz_Q_O3 {R : Nat → Int32} {o n i : Nat} {T : Nat → Nat} (h : dz_Q R o n T) (hi : i < n) : dz_O3 (fun c => R (3 * i + c)) := fun c hc => h.2 (3 * i + c) (by omega)
theorem dz_Q_0 (R : Nat → Int32) (o : Nat) : dz_Q R o 0 (fun _ => 0) := ⟨fun _ => rfl, fun j hj => absurd hj (by omega)⟩
theorem dz_Q_T {R : Nat → Int32} {o n : Nat} {T T' : Nat → Nat} (h : dz_Q R o n T) (e : ∀ x, T x = T' x) : dz_Q R o n T' := ⟨fun x => (h.1 x).trans (e x), h.2⟩
theorem dz_Q_add {R R' a : Nat → Int32} {o m : Nat} {T : Nat → Nat} (ho : o < 3) (h : dz_Q R o m T) (h1 : ∀ j, j < 3 * m → R' j = R j) (h2 : ∀ c, c < 3 → R' (3 * m + c) = a c) (ha : dz_O3 a) : dz_Q R' o (m + 1) (fun x => T x + (if dz_K a o < x then 1 else 0)) := by
  constructor
  · intro x
    rw [dz_cn_s, dz_bl_i, dz_ky_c ho h2]
    rw [dz_cn_c (p := dz_bl (dz_ky R' o) x) (q := dz_bl (dz_ky R o) x) m (fun j hj => dz_bl_c (dz_ky_e ho (fun c hc => h1 (3 * j + c) (by omega)))), h.1 x]
  · intro j hj
    by_cases e : j < 3 * m
    · rw [h1 j e]; exact h.2 j e
    · have e2 : j = 3 * m + (j - 3 * m) := by omega
      rw [e2, h2 (j - 3 * m) (by omega)]
      exact ha _ (by omega)
theorem dz_Q_ins {R R' a : Nat → Int32} {o m p : Nat} {T : Nat → Nat} (ho : o < 3) (h : dz_Q R o m T) (hs : dz_Srt (dz_ky R o) m) (hp : p ≤ m) (h1 : ∀ j, j < 3 * p → R' j = R j) (h2 : ∀ c, c < 3 → R' (3 * p + c) = a c) (h3 : ∀ j, 3 * p ≤ j → j < 3 * m → R' (j + 3) = R j) (ha : dz_O3 a) (hl : ∀ j, j < p → dz_ky R o j ≤ dz_K a o) (hh : ∀ j, p ≤ j → j < m → dz_K a o < dz_ky R o j) : dz_Q R' o (m + 1) (fun x => T x + (if dz_K a o < x then 1 else 0)) ∧ dz_Srt (dz_ky R' o) (m + 1) := by
  have e : ∀ j, j < m + 1 → dz_ky R' o j = dz_ins (dz_ky R o) p (dz_K a o) j := by
    intro j hj
    by_cases c1 : j < p
    · rw [dz_ins_lo c1]
      exact dz_ky_e ho (fun c hc => h1 (3 * j + c) (by omega))
    · by_cases c2 : j = p
      · rw [c2, dz_ins_at]
        exact dz_ky_c ho h2
      · obtain ⟨i, rfl⟩ : ∃ i, j = i + 1 := ⟨j - 1, by omega⟩
        rw [dz_ins_hi (by omega)]
        refine dz_ky_e ho (fun c hc => ?_)
        have e3 := h3 (3 * i + c) (by omega) (by omega)
        rw [← e3]
        exact congrArg R' (by omega)
  refine ⟨⟨?_, ?_⟩, ?_⟩
  · intro x
    rw [dz_cn_c (p := dz_bl (dz_ky R' o) x) (q := dz_bl (dz_ins (dz_ky R o) p (dz_K a o)) x) (m + 1) (fun j hj => dz_bl_c (e j hj))]
    obtain ⟨d, rfl⟩ : ∃ d, m = p + d := ⟨m - p, by omega⟩
    rw [dz_ins_cn, h.1 x]
  · intro j hj
    by_cases c1 : j < 3 * p
    · rw [h1 j c1]; exact h.2 j (by omega)
    · by_cases c2 : j < 3 * p + 3
      · have e2 : j = 3 * p + (j - 3 * p) := by omega
        rw [e2, h2 (j - 3 * p) (by omega)]
        exact ha _ (by omega)
      · have e2 : j = (j - 3) + 3 := by omega
        rw [e2, h3 (j - 3) (by omega) (by omega)]
        exact h.2 _ (by omega)
  · have s := dz_ins_srt (k := dz_K a o) hp hs hl (fun j q1 q2 => Nat.le_of_lt (hh j q1 q2))
    intro x y hxy hy
    rw [e x (by omega), e y hy]
    exact s x y hxy hy
theorem dz_Q_sw {R R' : Nat → Int32} {o n i j : Nat} {T : Nat → Nat} (ho : o < 3) (h : dz_Q R o n T) (hij : i < j) (hj : j < n) (hi' : ∀ c, c < 3 → R' (3 * i + c) = R (3 * j + c)) (hj' : ∀ c, c < 3 → R' (3 * j + c) = R (3 * i + c)) (hk' : ∀ k c, c < 3 → k ≠ i → k ≠ j → R' (3 * k + c) = R (3 * k + c)) : dz_Q R' o n T ∧ ∀ k, dz_ky R' o k = dz_sw (dz_ky R o) i j k := by
  have e : ∀ k, dz_ky R' o k = dz_sw (dz_ky R o) i j k := by
    intro k
    by_cases c1 : k = i
    · rw [c1, dz_sw_i (by omega)]; exact dz_ky_e ho hi'
    · by_cases c2 : k = j
      · rw [c2, dz_sw_j]; exact dz_ky_e ho hj'
      · rw [dz_sw_o c1 c2]; exact dz_ky_e ho (fun c hc => hk' k c hc c1 c2)
  refine ⟨⟨?_, ?_⟩, e⟩
  · intro x
    rw [dz_cn_c (p := dz_bl (dz_ky R' o) x) (q := dz_bl (dz_sw (dz_ky R o) i j) x) n (fun k _ => dz_bl_c (e k)), dz_sw_cn _ (by omega) hj (by omega), h.1 x]
  · have key : ∀ k c, k < n → c < 3 → dz_ok (R' (3 * k + c)) := by
      intro k c hk hc
      by_cases c1 : k = i
      · rw [c1, hi' c hc]; exact h.2 _ (by omega)
      · by_cases c2 : k = j
        · rw [c2, hj' c hc]; exact h.2 _ (by omega)
        · rw [hk' k c hc c1 c2]; exact h.2 _ (by omega)
    intro y hy
    have e2 : y = 3 * (y / 3) + y % 3 := by omega
    rw [e2]
    exact key (y / 3) (y % 3) (by omega) (by omega)
theorem dz_Q_eq {R R' : Nat → Int32} {o n : Nat} {T : Nat → Nat} (h : dz_Q R o n T) (h' : dz_Q R' o n T) (s : dz_Srt (dz_ky R o) n) (s' : dz_Srt (dz_ky R' o) n) : ∀ j, j < 3 * n → R j = R' j := by
  intro y hy
  have e2 : y = 3 * (y / 3) + y % 3 := by omega
  have hc : y % 3 < 3 := Nat.mod_lt _ (by omega)
  have hk : y / 3 < n := by omega
  have e := dz_srt_eq s s' (fun x => (h.1 x).trans (h'.1 x).symm) (y / 3) hk
  have e3 := dz_K_inj (dz_Q_O3 h hk) (dz_Q_O3 h' hk) e (y % 3) hc
  rw [e2]
  exact e3
theorem dz_Pre_c {g h : Nat → Nat} {n i : Nat} (e : ∀ k, h k = g k) (p : dz_Pre g n i) : dz_Pre h n i := fun a b x y z => by rw [e a, e b]; exact p a b x y z
theorem dz_Row_c {g h : Nat → Nat} {i j : Nat} (e : ∀ k, h k = g k) (p : dz_Row g i j) : dz_Row h i j := fun b x y => by rw [e i, e b]; exact p b x y
/-- three numbers written from p on -/
def dz_w3 (R : Nat → Int32) (p : Nat) (a b c : Int32) : Nat → Int32 := upd (upd (upd R p a) (p + 1) b) (p + 2) c
theorem dz_w3_lo {R : Nat → Int32} {p j : Nat} {a b c : Int32} (h : j < p) : dz_w3 R p a b c j = R j := by
  unfold dz_w3
  rw [pk_un (by omega), pk_un (by omega), pk_un (by omega)]
theorem dz_w3_hi {R : Nat → Int32} {p j : Nat} {a b c : Int32} (h : p + 3 ≤ j) : dz_w3 R p a b c j = R j := by
  unfold dz_w3
  rw [pk_un (by omega), pk_un (by omega), pk_un (by omega)]
theorem dz_w3_0 {R : Nat → Int32} {p : Nat} {a b c : Int32} : dz_w3 R p a b c p = a := by
  unfold dz_w3
  rw [pk_un (by omega), pk_un (by omega), pk_us]
theorem dz_w3_1 {R : Nat → Int32} {p : Nat} {a b c : Int32} : dz_w3 R p a b c (p + 1) = b := by
  unfold dz_w3
  rw [pk_un (by omega), pk_us]
theorem dz_w3_2 {R : Nat → Int32} {p : Nat} {a b c : Int32} : dz_w3 R p a b c (p + 2) = c := by
  unfold dz_w3
  rw [pk_us]
theorem dz_w3_at {R : Nat → Int32} {p : Nat} (f : Nat → Int32) {c : Nat} (h : c < 3) : dz_w3 R p (f 0) (f 1) (f 2) (p + c) = f c := by
  by_cases c0 : c = 0
  · rw [c0]; exact dz_w3_0
  · by_cases c1 : c = 1
    · rw [c1]; exact dz_w3_1
    · have c2 : c = 2 := by omega
      rw [c2]; exact dz_w3_2
theorem dz_w3_ok {R : Nat → Int32} {p : Nat} {a b c : Int32} (h : ∀ j, dz_ok (R j)) (ha : dz_ok a) (hb : dz_ok b) (hc : dz_ok c) (j : Nat) : dz_ok (dz_w3 R p a b c j) := by
  unfold dz_w3 upd
  split
  · exact hc
  · split
    · exact hb
    · split
      · exact ha
      · exact h j
theorem dz_upd_ok {R : Nat → Int32} {p : Nat} {a : Int32} (h : ∀ j, dz_ok (R j)) (ha : dz_ok a) (j : Nat) : dz_ok (upd R p a j) := by
  unfold upd
  split
  · exact ha
  · exact h j
/-- two places exchanged -/
def dz_x1 (R : Nat → Int32) (p q : Nat) : Nat → Int32 := upd (upd R p (R q)) q (R p)
theorem dz_x1_p {R : Nat → Int32} {p q : Nat} (h : p ≠ q) : dz_x1 R p q p = R q := by
  unfold dz_x1
  rw [pk_un h, pk_us]
theorem dz_x1_q {R : Nat → Int32} {p q : Nat} : dz_x1 R p q q = R p := pk_us
theorem dz_x1_o {R : Nat → Int32} {p q j : Nat} (h1 : j ≠ p) (h2 : j ≠ q) : dz_x1 R p q j = R j := by
  unfold dz_x1
  rw [pk_un h2, pk_un h1]
def dz_x3 (R : Nat → Int32) (i j : Nat) : Nat → Int32 := dz_x1 (dz_x1 (dz_x1 R (3 * i) (3 * j)) (3 * i + 1) (3 * j + 1)) (3 * i + 2) (3 * j + 2)
theorem dz_x3_i {R : Nat → Int32} {i j c : Nat} (h : i < j) (hc : c < 3) : dz_x3 R i j (3 * i + c) = R (3 * j + c) := by
  unfold dz_x3
  by_cases c0 : c = 0
  · rw [c0]
    show dz_x1 (dz_x1 (dz_x1 R (3 * i) (3 * j)) (3 * i + 1) (3 * j + 1)) (3 * i + 2) (3 * j + 2) (3 * i) = R (3 * j)
    rw [dz_x1_o (by omega) (by omega), dz_x1_o (by omega) (by omega), dz_x1_p (by omega)]
  · by_cases c1 : c = 1
    · rw [c1, dz_x1_o (by omega) (by omega), dz_x1_p (by omega), dz_x1_o (by omega) (by omega)]
    · have c2 : c = 2 := by omega
      rw [c2, dz_x1_p (by omega), dz_x1_o (by omega) (by omega), dz_x1_o (by omega) (by omega)]
theorem dz_x3_j {R : Nat → Int32} {i j c : Nat} (h : i < j) (hc : c < 3) : dz_x3 R i j (3 * j + c) = R (3 * i + c) := by
  unfold dz_x3
  by_cases c0 : c = 0
  · rw [c0]
    show dz_x1 (dz_x1 (dz_x1 R (3 * i) (3 * j)) (3 * i + 1) (3 * j + 1)) (3 * i + 2) (3 * j + 2) (3 * j) = R (3 * i)
    rw [dz_x1_o (by omega) (by omega), dz_x1_o (by omega) (by omega), dz_x1_q]
  · by_cases c1 : c = 1
    · rw [c1, dz_x1_o (by omega) (by omega), dz_x1_q, dz_x1_o (by omega) (by omega)]
    · have c2 : c = 2 := by omega
      rw [c2, dz_x1_q, dz_x1_o (by omega) (by omega), dz_x1_o (by omega) (by omega)]
theorem dz_x3_k {R : Nat → Int32} {i j k c : Nat} (hc : c < 3) (h1 : k ≠ i) (h2 : k ≠ j) : dz_x3 R i j (3 * k + c) = R (3 * k + c) := by
  unfold dz_x3
  rw [dz_x1_o (by omega) (by omega), dz_x1_o (by omega) (by omega), dz_x1_o (by omega) (by omega)]
