/-! places, conditions, folds over the rows, copies -/
theorem dz_l3 : (3 : Int32) = nI 3 := by decide +kernel
theorem dz_l24 : (24 : Int32) = nI 24 := by decide +kernel
theorem dz_l72 : (72 : Int32) = nI 72 := by decide +kernel
theorem dz_l30 : (30 : Int32) = nI 30 := by decide +kernel
theorem dz_l216 : (216 : Int32) = nI 216 := by decide +kernel
theorem dz_l1 : (1 : Int32) = nI 1 := by decide +kernel
theorem dz_l2 : (2 : Int32) = nI 2 := by decide +kernel
theorem dz_l0 : (0 : Int32) = nI 0 := by decide +kernel
theorem dz_ixX (t r c : Nat) : (nI t * 24 + nI r) * 3 + nI c = nI (72 * t + 3 * r + c) := by
  rw [dz_l24, dz_l3, pk_mul, nI_add, pk_mul, nI_add]
  exact congrArg nI (by omega)
theorem dz_ixY (t r c : Nat) : 72 * nI t + 3 * nI r + nI c = nI (72 * t + 3 * r + c) := by
  rw [dz_l72, dz_l3, pk_mul, pk_mul, nI_add, nI_add]
theorem dz_ixR (i c : Nat) : nI i * 3 + nI c = nI (3 * i + c) := by
  rw [dz_l3, pk_mul, nI_add]
  exact congrArg nI (by omega)
theorem dz_ixS (i c : Nat) : 3 * nI i + nI c = nI (3 * i + c) := by
  rw [dz_l3, pk_mul, nI_add]
/-- what a condition asks of a number x: op is the condition by three -/
def dz_me (op : Nat) (x v : Int32) : Bool := if op = 0 then decide (x = v) else if op = 1 then decide (x < v) else if op = 2 then decide (v < x) else if op = 3 then !(decide (x = v)) else true
theorem dz_me0t {x v : Int32} (h : x = v) : dz_me 0 x v = true := decide_eq_true h
theorem dz_me0f {x v : Int32} (h : ¬ x = v) : dz_me 0 x v = false := decide_eq_false h
theorem dz_me1t {x v : Int32} (h : x < v) : dz_me 1 x v = true := decide_eq_true h
theorem dz_me1f {x v : Int32} (h : ¬ x < v) : dz_me 1 x v = false := decide_eq_false h
theorem dz_me2t {x v : Int32} (h : v < x) : dz_me 2 x v = true := decide_eq_true h
theorem dz_me2f {x v : Int32} (h : ¬ v < x) : dz_me 2 x v = false := decide_eq_false h
theorem dz_me3t {x v : Int32} (h : ¬ x = v) : dz_me 3 x v = true := by
  show (!(decide (x = v))) = true
  rw [decide_eq_false h]; rfl
theorem dz_me3f {x v : Int32} (h : x = v) : dz_me 3 x v = false := by
  show (!(decide (x = v))) = false
  rw [decide_eq_true h]; rfl
theorem dz_me4 {op : Nat} {x v : Int32} (h : 4 ≤ op) : dz_me op x v = true := by
  unfold dz_me
  rw [if_neg (by omega), if_neg (by omega), if_neg (by omega), if_neg (by omega)]
/-- row r of table t meets condition q with v -/
def dz_mt (A : Nat → Int32) (t q : Nat) (v : Int32) (r : Nat) : Bool := dz_me (q / 3) (A (72 * t + 3 * r + q % 3)) v
/-- a value carried over the rows -/
def dz_fd {σ : Type} (f : Nat → σ → σ) (s : σ) : Nat → σ
  | 0 => s
  | n + 1 => f n (dz_fd f s n)
theorem dz_fd_s {σ : Type} (f : Nat → σ → σ) (s : σ) (n : Nat) : dz_fd f s (n + 1) = f n (dz_fd f s n) := rfl
theorem dz_cn_t {p : Nat → Bool} {n : Nat} (h : p n = true) : dz_cn p (n + 1) = dz_cn p n + 1 := by rw [dz_cn_s, if_pos h]
theorem dz_cn_f {p : Nat → Bool} {n : Nat} (h : p n = false) : dz_cn p (n + 1) = dz_cn p n := by
  rw [dz_cn_s, h]
  exact Nat.add_zero _
/-- three numbers moved inside one array, one behind another -/
def dz_c1 (A : Nat → Int32) (p s : Nat) : Nat → Int32 := upd A p (A s)
def dz_mv (A : Nat → Int32) (p s : Nat) : Nat → Int32 := dz_c1 (dz_c1 (dz_c1 A p s) (p + 1) (s + 1)) (p + 2) (s + 2)
theorem dz_c1_ok {A : Nat → Int32} {p s : Nat} (h : ∀ j, dz_ok (A j)) (j : Nat) : dz_ok (dz_c1 A p s j) := dz_upd_ok h (h s) j
theorem dz_mv_ok {A : Nat → Int32} {p s : Nat} (h : ∀ j, dz_ok (A j)) (j : Nat) : dz_ok (dz_mv A p s j) := dz_c1_ok (dz_c1_ok (dz_c1_ok h)) j
theorem dz_mv_o {A : Nat → Int32} {p s j : Nat} (h : j < p ∨ p + 3 ≤ j) : dz_mv A p s j = A j := by
  unfold dz_mv dz_c1
  rw [pk_un (by omega), pk_un (by omega), pk_un (by omega)]
theorem dz_mv_at {A : Nat → Int32} {p s c : Nat} (h : s + 3 ≤ p) (hc : c < 3) : dz_mv A p s (p + c) = A (s + c) := by
  unfold dz_mv dz_c1
  by_cases c0 : c = 0
  · rw [c0]
    show upd _ _ _ p = A s
    rw [pk_un (by omega), pk_un (by omega), pk_us]
  · by_cases c1 : c = 1
    · rw [c1, pk_un (by omega), pk_us, pk_un (by omega)]
    · have c2 : c = 2 := by omega
      rw [c2, pk_us, pk_un (by omega), pk_un (by omega)]
/-- the rows that don't meet, moved to the front: the cells and how many rows -/
def dz_dl (t q : Nat) (v : Int32) (A : Nat → Int32) : Nat → (Nat → Int32) × Nat
  | 0 => (A, 0)
  | r + 1 => if dz_mt (dz_dl t q v A r).1 t q v r = true then dz_dl t q v A r else (dz_mv (dz_dl t q v A r).1 (72 * t + 3 * (dz_dl t q v A r).2) (72 * t + 3 * r), (dz_dl t q v A r).2 + 1)
theorem dz_dl_t {t q : Nat} {v : Int32} {A : Nat → Int32} {r : Nat} (h : dz_mt (dz_dl t q v A r).1 t q v r = true) : dz_dl t q v A (r + 1) = dz_dl t q v A r := if_pos h
theorem dz_dl_f {t q : Nat} {v : Int32} {A : Nat → Int32} {r : Nat} (h : dz_mt (dz_dl t q v A r).1 t q v r = false) : dz_dl t q v A (r + 1) = (dz_mv (dz_dl t q v A r).1 (72 * t + 3 * (dz_dl t q v A r).2) (72 * t + 3 * r), (dz_dl t q v A r).2 + 1) := if_neg (by rw [h]; exact Bool.false_ne_true)
theorem dz_dl_le (t q : Nat) (v : Int32) (A : Nat → Int32) : ∀ r, (dz_dl t q v A r).2 ≤ r := by
  intro r
  induction r with
  | zero => exact Nat.le_refl 0
  | succ r ih =>
    by_cases h : dz_mt (dz_dl t q v A r).1 t q v r = true
    · rw [dz_dl_t h]; omega
    · rw [dz_dl_f (Bool.eq_false_iff.mpr h)]
      show (dz_dl t q v A r).2 + 1 ≤ r + 1
      omega
theorem dz_dl_ok {t q : Nat} {v : Int32} {A : Nat → Int32} (hA : ∀ j, dz_ok (A j)) : ∀ r j, dz_ok ((dz_dl t q v A r).1 j) := by
  intro r
  induction r with
  | zero => exact hA
  | succ r ih =>
    by_cases h : dz_mt (dz_dl t q v A r).1 t q v r = true
    · rw [dz_dl_t h]; exact ih
    · rw [dz_dl_f (Bool.eq_false_iff.mpr h)]
      exact fun j => dz_mv_ok ih j
/-- the rows that meet get x in column c -/
def dz_ud (t q : Nat) (v : Int32) (c : Nat) (x : Int32) (A : Nat → Int32) : Nat → (Nat → Int32)
  | 0 => A
  | r + 1 => if dz_mt (dz_ud t q v c x A r) t q v r = true then upd (dz_ud t q v c x A r) (72 * t + 3 * r + c) x else dz_ud t q v c x A r
theorem dz_ud_t {t q c : Nat} {v x : Int32} {A : Nat → Int32} {r : Nat} (h : dz_mt (dz_ud t q v c x A r) t q v r = true) : dz_ud t q v c x A (r + 1) = upd (dz_ud t q v c x A r) (72 * t + 3 * r + c) x := if_pos h
theorem dz_ud_f {t q c : Nat} {v x : Int32} {A : Nat → Int32} {r : Nat} (h : dz_mt (dz_ud t q v c x A r) t q v r = false) : dz_ud t q v c x A (r + 1) = dz_ud t q v c x A r := if_neg (by rw [h]; exact Bool.false_ne_true)
theorem dz_ud_ok {t q c : Nat} {v x : Int32} {A : Nat → Int32} (hA : ∀ j, dz_ok (A j)) (hx : dz_ok x) : ∀ r j, dz_ok (dz_ud t q v c x A r j) := by
  intro r
  induction r with
  | zero => exact hA
  | succ r ih =>
    by_cases h : dz_mt (dz_ud t q v c x A r) t q v r = true
    · rw [dz_ud_t h]; exact fun j => dz_upd_ok ih hx j
    · rw [dz_ud_f (Bool.eq_false_iff.mpr h)]; exact ih
/-- the first i places of b taken from a -/
def dz_cp (a b : Nat → Int32) (i : Nat) : Nat → Int32 := fun k => if k < i then a k else b k
theorem dz_cp_0 (a b : Nat → Int32) : dz_cp a b 0 = b := funext fun k => if_neg (by omega)
theorem dz_cp_s (a b : Nat → Int32) (i : Nat) : upd (dz_cp a b i) i (a i) = dz_cp a b (i + 1) := by
  funext k
  show (if k = i then a i else if k < i then a k else b k) = if k < i + 1 then a k else b k
  by_cases e : k = i
  · rw [if_pos e, if_pos (by omega), e]
  · by_cases l : k < i
    · rw [if_neg e, if_pos l, if_pos (by omega)]
    · rw [if_neg e, if_neg l, if_neg (by omega)]
theorem dz_cp_p {P : Int32 → Prop} {a b : Nat → Int32} {i : Nat} (ha : ∀ j, P (a j)) (hb : ∀ j, P (b j)) (j : Nat) : P (dz_cp a b i j) := by
  unfold dz_cp
  split
  · exact ha j
  · exact hb j
/-- a size of a table -/
def dz_z (x : Int32) : Prop := ∃ n : Nat, n ≤ 24 ∧ x = nI n
theorem dz_z0 : dz_z 0 := ⟨0, by omega, by decide +kernel⟩
theorem dz_upd_z {Z : Nat → Int32} {p : Nat} {a : Int32} (h : ∀ j, dz_z (Z j)) (ha : dz_z a) (j : Nat) : dz_z (upd Z p a j) := by
  unfold upd
  split
  · exact ha
  · exact h j
