section
/-! rows pasted from the kit's rows: pk_ -/
theorem pk_us {f : Nat → Int32} {k : Nat} {x : Int32} : upd f k x k = x := if_pos rfl
theorem pk_un {f : Nat → Int32} {k j : Nat} {x : Int32} (h : j ≠ k) : upd f k x j = f j := if_neg h
theorem pk_sub {a b : Nat} (h : b ≤ a) : nI a - nI b = nI (a - b) := by
  obtain ⟨c, rfl⟩ : ∃ c, a = c + b := ⟨a - b, by omega⟩
  rw [← nI_add, Int32.add_sub_cancel, Nat.add_sub_cancel]
theorem pk_m1 (n : Nat) : nI (n + 1) + (-1) = nI n := by
  rw [← nI_1, Int32.add_assoc, show (1 : Int32) + (-1) = 0 from rfl, Int32.add_zero]
theorem pk_mul (a b : Nat) : nI a * nI b = nI (a * b) := (Int32.ofNat_mul a b).symm
theorem pk_div {a d : Nat} (ha : a < 2 ^ 31) (h0 : 0 < d) (hd : d < 2 ^ 31) : nI a / nI d = nI (a / d) := by
  apply Int32.toInt_inj.mp
  rw [lg_idiv_nonneg (by rw [nI_toInt ha]; omega) (by rw [nI_toInt hd]; omega), nI_toInt ha, nI_toInt hd, nI_toInt (Nat.lt_of_le_of_lt (Nat.div_le_self a d) ha)]
  first | rfl | exact (Int.natCast_ediv _ _).symm
theorem pk_rem {a d : Nat} (ha : a < 2 ^ 31) (h0 : 0 < d) (hd : d < 2 ^ 31) : nI a - nI a / nI d * nI d = nI (a % d) := by
  rw [pk_div ha h0 hd, pk_mul, pk_sub (Nat.div_mul_le_self a d)]
  exact congrArg nI (by have := Nat.div_add_mod' a d; omega)
theorem pk_ix (x : Int32) {n : Nat} (hn : n < 2 ^ 31) : x < 0 ∨ nI n ≤ x ∨ ∃ j : Nat, j < n ∧ x = nI j := by
  by_cases h : x < 0
  · exact Or.inl h
  · obtain ⟨j, hj, rfl⟩ := nI_of h
    by_cases h2 : j < n
    · exact Or.inr (Or.inr ⟨j, h2, rfl⟩)
    · exact Or.inr (Or.inl (nI_le (by omega) hj))
theorem pk_le {x y : Int32} {A B : Prop} (a b : Nat) (f : a ≤ b → A) (g : b < a → B) (hx : x = nI a := by rfl) (hy : y = nI b := by rfl) (ha : a < 2 ^ 31 := by omega) (hb : b < 2 ^ 31 := by omega) : (x ≤ y → A) ∧ (¬ x ≤ y → B) := by
  subst hx hy
  rw [nI_leI ha hb]
  exact ⟨f, fun z => g (by omega)⟩
theorem pk_lt {x y : Int32} {A B : Prop} (a b : Nat) (f : a < b → A) (g : b ≤ a → B) (hx : x = nI a := by rfl) (hy : y = nI b := by rfl) (ha : a < 2 ^ 31 := by omega) (hb : b < 2 ^ 31 := by omega) : (x < y → A) ∧ (¬ x < y → B) := by
  subst hx hy
  rw [nI_ltI ha hb]
  exact ⟨f, fun z => g (by omega)⟩
theorem pk_eq {x y : Int32} {A B : Prop} (a b : Nat) (f : a = b → A) (g : a ≠ b → B) (hx : x = nI a := by rfl) (hy : y = nI b := by rfl) (ha : a < 2 ^ 31 := by omega) (hb : b < 2 ^ 31 := by omega) : (x = y → A) ∧ (¬ x = y → B) := by
  subst hx hy
  rw [nI_eq ha hb]
  exact ⟨f, g⟩
theorem pk_in {x : Int32} (n N : Nat) (h : n < N) (hx : x = nI n := by rfl) (hN : N < 2 ^ 31 := by omega) : vp_in x N := by
  subst hx
  exact vp_in_nI h hN
theorem pk_cl {x : Int32} (n : Nat) (hx : x = nI n := by rfl) (h : n < 2 ^ 31 := by omega) : x.toNatClampNeg = n := by
  subst hx
  exact nI_clamp h
/-! counts, sorted keys, an insertion, an exchange, the numbers that a column holds -/
/-- how many j below n satisfy p -/
def dz_cn (p : Nat → Bool) : Nat → Nat
  | 0 => 0
  | n + 1 => dz_cn p n + (if p n = true then 1 else 0)
theorem dz_cn_s (p : Nat → Bool) (n : Nat) : dz_cn p (n + 1) = dz_cn p n + (if p n = true then 1 else 0) := rfl
theorem dz_cn_c {p q : Nat → Bool} : ∀ n, (∀ j, j < n → p j = q j) → dz_cn p n = dz_cn q n := by
  intro n
  induction n with
  | zero => intro _; rfl
  | succ n ih =>
    intro h
    rw [dz_cn_s, dz_cn_s, ih (fun j hj => h j (by omega)), h n (by omega)]
theorem dz_cn_le (p : Nat → Bool) : ∀ n, dz_cn p n ≤ n := by
  intro n
  induction n with
  | zero => exact Nat.le_refl 0
  | succ n ih => rw [dz_cn_s]; split <;> omega
theorem dz_cn_mono (p : Nat → Bool) {a : Nat} : ∀ b, a ≤ b → dz_cn p a ≤ dz_cn p b := by
  intro b
  induction b with
  | zero => intro h; have e : a = 0 := by omega
            rw [e]; exact Nat.le_refl _
  | succ b ih =>
    intro h
    by_cases e : a = b + 1
    · rw [e]; exact Nat.le_refl _
    · have := ih (by omega)
      rw [dz_cn_s]; omega
theorem dz_cn_all {p : Nat → Bool} : ∀ n i, i ≤ n → (∀ j, j < i → p j = true) → i ≤ dz_cn p n := by
  intro n
  induction n with
  | zero => intro i hi _; omega
  | succ n ih =>
    intro i hi h
    rw [dz_cn_s]
    by_cases e : i = n + 1
    · have h1 := ih n (Nat.le_refl n) (fun j hj => h j (by omega))
      rw [if_pos (h n (by omega))]
      omega
    · have := ih i (by omega) h
      omega
theorem dz_cn_no {p : Nat → Bool} {i : Nat} : ∀ n, (∀ j, i ≤ j → j < n → p j = false) → dz_cn p n ≤ i := by
  intro n
  induction n with
  | zero => intro _; exact Nat.zero_le _
  | succ n ih =>
    intro h
    rw [dz_cn_s]
    by_cases e : n < i
    · have := dz_cn_le p n
      split <;> omega
    · rw [h n (by omega) (by omega)]
      have := ih (fun j h1 h2 => h j h1 (by omega))
      simp only [Bool.false_eq_true, if_false]
      omega
/-- nothing is counted in between -/
theorem dz_cn_gap {p : Nat → Bool} {a : Nat} : ∀ b, a ≤ b → (∀ j, a ≤ j → j < b → p j = false) → dz_cn p b = dz_cn p a := by
  intro b
  induction b with
  | zero => intro h _; have e : a = 0 := by omega
            rw [e]
  | succ b ih =>
    intro h hp
    by_cases e : a = b + 1
    · rw [e]
    · rw [dz_cn_s, ih (by omega) (fun j h1 h2 => hp j h1 (by omega)), hp b (by omega) (by omega)]
      simp only [Bool.false_eq_true, if_false, Nat.add_zero]
/-- keys below x -/
def dz_bl (g : Nat → Nat) (x : Nat) : Nat → Bool := fun j => decide (g j < x)
theorem dz_bl_t {g : Nat → Nat} {x j : Nat} (h : g j < x) : dz_bl g x j = true := decide_eq_true h
theorem dz_bl_f {g : Nat → Nat} {x j : Nat} (h : ¬ g j < x) : dz_bl g x j = false := decide_eq_false h
theorem dz_bl_i (g : Nat → Nat) (x j : Nat) : (if dz_bl g x j = true then 1 else 0) = (if g j < x then 1 else (0 : Nat)) := by
  by_cases h : g j < x
  · rw [dz_bl_t h, if_pos rfl, if_pos h]
  · rw [dz_bl_f h, if_neg Bool.false_ne_true, if_neg h]
def dz_Srt (g : Nat → Nat) (n : Nat) : Prop := ∀ a b, a < b → b < n → g a ≤ g b
theorem dz_srt_ge {g h : Nat → Nat} {n : Nat} (hg : dz_Srt g n) (hh : dz_Srt h n) (e : ∀ x, dz_cn (dz_bl g x) n = dz_cn (dz_bl h x) n) : ∀ i, i < n → h i ≤ g i := by
  intro i hi
  apply Nat.le_of_not_lt
  intro hlt
  have h1 : i + 1 ≤ dz_cn (dz_bl g (g i + 1)) n := by
    refine dz_cn_all n (i + 1) (by omega) (fun j hj => dz_bl_t ?_)
    by_cases ej : j = i
    · rw [ej]; omega
    · have := hg j i (by omega) hi
      omega
  have h2 : dz_cn (dz_bl h (g i + 1)) n ≤ i := by
    refine dz_cn_no n (fun j h3 h4 => dz_bl_f ?_)
    by_cases ej : j = i
    · rw [ej]; omega
    · have := hh i j (by omega) h4
      omega
  have := e (g i + 1)
  omega
theorem dz_srt_eq {g h : Nat → Nat} {n : Nat} (hg : dz_Srt g n) (hh : dz_Srt h n) (e : ∀ x, dz_cn (dz_bl g x) n = dz_cn (dz_bl h x) n) (i : Nat) (hi : i < n) : g i = h i :=
  Nat.le_antisymm (dz_srt_ge hh hg (fun x => (e x).symm) i hi) (dz_srt_ge hg hh e i hi)
/-- key k put in at p -/
def dz_ins (g : Nat → Nat) (p k : Nat) : Nat → Nat := fun j => if j < p then g j else if j = p then k else g (j - 1)
theorem dz_ins_lo {g : Nat → Nat} {p k j : Nat} (h : j < p) : dz_ins g p k j = g j := if_pos h
theorem dz_ins_at {g : Nat → Nat} {p k : Nat} : dz_ins g p k p = k := by
  show (if p < p then g p else if p = p then k else g (p - 1)) = k
  rw [if_neg (Nat.lt_irrefl p), if_pos rfl]
theorem dz_ins_hi {g : Nat → Nat} {p k j : Nat} (h : p ≤ j) : dz_ins g p k (j + 1) = g j := by
  show (if j + 1 < p then g (j + 1) else if j + 1 = p then k else g (j + 1 - 1)) = g j
  rw [if_neg (by omega), if_neg (by omega), Nat.add_sub_cancel]
theorem dz_ins_cn (g : Nat → Nat) (p k x : Nat) : ∀ d, dz_cn (dz_bl (dz_ins g p k) x) (p + d + 1) = dz_cn (dz_bl g x) (p + d) + (if k < x then 1 else 0) := by
  intro d
  induction d with
  | zero =>
    rw [Nat.add_zero, dz_cn_s, dz_bl_i, dz_ins_at]
    rw [dz_cn_c (p := dz_bl (dz_ins g p k) x) (q := dz_bl g x) p (fun j hj => by show decide (dz_ins g p k j < x) = decide (g j < x); rw [dz_ins_lo hj])]
    rfl
  | succ d ih =>
    rw [show p + (d + 1) = (p + d) + 1 from rfl, dz_cn_s (dz_bl (dz_ins g p k) x), dz_bl_i, dz_ins_hi (by omega), ih, dz_cn_s (dz_bl g x), dz_bl_i]
    omega
theorem dz_ins_srt {g : Nat → Nat} {p k m : Nat} (hp : p ≤ m) (hg : dz_Srt g m) (hl : ∀ j, j < p → g j ≤ k) (hh : ∀ j, p ≤ j → j < m → k ≤ g j) : dz_Srt (dz_ins g p k) (m + 1) := by
  intro a b hab hb
  by_cases h1 : b < p
  · rw [dz_ins_lo h1, dz_ins_lo (by omega)]
    exact hg a b hab (by omega)
  · by_cases h2 : b = p
    · subst h2
      rw [dz_ins_at, dz_ins_lo hab]
      exact hl a hab
    · obtain ⟨b', rfl⟩ : ∃ b', b = b' + 1 := ⟨b - 1, by omega⟩
      rw [dz_ins_hi (by omega)]
      by_cases h3 : a < p
      · rw [dz_ins_lo h3]
        by_cases h4 : a = b'
        · rw [h4]; exact Nat.le_refl _
        · exact hg a b' (by omega) (by omega)
      · by_cases h4 : a = p
        · subst h4
          rw [dz_ins_at]
          exact hh b' (by omega) (by omega)
        · obtain ⟨a', rfl⟩ : ∃ a', a = a' + 1 := ⟨a - 1, by omega⟩
          rw [dz_ins_hi (by omega)]
          exact hg a' b' (by omega) (by omega)
/-- key k written at i -/
def dz_up (g : Nat → Nat) (i k : Nat) : Nat → Nat := fun j => if j = i then k else g j
theorem dz_up_s {g : Nat → Nat} {i k : Nat} : dz_up g i k i = k := if_pos rfl
theorem dz_up_n {g : Nat → Nat} {i k j : Nat} (h : j ≠ i) : dz_up g i k j = g j := if_neg h
theorem dz_up_cn (g : Nat → Nat) (i k x : Nat) : ∀ n, i < n → dz_cn (dz_bl (dz_up g i k) x) n + (if g i < x then 1 else 0) = dz_cn (dz_bl g x) n + (if k < x then 1 else 0) := by
  intro n
  induction n with
  | zero => intro h; omega
  | succ n ih =>
    intro h
    rw [dz_cn_s, dz_cn_s, dz_bl_i, dz_bl_i]
    by_cases e : i = n
    · subst e
      rw [dz_up_s, dz_cn_c (p := dz_bl (dz_up g i k) x) (q := dz_bl g x) i (fun j hj => by show decide (dz_up g i k j < x) = decide (g j < x); rw [dz_up_n (by omega)])]
      omega
    · rw [dz_up_n (by omega)]
      have := ih (by omega)
      omega
/-- the keys at i and j change places -/
def dz_sw (g : Nat → Nat) (i j : Nat) : Nat → Nat := dz_up (dz_up g i (g j)) j (g i)
theorem dz_sw_i {g : Nat → Nat} {i j : Nat} (h : i ≠ j) : dz_sw g i j i = g j := by
  show dz_up (dz_up g i (g j)) j (g i) i = g j
  rw [dz_up_n h, dz_up_s]
theorem dz_sw_j {g : Nat → Nat} {i j : Nat} : dz_sw g i j j = g i := dz_up_s
theorem dz_sw_o {g : Nat → Nat} {i j k : Nat} (h1 : k ≠ i) (h2 : k ≠ j) : dz_sw g i j k = g k := by
  show dz_up (dz_up g i (g j)) j (g i) k = g k
  rw [dz_up_n h2, dz_up_n h1]
theorem dz_sw_cn (g : Nat → Nat) {i j n : Nat} (hi : i < n) (hj : j < n) (h : i ≠ j) (x : Nat) : dz_cn (dz_bl (dz_sw g i j) x) n = dz_cn (dz_bl g x) n := by
  have h1 := dz_up_cn (dz_up g i (g j)) j (g i) x n hj
  have h2 := dz_up_cn g i (g j) x n hi
  rw [dz_up_n (Ne.symm h)] at h1
  have h3 : dz_cn (dz_bl (dz_sw g i j) x) n = dz_cn (dz_bl (dz_up (dz_up g i (g j)) j (g i)) x) n := rfl
  omega
/-- the exchange sort: the places below i hold the least, in order -/
def dz_Pre (g : Nat → Nat) (n i : Nat) : Prop := ∀ a b, a < i → a < b → b < n → g a ≤ g b
def dz_Row (g : Nat → Nat) (i j : Nat) : Prop := ∀ b, i < b → b < j → g i ≤ g b
theorem dz_pre_srt {g : Nat → Nat} {n : Nat} (h : dz_Pre g n n) : dz_Srt g n := fun a b hab hb => h a b (by omega) hab hb
theorem dz_pre_s {g : Nat → Nat} {n i : Nat} (h : dz_Pre g n i) (hr : dz_Row g i n) : dz_Pre g n (i + 1) := by
  intro a b ha hab hb
  by_cases e : a = i
  · rw [e]; exact hr b (by omega) hb
  · exact h a b (by omega) hab hb
theorem dz_sw_pre {g : Nat → Nat} {n i j : Nat} (h : dz_Pre g n i) (hij : i < j) (hj : j < n) : dz_Pre (dz_sw g i j) n i := by
  intro a b ha hab hb
  rw [dz_sw_o (k := a) (by omega) (by omega)]
  by_cases e1 : b = i
  · rw [e1, dz_sw_i (by omega)]; exact h a j ha (by omega) hj
  · by_cases e2 : b = j
    · rw [e2, dz_sw_j]; exact h a i ha ha (by omega)
    · rw [dz_sw_o e1 e2]; exact h a b ha hab hb
theorem dz_sw_row {g : Nat → Nat} {i j : Nat} (h : dz_Row g i j) (hij : i < j) (hlt : g j < g i) : dz_Row (dz_sw g i j) i (j + 1) := by
  intro b h1 h2
  rw [dz_sw_i (by omega)]
  by_cases e : b = j
  · rw [e, dz_sw_j]; omega
  · rw [dz_sw_o (by omega) e]
    have := h b h1 (by omega)
    omega
theorem dz_no_row {g : Nat → Nat} {i j : Nat} (h : dz_Row g i j) (hge : ¬ g j < g i) : dz_Row g i (j + 1) := by
  intro b h1 h2
  by_cases e : b = j
  · rw [e]; omega
  · exact h b h1 (by omega)
/-- the numbers among f 0 .. f (n - 1) -/
def dz_hd (f : Nat → Nat) : Nat → Nat → Bool
  | 0, _ => false
  | n + 1, k => dz_hd f n k || decide (f n = k)
theorem dz_hd_t {f : Nat → Nat} {k : Nat} : ∀ n r, r < n → f r = k → dz_hd f n k = true := by
  intro n
  induction n with
  | zero => intro r h; omega
  | succ n ih =>
    intro r h e
    show (dz_hd f n k || decide (f n = k)) = true
    by_cases c : r = n
    · subst c
      rw [decide_eq_true e, Bool.or_true]
    · rw [ih r (by omega) e, Bool.true_or]
theorem dz_hd_f {f : Nat → Nat} {k : Nat} : ∀ n, (∀ r, r < n → f r ≠ k) → dz_hd f n k = false := by
  intro n
  induction n with
  | zero => intro _; rfl
  | succ n ih =>
    intro h
    show (dz_hd f n k || decide (f n = k)) = false
    rw [ih (fun r hr => h r (by omega)), decide_eq_false (h n (by omega)), Bool.or_false]
theorem dz_or1 (p : Nat → Bool) (k0 : Nat) : ∀ m, dz_cn (fun k => p k || decide (k0 = k)) m ≤ dz_cn p m + (if k0 < m then 1 else 0) := by
  intro m
  induction m with
  | zero => exact Nat.zero_le _
  | succ m ih =>
    rw [dz_cn_s, dz_cn_s]
    by_cases e : k0 = m
    · subst e
      rw [if_neg (Nat.lt_irrefl k0)] at ih
      rw [if_pos (Nat.lt_succ_self k0)]
      split <;> split <;> omega
    · rw [decide_eq_false e, Bool.or_false]
      by_cases c : k0 < m
      · have e2 : (if k0 < m + 1 then 1 else 0) = (1 : Nat) := if_pos (by omega)
        rw [if_pos c] at ih
        rw [e2]
        omega
      · have e2 : (if k0 < m + 1 then 1 else 0) = (0 : Nat) := if_neg (by omega)
        rw [if_neg c] at ih
        rw [e2]
        omega
theorem dz_hd_le (f : Nat → Nat) (m : Nat) : ∀ n, dz_cn (dz_hd f n) m ≤ n := by
  intro n
  induction n with
  | zero => exact dz_cn_no m (fun _ _ _ => rfl)
  | succ n ih =>
    have h : dz_cn (dz_hd f (n + 1)) m ≤ dz_cn (dz_hd f n) m + (if f n < m then 1 else 0) := dz_or1 (dz_hd f n) (f n) m
    split at h <;> omega
/-- q is the least number held that isn't below p; 199 when there is none -/
def dz_Nx (f : Nat → Nat) (n p q : Nat) : Prop := p ≤ q ∧ q ≤ 199 ∧ (∀ r, r < n → p ≤ f r → q ≤ f r) ∧ (q < 199 → ∃ r, r < n ∧ f r = q)
theorem dz_nx_gap {f : Nat → Nat} {n p q : Nat} (h : dz_Nx f n p q) : dz_cn (dz_hd f n) q = dz_cn (dz_hd f n) p := by
  refine dz_cn_gap q h.1 (fun j h1 h2 => dz_hd_f n (fun r hr e => ?_))
  have := h.2.2.1 r hr (by omega)
  omega
theorem dz_nx_hit {f : Nat → Nat} {n p q : Nat} (h : dz_Nx f n p q) (hq : q < 199) : dz_hd f n q = true := by
  obtain ⟨r, hr, e⟩ := h.2.2.2 hq
  exact dz_hd_t n r hr e
end
section
/-! numbers from -99 to 99, rows as keys, the result as a set of keys -/
def dz_ok (x : Int32) : Prop := -99 ≤ x.toInt ∧ x.toInt ≤ 99
def dz_d (x : Int32) : Nat := (x.toInt + 99).toNat
theorem dz_d_i {x : Int32} (h : dz_ok x) : x.toInt = (dz_d x : Int) - 99 := by
  have h1 := h.1
  have h2 := h.2
  unfold dz_d
  omega
theorem dz_d_lt {x : Int32} (h : dz_ok x) : dz_d x < 199 := by
  have h1 := h.1
  have h2 := h.2
  unfold dz_d
  omega
theorem dz_lt {x y : Int32} (hx : dz_ok x) (hy : dz_ok y) : x < y ↔ dz_d x < dz_d y := by
  rw [Int32.lt_iff_toInt_lt, dz_d_i hx, dz_d_i hy]
  omega
theorem dz_eq {x y : Int32} (hx : dz_ok x) (hy : dz_ok y) : x = y ↔ dz_d x = dz_d y := by
  rw [← Int32.toInt_inj, dz_d_i hx, dz_d_i hy]
  omega
theorem dz_ok0 : dz_ok 0 := by
  have h : (0 : Int32).toInt = 0 := by decide
  unfold dz_ok
  rw [h]
  omega
theorem dz_m99 : (-99 : Int32).toInt = -99 := by decide
theorem dz_p99 : (99 : Int32).toInt = 99 := by decide
theorem dz_p100 : (100 : Int32).toInt = 100 := by decide
theorem dz_m100 : (-100 : Int32).toInt = -100 := by decide
/-- the number -99 + k -/
def dz_nv (k : Nat) : Int32 := nI k + (-99)
theorem dz_nv_i {k : Nat} (h : k < 1000) : (dz_nv k).toInt = (k : Int) - 99 := by
  unfold dz_nv
  rw [Int32.toInt_add, nI_toInt (by omega), dz_m99]
  exact (Int.bmod_eq_of_le (by omega) (by omega)).trans (by omega)
theorem dz_nv_0 : dz_nv 0 = -99 := by decide +kernel
theorem dz_nv_199 : dz_nv 199 = 100 := by decide +kernel
theorem dz_nv_s (k : Nat) : dz_nv k + 1 = dz_nv (k + 1) := by
  unfold dz_nv
  rw [Int32.add_assoc, Int32.add_comm (-99) 1, ← Int32.add_assoc, nI_1]
theorem dz_nv_ok {k : Nat} (h : k < 199) : dz_ok (dz_nv k) := by
  unfold dz_ok
  rw [dz_nv_i (by omega)]
  omega
theorem dz_nv_d {k : Nat} (h : k < 1000) : dz_d (dz_nv k) = k := by
  unfold dz_d
  rw [dz_nv_i h]
  omega
theorem dz_nv_le {k : Nat} (h : k < 1000) : dz_nv k ≤ 99 ↔ k < 199 := by
  rw [Int32.le_iff_toInt_le, dz_nv_i h, dz_p99]
  omega
theorem dz_nv_lt {k : Nat} (h : k < 1000) : dz_nv k < 100 ↔ k < 199 := by
  rw [Int32.lt_iff_toInt_lt, dz_nv_i h, dz_p100]
  omega
theorem dz_nv_of {x : Int32} (h : dz_ok x) : x = dz_nv (dz_d x) := by
  have h1 := dz_d_lt h
  rw [← Int32.toInt_inj, dz_nv_i (by omega)]
  exact dz_d_i h
theorem dz_is_ok {x : Int32} (h1 : -99 ≤ x) (h2 : x ≤ 99) : dz_ok x := by
  rw [Int32.le_iff_toInt_le, dz_m99] at h1
  rw [Int32.le_iff_toInt_le, dz_p99] at h2
  exact ⟨h1, h2⟩
/-- a row's key: the column of the order, then the columns from the left -/
def dz_K (a : Nat → Int32) (o : Nat) : Nat := ((dz_d (a o) * 199 + dz_d (a 0)) * 199 + dz_d (a 1)) * 199 + dz_d (a 2)
theorem dz_K_def (a : Nat → Int32) (o : Nat) : dz_K a o = ((dz_d (a o) * 199 + dz_d (a 0)) * 199 + dz_d (a 1)) * 199 + dz_d (a 2) := rfl
theorem dz_K_n1 {xo x0 x1 x2 yo y0 y1 y2 : Nat} (a0 : x0 < 199) (a1 : x1 < 199) (a2 : x2 < 199) (b0 : y0 < 199) (b1 : y1 < 199) (b2 : y2 < 199) (h : xo ≠ yo) : xo < yo ↔ ((xo * 199 + x0) * 199 + x1) * 199 + x2 < ((yo * 199 + y0) * 199 + y1) * 199 + y2 := by omega
theorem dz_K_n2 {xo x0 x1 x2 y0 y1 y2 : Nat} (a1 : x1 < 199) (a2 : x2 < 199) (b1 : y1 < 199) (b2 : y2 < 199) (h : x0 ≠ y0) : x0 < y0 ↔ ((xo * 199 + x0) * 199 + x1) * 199 + x2 < ((xo * 199 + y0) * 199 + y1) * 199 + y2 := by omega
theorem dz_K_n3 {xo x0 x1 x2 y1 y2 : Nat} (a2 : x2 < 199) (b2 : y2 < 199) (h : x1 ≠ y1) : x1 < y1 ↔ ((xo * 199 + x0) * 199 + x1) * 199 + x2 < ((xo * 199 + x0) * 199 + y1) * 199 + y2 := by omega
theorem dz_K_n4 {xo x0 x1 x2 y2 : Nat} : x2 < y2 ↔ ((xo * 199 + x0) * 199 + x1) * 199 + x2 < ((xo * 199 + x0) * 199 + x1) * 199 + y2 := by omega
theorem dz_K_n5 {xo x0 x1 x2 yo y0 y1 y2 : Nat} (a0 : x0 < 199) (a1 : x1 < 199) (a2 : x2 < 199) (b0 : y0 < 199) (b1 : y1 < 199) (b2 : y2 < 199) (h : ((xo * 199 + x0) * 199 + x1) * 199 + x2 = ((yo * 199 + y0) * 199 + y1) * 199 + y2) : x0 = y0 ∧ x1 = y1 ∧ x2 = y2 := by
  refine ⟨?_, ?_, ?_⟩ <;> omega
def dz_O3 (a : Nat → Int32) : Prop := ∀ c, c < 3 → dz_ok (a c)
theorem dz_K_o {a b : Nat → Int32} {o : Nat} (ha : dz_O3 a) (hb : dz_O3 b) (ho : o < 3) (hne : ¬ a o = b o) : a o < b o ↔ dz_K a o < dz_K b o := by
  rw [dz_eq (ha o ho) (hb o ho)] at hne
  rw [dz_lt (ha o ho) (hb o ho), dz_K_def, dz_K_def]
  exact dz_K_n1 (dz_d_lt (ha 0 (by omega))) (dz_d_lt (ha 1 (by omega))) (dz_d_lt (ha 2 (by omega))) (dz_d_lt (hb 0 (by omega))) (dz_d_lt (hb 1 (by omega))) (dz_d_lt (hb 2 (by omega))) hne
theorem dz_K_0 {a b : Nat → Int32} {o : Nat} (ha : dz_O3 a) (hb : dz_O3 b) (he : a o = b o) (hne : ¬ a 0 = b 0) : a 0 < b 0 ↔ dz_K a o < dz_K b o := by
  rw [dz_eq (ha 0 (by omega)) (hb 0 (by omega))] at hne
  rw [dz_lt (ha 0 (by omega)) (hb 0 (by omega)), dz_K_def, dz_K_def, he]
  exact dz_K_n2 (dz_d_lt (ha 1 (by omega))) (dz_d_lt (ha 2 (by omega))) (dz_d_lt (hb 1 (by omega))) (dz_d_lt (hb 2 (by omega))) hne
theorem dz_K_1 {a b : Nat → Int32} {o : Nat} (ha : dz_O3 a) (hb : dz_O3 b) (he : a o = b o) (e0 : a 0 = b 0) (hne : ¬ a 1 = b 1) : a 1 < b 1 ↔ dz_K a o < dz_K b o := by
  rw [dz_eq (ha 1 (by omega)) (hb 1 (by omega))] at hne
  rw [dz_lt (ha 1 (by omega)) (hb 1 (by omega)), dz_K_def, dz_K_def, he, e0]
  exact dz_K_n3 (dz_d_lt (ha 2 (by omega))) (dz_d_lt (hb 2 (by omega))) hne
theorem dz_K_2 {a b : Nat → Int32} {o : Nat} (ha : dz_O3 a) (hb : dz_O3 b) (he : a o = b o) (e0 : a 0 = b 0) (e1 : a 1 = b 1) : a 2 < b 2 ↔ dz_K a o < dz_K b o := by
  rw [dz_lt (ha 2 (by omega)) (hb 2 (by omega)), dz_K_def, dz_K_def, he, e0, e1]
  exact dz_K_n4
theorem dz_K_e {a b : Nat → Int32} {o : Nat} (he : a o = b o) (e0 : a 0 = b 0) (e1 : a 1 = b 1) (e2 : a 2 = b 2) : ¬ dz_K a o < dz_K b o := by
  rw [dz_K_def, dz_K_def, he, e0, e1, e2]
  exact Nat.lt_irrefl _
theorem dz_K_c {a b : Nat → Int32} {o : Nat} (ho : o < 3) (h : ∀ c, c < 3 → a c = b c) : dz_K a o = dz_K b o := by
  rw [dz_K_def, dz_K_def, h o ho, h 0 (by omega), h 1 (by omega), h 2 (by omega)]
theorem dz_K_inj {a b : Nat → Int32} {o : Nat} (ha : dz_O3 a) (hb : dz_O3 b) (h : dz_K a o = dz_K b o) : ∀ c, c < 3 → a c = b c := by
  rw [dz_K_def, dz_K_def] at h
  have e := dz_K_n5 (dz_d_lt (ha 0 (by omega))) (dz_d_lt (ha 1 (by omega))) (dz_d_lt (ha 2 (by omega))) (dz_d_lt (hb 0 (by omega))) (dz_d_lt (hb 1 (by omega))) (dz_d_lt (hb 2 (by omega))) h
  intro c hc
  rw [dz_eq (ha c hc) (hb c hc)]
  by_cases c0 : c = 0
  · rw [c0]; exact e.1
  · by_cases c1 : c = 1
    · rw [c1]; exact e.2.1
    · have c2 : c = 2 := by omega
      rw [c2]; exact e.2.2
/-- the key of row i of the result -/
def dz_ky (R : Nat → Int32) (o i : Nat) : Nat := dz_K (fun c => R (3 * i + c)) o
theorem dz_ky_c {R : Nat → Int32} {a : Nat → Int32} {o i : Nat} (ho : o < 3) (h : ∀ c, c < 3 → R (3 * i + c) = a c) : dz_ky R o i = dz_K a o := dz_K_c ho h
theorem dz_ky_e {R R' : Nat → Int32} {o i j : Nat} (ho : o < 3) (h : ∀ c, c < 3 → R (3 * i + c) = R' (3 * j + c)) : dz_ky R o i = dz_ky R' o j := dz_K_c ho h
theorem dz_bl_c {g h : Nat → Nat} {x j : Nat} (e : g j = h j) : dz_bl g x j = dz_bl h x j := by
  show decide (g j < x) = decide (h j < x)
  rw [e]
/-- the first n rows of R hold, below each key x, T x rows; all their numbers are numbers -/
def dz_Q (R : Nat → Int32) (o n : Nat) (T : Nat → Nat) : Prop := (∀ x, dz_cn (dz_bl (dz_ky R o) x) n = T x) ∧ ∀ j, j < 3 * n → dz_ok (R j)
theorem dz_Q_O3 {R : Nat → Int32} {o n i : Nat} {T : Nat → Nat} (h : dz_Q R o n T) (hi : i < n) : dz_O3 (fun c => R (3 * i + c)) := fun c hc => h.2 (3 * i + c) (by omega)
theorem dz_Q_0 (R : Nat → Int32) (o : Nat) : dz_Q R o 0 (fun _ => 0) := ⟨fun _ => rfl, fun j hj => absurd hj (by omega)⟩
theorem dz_Q_T {R : Nat → Int32} {o n : Nat} {T T' : Nat → Nat} (h : dz_Q R o n T) (e : ∀ x, T x = T' x) : dz_Q R o n T' := ⟨fun x => (h.1 x).trans (e x), h.2⟩
theorem dz_Q_add {R R' a : Nat → Int32} {o m : Nat} {T : Nat → Nat} (ho : o < 3) (h : dz_Q R o m T) (h1 : ∀ j, j < 3 * m → R' j = R j) (h2 : ∀ c, c < 3 → R' (3 * m + c) = a c) (ha : dz_O3 a) : dz_Q R' o (m + 1) (fun x => T x + (if dz_K a o < x then 1 else 0)) := by
  constructor
  · intro x
    rw [dz_cn_s, dz_bl_i, dz_ky_c ho h2]
    rw [dz_cn_c (p := dz_bl (dz_ky R' o) x) (q := dz_bl (dz_ky R o) x) m (fun j hj => dz_bl_c (dz_ky_e ho (fun c hc => h1 (3 * j + c) (by omega)))), h.1 x]
  · intro j hj
    by_cases e : j < 3 * m
    · rw [h1 j e]; exact h.2 j e
    · have e2 : j = 3 * m + (j - 3 * m) := by omega
      rw [e2, h2 (j - 3 * m) (by omega)]
      exact ha _ (by omega)
theorem dz_Q_ins {R R' a : Nat → Int32} {o m p : Nat} {T : Nat → Nat} (ho : o < 3) (h : dz_Q R o m T) (hs : dz_Srt (dz_ky R o) m) (hp : p ≤ m) (h1 : ∀ j, j < 3 * p → R' j = R j) (h2 : ∀ c, c < 3 → R' (3 * p + c) = a c) (h3 : ∀ j, 3 * p ≤ j → j < 3 * m → R' (j + 3) = R j) (ha : dz_O3 a) (hl : ∀ j, j < p → dz_ky R o j ≤ dz_K a o) (hh : ∀ j, p ≤ j → j < m → dz_K a o < dz_ky R o j) : dz_Q R' o (m + 1) (fun x => T x + (if dz_K a o < x then 1 else 0)) ∧ dz_Srt (dz_ky R' o) (m + 1) := by
  have e : ∀ j, j < m + 1 → dz_ky R' o j = dz_ins (dz_ky R o) p (dz_K a o) j := by
    intro j hj
    by_cases c1 : j < p
    · rw [dz_ins_lo c1]
      exact dz_ky_e ho (fun c hc => h1 (3 * j + c) (by omega))
    · by_cases c2 : j = p
      · rw [c2, dz_ins_at]
        exact dz_ky_c ho h2
      · obtain ⟨i, rfl⟩ : ∃ i, j = i + 1 := ⟨j - 1, by omega⟩
        rw [dz_ins_hi (by omega)]
        refine dz_ky_e ho (fun c hc => ?_)
        have e3 := h3 (3 * i + c) (by omega) (by omega)
        rw [← e3]
        exact congrArg R' (by omega)
  refine ⟨⟨?_, ?_⟩, ?_⟩
  · intro x
    rw [dz_cn_c (p := dz_bl (dz_ky R' o) x) (q := dz_bl (dz_ins (dz_ky R o) p (dz_K a o)) x) (m + 1) (fun j hj => dz_bl_c (e j hj))]
    obtain ⟨d, rfl⟩ : ∃ d, m = p + d := ⟨m - p, by omega⟩
    rw [dz_ins_cn, h.1 x]
  · intro j hj
    by_cases c1 : j < 3 * p
    · rw [h1 j c1]; exact h.2 j (by omega)
    · by_cases c2 : j < 3 * p + 3
      · have e2 : j = 3 * p + (j - 3 * p) := by omega
        rw [e2, h2 (j - 3 * p) (by omega)]
        exact ha _ (by omega)
      · have e2 : j = (j - 3) + 3 := by omega
        rw [e2, h3 (j - 3) (by omega) (by omega)]
        exact h.2 _ (by omega)
  · have s := dz_ins_srt (k := dz_K a o) hp hs hl (fun j q1 q2 => Nat.le_of_lt (hh j q1 q2))
    intro x y hxy hy
    rw [e x (by omega), e y hy]
    exact s x y hxy hy
theorem dz_Q_sw {R R' : Nat → Int32} {o n i j : Nat} {T : Nat → Nat} (ho : o < 3) (h : dz_Q R o n T) (hij : i < j) (hj : j < n) (hi' : ∀ c, c < 3 → R' (3 * i + c) = R (3 * j + c)) (hj' : ∀ c, c < 3 → R' (3 * j + c) = R (3 * i + c)) (hk' : ∀ k c, c < 3 → k ≠ i → k ≠ j → R' (3 * k + c) = R (3 * k + c)) : dz_Q R' o n T ∧ ∀ k, dz_ky R' o k = dz_sw (dz_ky R o) i j k := by
  have e : ∀ k, dz_ky R' o k = dz_sw (dz_ky R o) i j k := by
    intro k
    by_cases c1 : k = i
    · rw [c1, dz_sw_i (by omega)]; exact dz_ky_e ho hi'
    · by_cases c2 : k = j
      · rw [c2, dz_sw_j]; exact dz_ky_e ho hj'
      · rw [dz_sw_o c1 c2]; exact dz_ky_e ho (fun c hc => hk' k c hc c1 c2)
  refine ⟨⟨?_, ?_⟩, e⟩
  · intro x
    rw [dz_cn_c (p := dz_bl (dz_ky R' o) x) (q := dz_bl (dz_sw (dz_ky R o) i j) x) n (fun k _ => dz_bl_c (e k)), dz_sw_cn _ (by omega) hj (by omega), h.1 x]
  · have key : ∀ k c, k < n → c < 3 → dz_ok (R' (3 * k + c)) := by
      intro k c hk hc
      by_cases c1 : k = i
      · rw [c1, hi' c hc]; exact h.2 _ (by omega)
      · by_cases c2 : k = j
        · rw [c2, hj' c hc]; exact h.2 _ (by omega)
        · rw [hk' k c hc c1 c2]; exact h.2 _ (by omega)
    intro y hy
    have e2 : y = 3 * (y / 3) + y % 3 := by omega
    rw [e2]
    exact key (y / 3) (y % 3) (by omega) (by omega)
theorem dz_Q_eq {R R' : Nat → Int32} {o n : Nat} {T : Nat → Nat} (h : dz_Q R o n T) (h' : dz_Q R' o n T) (s : dz_Srt (dz_ky R o) n) (s' : dz_Srt (dz_ky R' o) n) : ∀ j, j < 3 * n → R j = R' j := by
  intro y hy
  have e2 : y = 3 * (y / 3) + y % 3 := by omega
  have hc : y % 3 < 3 := Nat.mod_lt _ (by omega)
  have hk : y / 3 < n := by omega
  have e := dz_srt_eq s s' (fun x => (h.1 x).trans (h'.1 x).symm) (y / 3) hk
  have e3 := dz_K_inj (dz_Q_O3 h hk) (dz_Q_O3 h' hk) e (y % 3) hc
  rw [e2]
  exact e3
theorem dz_Pre_c {g h : Nat → Nat} {n i : Nat} (e : ∀ k, h k = g k) (p : dz_Pre g n i) : dz_Pre h n i := fun a b x y z => by rw [e a, e b]; exact p a b x y z
theorem dz_Row_c {g h : Nat → Nat} {i j : Nat} (e : ∀ k, h k = g k) (p : dz_Row g i j) : dz_Row h i j := fun b x y => by rw [e i, e b]; exact p b x y
/-- three numbers written from p on -/
def dz_w3 (R : Nat → Int32) (p : Nat) (a b c : Int32) : Nat → Int32 := upd (upd (upd R p a) (p + 1) b) (p + 2) c
theorem dz_w3_lo {R : Nat → Int32} {p j : Nat} {a b c : Int32} (h : j < p) : dz_w3 R p a b c j = R j := by
  unfold dz_w3
  rw [pk_un (by omega), pk_un (by omega), pk_un (by omega)]
theorem dz_w3_hi {R : Nat → Int32} {p j : Nat} {a b c : Int32} (h : p + 3 ≤ j) : dz_w3 R p a b c j = R j := by
  unfold dz_w3
  rw [pk_un (by omega), pk_un (by omega), pk_un (by omega)]
theorem dz_w3_0 {R : Nat → Int32} {p : Nat} {a b c : Int32} : dz_w3 R p a b c p = a := by
  unfold dz_w3
  rw [pk_un (by omega), pk_un (by omega), pk_us]
theorem dz_w3_1 {R : Nat → Int32} {p : Nat} {a b c : Int32} : dz_w3 R p a b c (p + 1) = b := by
  unfold dz_w3
  rw [pk_un (by omega), pk_us]
theorem dz_w3_2 {R : Nat → Int32} {p : Nat} {a b c : Int32} : dz_w3 R p a b c (p + 2) = c := by
  unfold dz_w3
  rw [pk_us]
theorem dz_w3_at {R : Nat → Int32} {p : Nat} (f : Nat → Int32) {c : Nat} (h : c < 3) : dz_w3 R p (f 0) (f 1) (f 2) (p + c) = f c := by
  by_cases c0 : c = 0
  · rw [c0]; exact dz_w3_0
  · by_cases c1 : c = 1
    · rw [c1]; exact dz_w3_1
    · have c2 : c = 2 := by omega
      rw [c2]; exact dz_w3_2
theorem dz_w3_ok {R : Nat → Int32} {p : Nat} {a b c : Int32} (h : ∀ j, dz_ok (R j)) (ha : dz_ok a) (hb : dz_ok b) (hc : dz_ok c) (j : Nat) : dz_ok (dz_w3 R p a b c j) := by
  unfold dz_w3 upd
  split
  · exact hc
  · split
    · exact hb
    · split
      · exact ha
      · exact h j
theorem dz_upd_ok {R : Nat → Int32} {p : Nat} {a : Int32} (h : ∀ j, dz_ok (R j)) (ha : dz_ok a) (j : Nat) : dz_ok (upd R p a j) := by
  unfold upd
  split
  · exact ha
  · exact h j
/-- two places exchanged -/
def dz_x1 (R : Nat → Int32) (p q : Nat) : Nat → Int32 := upd (upd R p (R q)) q (R p)
theorem dz_x1_p {R : Nat → Int32} {p q : Nat} (h : p ≠ q) : dz_x1 R p q p = R q := by
  unfold dz_x1
  rw [pk_un h, pk_us]
theorem dz_x1_q {R : Nat → Int32} {p q : Nat} : dz_x1 R p q q = R p := pk_us
theorem dz_x1_o {R : Nat → Int32} {p q j : Nat} (h1 : j ≠ p) (h2 : j ≠ q) : dz_x1 R p q j = R j := by
  unfold dz_x1
  rw [pk_un h2, pk_un h1]
def dz_x3 (R : Nat → Int32) (i j : Nat) : Nat → Int32 := dz_x1 (dz_x1 (dz_x1 R (3 * i) (3 * j)) (3 * i + 1) (3 * j + 1)) (3 * i + 2) (3 * j + 2)
theorem dz_x3_i {R : Nat → Int32} {i j c : Nat} (h : i < j) (hc : c < 3) : dz_x3 R i j (3 * i + c) = R (3 * j + c) := by
  unfold dz_x3
  by_cases c0 : c = 0
  · rw [c0]
    show dz_x1 (dz_x1 (dz_x1 R (3 * i) (3 * j)) (3 * i + 1) (3 * j + 1)) (3 * i + 2) (3 * j + 2) (3 * i) = R (3 * j)
    rw [dz_x1_o (by omega) (by omega), dz_x1_o (by omega) (by omega), dz_x1_p (by omega)]
  · by_cases c1 : c = 1
    · rw [c1, dz_x1_o (by omega) (by omega), dz_x1_p (by omega), dz_x1_o (by omega) (by omega)]
    · have c2 : c = 2 := by omega
      rw [c2, dz_x1_p (by omega), dz_x1_o (by omega) (by omega), dz_x1_o (by omega) (by omega)]
theorem dz_x3_j {R : Nat → Int32} {i j c : Nat} (h : i < j) (hc : c < 3) : dz_x3 R i j (3 * j + c) = R (3 * i + c) := by
  unfold dz_x3
  by_cases c0 : c = 0
  · rw [c0]
    show dz_x1 (dz_x1 (dz_x1 R (3 * i) (3 * j)) (3 * i + 1) (3 * j + 1)) (3 * i + 2) (3 * j + 2) (3 * j) = R (3 * i)
    rw [dz_x1_o (by omega) (by omega), dz_x1_o (by omega) (by omega), dz_x1_q]
  · by_cases c1 : c = 1
    · rw [c1, dz_x1_o (by omega) (by omega), dz_x1_q, dz_x1_o (by omega) (by omega)]
    · have c2 : c = 2 := by omega
      rw [c2, dz_x1_q, dz_x1_o (by omega) (by omega), dz_x1_o (by omega) (by omega)]
theorem dz_x3_k {R : Nat → Int32} {i j k c : Nat} (hc : c < 3) (h1 : k ≠ i) (h2 : k ≠ j) : dz_x3 R i j (3 * k + c) = R (3 * k + c) := by
  unfold dz_x3
  rw [dz_x1_o (by omega) (by omega), dz_x1_o (by omega) (by omega), dz_x1_o (by omega) (by omega)]
end
section
/-! places, conditions, folds over the rows, copies -/
theorem dz_l3 : (3 : Int32) = nI 3 := by decide +kernel
theorem dz_l24 : (24 : Int32) = nI 24 := by decide +kernel
theorem dz_l72 : (72 : Int32) = nI 72 := by decide +kernel
theorem dz_l30 : (30 : Int32) = nI 30 := by decide +kernel
theorem dz_l216 : (216 : Int32) = nI 216 := by decide +kernel
theorem dz_l1 : (1 : Int32) = nI 1 := by decide +kernel
theorem dz_l2 : (2 : Int32) = nI 2 := by decide +kernel
theorem dz_l0 : (0 : Int32) = nI 0 := by decide +kernel
theorem dz_ixX (t r c : Nat) : (nI t * 24 + nI r) * 3 + nI c = nI (72 * t + 3 * r + c) := by
  rw [dz_l24, dz_l3, pk_mul, nI_add, pk_mul, nI_add]
  exact congrArg nI (by omega)
theorem dz_ixY (t r c : Nat) : 72 * nI t + 3 * nI r + nI c = nI (72 * t + 3 * r + c) := by
  rw [dz_l72, dz_l3, pk_mul, pk_mul, nI_add, nI_add]
theorem dz_ixR (i c : Nat) : nI i * 3 + nI c = nI (3 * i + c) := by
  rw [dz_l3, pk_mul, nI_add]
  exact congrArg nI (by omega)
theorem dz_ixS (i c : Nat) : 3 * nI i + nI c = nI (3 * i + c) := by
  rw [dz_l3, pk_mul, nI_add]
/-- what a condition asks of a number x: op is the condition by three -/
def dz_me (op : Nat) (x v : Int32) : Bool := if op = 0 then decide (x = v) else if op = 1 then decide (x < v) else if op = 2 then decide (v < x) else if op = 3 then !(decide (x = v)) else true
theorem dz_me0t {x v : Int32} (h : x = v) : dz_me 0 x v = true := decide_eq_true h
theorem dz_me0f {x v : Int32} (h : ¬ x = v) : dz_me 0 x v = false := decide_eq_false h
theorem dz_me1t {x v : Int32} (h : x < v) : dz_me 1 x v = true := decide_eq_true h
theorem dz_me1f {x v : Int32} (h : ¬ x < v) : dz_me 1 x v = false := decide_eq_false h
theorem dz_me2t {x v : Int32} (h : v < x) : dz_me 2 x v = true := decide_eq_true h
theorem dz_me2f {x v : Int32} (h : ¬ v < x) : dz_me 2 x v = false := decide_eq_false h
theorem dz_me3t {x v : Int32} (h : ¬ x = v) : dz_me 3 x v = true := by
  show (!(decide (x = v))) = true
  rw [decide_eq_false h]; rfl
theorem dz_me3f {x v : Int32} (h : x = v) : dz_me 3 x v = false := by
  show (!(decide (x = v))) = false
  rw [decide_eq_true h]; rfl
theorem dz_me4 {op : Nat} {x v : Int32} (h : 4 ≤ op) : dz_me op x v = true := by
  unfold dz_me
  rw [if_neg (by omega), if_neg (by omega), if_neg (by omega), if_neg (by omega)]
/-- row r of table t meets condition q with v -/
def dz_mt (A : Nat → Int32) (t q : Nat) (v : Int32) (r : Nat) : Bool := dz_me (q / 3) (A (72 * t + 3 * r + q % 3)) v
/-- a value carried over the rows -/
def dz_fd {σ : Type} (f : Nat → σ → σ) (s : σ) : Nat → σ
  | 0 => s
  | n + 1 => f n (dz_fd f s n)
theorem dz_fd_s {σ : Type} (f : Nat → σ → σ) (s : σ) (n : Nat) : dz_fd f s (n + 1) = f n (dz_fd f s n) := rfl
theorem dz_cn_t {p : Nat → Bool} {n : Nat} (h : p n = true) : dz_cn p (n + 1) = dz_cn p n + 1 := by rw [dz_cn_s, if_pos h]
theorem dz_cn_f {p : Nat → Bool} {n : Nat} (h : p n = false) : dz_cn p (n + 1) = dz_cn p n := by
  rw [dz_cn_s, h]
  exact Nat.add_zero _
/-- three numbers moved inside one array, one behind another -/
def dz_c1 (A : Nat → Int32) (p s : Nat) : Nat → Int32 := upd A p (A s)
def dz_mv (A : Nat → Int32) (p s : Nat) : Nat → Int32 := dz_c1 (dz_c1 (dz_c1 A p s) (p + 1) (s + 1)) (p + 2) (s + 2)
theorem dz_c1_ok {A : Nat → Int32} {p s : Nat} (h : ∀ j, dz_ok (A j)) (j : Nat) : dz_ok (dz_c1 A p s j) := dz_upd_ok h (h s) j
theorem dz_mv_ok {A : Nat → Int32} {p s : Nat} (h : ∀ j, dz_ok (A j)) (j : Nat) : dz_ok (dz_mv A p s j) := dz_c1_ok (dz_c1_ok (dz_c1_ok h)) j
theorem dz_mv_o {A : Nat → Int32} {p s j : Nat} (h : j < p ∨ p + 3 ≤ j) : dz_mv A p s j = A j := by
  unfold dz_mv dz_c1
  rw [pk_un (by omega), pk_un (by omega), pk_un (by omega)]
theorem dz_mv_at {A : Nat → Int32} {p s c : Nat} (h : s + 3 ≤ p) (hc : c < 3) : dz_mv A p s (p + c) = A (s + c) := by
  unfold dz_mv dz_c1
  by_cases c0 : c = 0
  · rw [c0]
    show upd _ _ _ p = A s
    rw [pk_un (by omega), pk_un (by omega), pk_us]
  · by_cases c1 : c = 1
    · rw [c1, pk_un (by omega), pk_us, pk_un (by omega)]
    · have c2 : c = 2 := by omega
      rw [c2, pk_us, pk_un (by omega), pk_un (by omega)]
/-- the rows that don't meet, moved to the front: the cells and how many rows -/
def dz_dl (t q : Nat) (v : Int32) (A : Nat → Int32) : Nat → (Nat → Int32) × Nat
  | 0 => (A, 0)
  | r + 1 => if dz_mt (dz_dl t q v A r).1 t q v r = true then dz_dl t q v A r else (dz_mv (dz_dl t q v A r).1 (72 * t + 3 * (dz_dl t q v A r).2) (72 * t + 3 * r), (dz_dl t q v A r).2 + 1)
theorem dz_dl_t {t q : Nat} {v : Int32} {A : Nat → Int32} {r : Nat} (h : dz_mt (dz_dl t q v A r).1 t q v r = true) : dz_dl t q v A (r + 1) = dz_dl t q v A r := if_pos h
theorem dz_dl_f {t q : Nat} {v : Int32} {A : Nat → Int32} {r : Nat} (h : dz_mt (dz_dl t q v A r).1 t q v r = false) : dz_dl t q v A (r + 1) = (dz_mv (dz_dl t q v A r).1 (72 * t + 3 * (dz_dl t q v A r).2) (72 * t + 3 * r), (dz_dl t q v A r).2 + 1) := if_neg (by rw [h]; exact Bool.false_ne_true)
theorem dz_dl_le (t q : Nat) (v : Int32) (A : Nat → Int32) : ∀ r, (dz_dl t q v A r).2 ≤ r := by
  intro r
  induction r with
  | zero => exact Nat.le_refl 0
  | succ r ih =>
    by_cases h : dz_mt (dz_dl t q v A r).1 t q v r = true
    · rw [dz_dl_t h]; omega
    · rw [dz_dl_f (Bool.eq_false_iff.mpr h)]
      show (dz_dl t q v A r).2 + 1 ≤ r + 1
      omega
theorem dz_dl_ok {t q : Nat} {v : Int32} {A : Nat → Int32} (hA : ∀ j, dz_ok (A j)) : ∀ r j, dz_ok ((dz_dl t q v A r).1 j) := by
  intro r
  induction r with
  | zero => exact hA
  | succ r ih =>
    by_cases h : dz_mt (dz_dl t q v A r).1 t q v r = true
    · rw [dz_dl_t h]; exact ih
    · rw [dz_dl_f (Bool.eq_false_iff.mpr h)]
      exact fun j => dz_mv_ok ih j
/-- the rows that meet get x in column c -/
def dz_ud (t q : Nat) (v : Int32) (c : Nat) (x : Int32) (A : Nat → Int32) : Nat → (Nat → Int32)
  | 0 => A
  | r + 1 => if dz_mt (dz_ud t q v c x A r) t q v r = true then upd (dz_ud t q v c x A r) (72 * t + 3 * r + c) x else dz_ud t q v c x A r
theorem dz_ud_t {t q c : Nat} {v x : Int32} {A : Nat → Int32} {r : Nat} (h : dz_mt (dz_ud t q v c x A r) t q v r = true) : dz_ud t q v c x A (r + 1) = upd (dz_ud t q v c x A r) (72 * t + 3 * r + c) x := if_pos h
theorem dz_ud_f {t q c : Nat} {v x : Int32} {A : Nat → Int32} {r : Nat} (h : dz_mt (dz_ud t q v c x A r) t q v r = false) : dz_ud t q v c x A (r + 1) = dz_ud t q v c x A r := if_neg (by rw [h]; exact Bool.false_ne_true)
theorem dz_ud_ok {t q c : Nat} {v x : Int32} {A : Nat → Int32} (hA : ∀ j, dz_ok (A j)) (hx : dz_ok x) : ∀ r j, dz_ok (dz_ud t q v c x A r j) := by
  intro r
  induction r with
  | zero => exact hA
  | succ r ih =>
    by_cases h : dz_mt (dz_ud t q v c x A r) t q v r = true
    · rw [dz_ud_t h]; exact fun j => dz_upd_ok ih hx j
    · rw [dz_ud_f (Bool.eq_false_iff.mpr h)]; exact ih
/-- the first i places of b taken from a -/
def dz_cp (a b : Nat → Int32) (i : Nat) : Nat → Int32 := fun k => if k < i then a k else b k
theorem dz_cp_0 (a b : Nat → Int32) : dz_cp a b 0 = b := funext fun k => if_neg (by omega)
theorem dz_cp_s (a b : Nat → Int32) (i : Nat) : upd (dz_cp a b i) i (a i) = dz_cp a b (i + 1) := by
  funext k
  show (if k = i then a i else if k < i then a k else b k) = if k < i + 1 then a k else b k
  by_cases e : k = i
  · rw [if_pos e, if_pos (by omega), e]
  · by_cases l : k < i
    · rw [if_neg e, if_pos l, if_pos (by omega)]
    · rw [if_neg e, if_neg l, if_neg (by omega)]
theorem dz_cp_p {P : Int32 → Prop} {a b : Nat → Int32} {i : Nat} (ha : ∀ j, P (a j)) (hb : ∀ j, P (b j)) (j : Nat) : P (dz_cp a b i j) := by
  unfold dz_cp
  split
  · exact ha j
  · exact hb j
/-- a size of a table -/
def dz_z (x : Int32) : Prop := ∃ n : Nat, n ≤ 24 ∧ x = nI n
theorem dz_z0 : dz_z 0 := ⟨0, by omega, by decide +kernel⟩
theorem dz_upd_z {Z : Nat → Int32} {p : Nat} {a : Int32} (h : ∀ j, dz_z (Z j)) (ha : dz_z a) (j : Nat) : dz_z (upd Z p a j) := by
  unfold upd
  split
  · exact ha
  · exact h j
end
section
/-! what next, kth and the two sorts keep -/
/-- the number of row r in column c of table t, as a natural -/
def dz_f (A : Nat → Int32) (t c r : Nat) : Nat := dz_d (A (72 * t + 3 * r + c))
theorem dz_nx_0 (f : Nat → Nat) {p : Nat} (h : p ≤ 199) : dz_Nx f 0 p 199 := ⟨h, Nat.le_refl _, fun r hr => absurd hr (by omega), fun hq => absurd hq (by omega)⟩
theorem dz_nx_y {f : Nat → Nat} {i p q : Nat} (h : dz_Nx f i p q) (h1 : p ≤ f i) (h2 : f i < q) : dz_Nx f (i + 1) p (f i) := by
  refine ⟨h1, by have := h.2.1; omega, ?_, fun _ => ⟨i, by omega, rfl⟩⟩
  intro r hr hp
  by_cases e : r = i
  · rw [e]; exact Nat.le_refl _
  · have := h.2.2.1 r (by omega) hp
    omega
theorem dz_nx_n {f : Nat → Nat} {i p q : Nat} (h : dz_Nx f i p q) (h1 : ¬ (p ≤ f i ∧ f i < q)) : dz_Nx f (i + 1) p q := by
  refine ⟨h.1, h.2.1, ?_, ?_⟩
  · intro r hr hp
    by_cases e : r = i
    · rw [e] at hp ⊢; omega
    · exact h.2.2.1 r (by omega) hp
  · intro hq
    obtain ⟨r, hr, e⟩ := h.2.2.2 hq
    exact ⟨r, by omega, e⟩
theorem dz_gt_v {x v : Int32} {p : Nat} (hv : v.toInt = (p : Int) - 100) (hx : dz_ok x) : v < x ↔ p ≤ dz_d x := by
  rw [Int32.lt_iff_toInt_lt, hv, dz_d_i hx]
  omega
theorem dz_lt_nv {x : Int32} {q : Nat} (hq : q ≤ 199) (hx : dz_ok x) : x < dz_nv q ↔ dz_d x < q := by
  rw [Int32.lt_iff_toInt_lt, dz_nv_i (by omega), dz_d_i hx]
  omega
theorem dz_nv_v {q : Nat} (h : q < 199) : (dz_nv q).toInt = ((q + 1 : Nat) : Int) - 100 := by
  rw [dz_nv_i (by omega)]
  omega
theorem dz_eq_nv {x : Int32} {k : Nat} (hk : k < 199) (hx : dz_ok x) : x = dz_nv k ↔ dz_d x = k := by
  rw [dz_eq hx (dz_nv_ok hk), dz_nv_d (by omega)]
/-- the answer of kth -/
def dz_Ks (f : Nat → Nat) (n : Nat) (K r : Int32) : Prop := (∃ k, k < 199 ∧ dz_hd f n k = true ∧ nI (dz_cn (dz_hd f n) k) = K ∧ r = dz_nv k) ∨ ((∀ k, k < 199 → dz_hd f n k = true → ¬ nI (dz_cn (dz_hd f n) k) = K) ∧ r = -1000)
theorem dz_hit_lt {f : Nat → Nat} {n k l : Nat} (h : dz_hd f n k = true) (hl : k < l) : dz_cn (dz_hd f n) k < dz_cn (dz_hd f n) l := by
  have h1 := dz_cn_mono (dz_hd f n) (a := k + 1) l (by omega)
  rw [dz_cn_t h] at h1
  omega
theorem dz_Ks_u {f : Nat → Nat} {n : Nat} {K r r' : Int32} (hn : n ≤ 24) (h : dz_Ks f n K r) (h' : dz_Ks f n K r') : r' = r := by
  rcases h with ⟨k, hk, hh, hc, e⟩ | ⟨hno, e⟩
  · rcases h' with ⟨l, hl, hh', hc', e'⟩ | ⟨hno', e'⟩
    · have b1 := dz_hd_le f k n
      have b2 := dz_hd_le f l n
      have ec : dz_cn (dz_hd f n) k = dz_cn (dz_hd f n) l := (nI_eq (by omega) (by omega)).mp (hc.trans hc'.symm)
      have ekl : k = l := by
        by_cases c1 : k < l
        · have := dz_hit_lt hh c1
          omega
        · by_cases c2 : l < k
          · have := dz_hit_lt hh' c2
            omega
          · omega
      rw [e, e', ekl]
    · exact absurd hc (hno' k hk hh)
  · rcases h' with ⟨l, hl, hh', hc', e'⟩ | ⟨hno', e'⟩
    · exact absurd hc' (hno l hl hh')
    · rw [e, e']
theorem dz_Ks_lo {f : Nat → Nat} {n : Nat} {K : Int32} (hn : n ≤ 24) (h : K < 0) : dz_Ks f n K (-1000) := by
  refine Or.inr ⟨fun k hk _ e => ?_, rfl⟩
  have b1 := dz_hd_le f k n
  rw [← e] at h
  exact nI_pos (by omega) h
theorem dz_Ks_hi {f : Nat → Nat} {n : Nat} {K : Int32} (hn : n ≤ 24) (h : ¬ K ≤ 24) : dz_Ks f n K (-1000) := by
  refine Or.inr ⟨fun k hk _ e => h ?_, rfl⟩
  have b1 := dz_hd_le f k n
  rw [← e]
  exact nI_le (b := 24) (by omega) (by decide)
/-- kth's jumps stopped at q behind i of them -/
theorem dz_Ks_hit {f : Nat → Nat} {n q i : Nat} (hq : q < 199) (hh : dz_hd f n q = true) (hc : dz_cn (dz_hd f n) q = i) : dz_Ks f n (nI i) (dz_nv q) := Or.inl ⟨q, hq, hh, by rw [hc], rfl⟩
theorem dz_Ks_no {f : Nat → Nat} {n i K : Nat} (hn : n ≤ 24) (hK : K ≤ 24) (hi : i ≤ K) (hc : dz_cn (dz_hd f n) 199 = i) : dz_Ks f n (nI K) (-1000) := by
  refine Or.inr ⟨fun k hk hh e => ?_, rfl⟩
  have b1 := dz_hd_le f k n
  have e2 : dz_cn (dz_hd f n) k = K := (nI_eq (by omega) (by omega)).mp e
  have := dz_hit_lt hh hk
  omega
/-- the rows that meet, and hold a key below x -/
def dz_cb (A : Nat → Int32) (t q : Nat) (v : Int32) (o r x : Nat) : Nat := dz_cn (fun i => dz_mt A t q v i && decide (dz_K (fun c => A (72 * t + 3 * i + c)) o < x)) r
theorem dz_cb_t {A : Nat → Int32} {t q : Nat} {v : Int32} {o r : Nat} (h : dz_mt A t q v r = true) (x : Nat) : dz_cb A t q v o r x + (if dz_K (fun c => A (72 * t + 3 * r + c)) o < x then 1 else 0) = dz_cb A t q v o (r + 1) x := by
  show _ = dz_cn (fun i => dz_mt A t q v i && decide (dz_K (fun c => A (72 * t + 3 * i + c)) o < x)) (r + 1)
  rw [dz_cn_s]
  show _ = dz_cb A t q v o r x + (if (dz_mt A t q v r && decide (dz_K (fun c => A (72 * t + 3 * r + c)) o < x)) = true then 1 else 0)
  rw [h, Bool.true_and]
  by_cases l : dz_K (fun c => A (72 * t + 3 * r + c)) o < x
  · rw [if_pos l, decide_eq_true l, if_pos rfl]
  · rw [if_neg l, decide_eq_false l, if_neg Bool.false_ne_true]
theorem dz_cb_f {A : Nat → Int32} {t q : Nat} {v : Int32} {o r : Nat} (h : dz_mt A t q v r = false) (x : Nat) : dz_cb A t q v o r x = dz_cb A t q v o (r + 1) x := by
  refine (dz_cn_f ?_).symm
  show (dz_mt A t q v r && decide (dz_K (fun c => A (72 * t + 3 * r + c)) o < x)) = false
  rw [h, Bool.false_and]
/-- an insertion under way: rows from p on have moved by one, the new row's key is k -/
def dz_Wh (R R1 : Nat → Int32) (o m p k : Nat) : Prop := p ≤ m ∧ (∀ j, j < 3 * p → R1 j = R j) ∧ (∀ j, 3 * p ≤ j → j < 3 * m → R1 (j + 3) = R j) ∧ ∀ j, p ≤ j → j < m → k < dz_ky R o j
theorem dz_Wh_0 (R : Nat → Int32) (o m k : Nat) : dz_Wh R R o m m k := ⟨Nat.le_refl m, fun _ _ => rfl, fun j h1 h2 => absurd h1 (by omega), fun j h1 h2 => absurd h1 (by omega)⟩
theorem dz_Wh_ky {R R1 : Nat → Int32} {o m p k i : Nat} (ho : o < 3) (h : dz_Wh R R1 o m p k) (hi : i < p) : dz_ky R1 o i = dz_ky R o i := dz_ky_e ho (fun c hc => h.2.1 (3 * i + c) (by omega))
theorem dz_Wh_s {R R1 : Nat → Int32} {o m p k : Nat} (ho : o < 3) (h : dz_Wh R R1 o m (p + 1) k) (hk : k < dz_ky R1 o p) : dz_Wh R (dz_mv R1 (3 * (p + 1)) (3 * p)) o m p k := by
  refine ⟨by have := h.1; omega, ?_, ?_, ?_⟩
  · intro j hj
    rw [dz_mv_o (Or.inl (by omega))]
    exact h.2.1 j (by omega)
  · intro j h1 h2
    by_cases c1 : j < 3 * (p + 1)
    · have e : j + 3 = 3 * (p + 1) + (j - 3 * p) := by omega
      rw [e, dz_mv_at (by omega) (by omega), show 3 * p + (j - 3 * p) = j from by omega]
      exact h.2.1 j c1
    · rw [dz_mv_o (Or.inr (by omega))]
      exact h.2.2.1 j (by omega) h2
  · intro j h1 h2
    by_cases e : j = p
    · rw [e, ← dz_Wh_ky ho h (by omega)]; exact hk
    · exact h.2.2.2 j (by omega) h2
theorem dz_Wh_end {R R1 a : Nat → Int32} {o m p : Nat} {T : Nat → Nat} (ho : o < 3) (hQ : dz_Q R o m T) (hs : dz_Srt (dz_ky R o) m) (ha : dz_O3 a) (h : dz_Wh R R1 o m p (dz_K a o)) (hl : ∀ i, p = i + 1 → ¬ dz_K a o < dz_ky R1 o i) : dz_Q (dz_w3 R1 (3 * p) (a 0) (a 1) (a 2)) o (m + 1) (fun x => T x + (if dz_K a o < x then 1 else 0)) ∧ dz_Srt (dz_ky (dz_w3 R1 (3 * p) (a 0) (a 1) (a 2)) o) (m + 1) := by
  refine dz_Q_ins (R := R) (p := p) ho hQ hs h.1 ?_ ?_ ?_ ha ?_ h.2.2.2
  · intro j hj
    rw [dz_w3_lo hj]; exact h.2.1 j hj
  · intro c hc
    exact dz_w3_at a hc
  · intro j h1 h2
    rw [dz_w3_hi (by omega)]; exact h.2.2.1 j h1 h2
  · intro j hj
    obtain ⟨i, e⟩ : ∃ i, p = i + 1 := ⟨p - 1, by omega⟩
    have h1 := hl i e
    rw [dz_Wh_ky ho h (by omega)] at h1
    have hm := h.1
    by_cases c1 : j = i
    · rw [c1]; omega
    · have := hs j i (by omega) (by omega)
      omega
theorem dz_ex_s {R : Nat → Int32} {o n i j : Nat} {T : Nat → Nat} (ho : o < 3) (hQ : dz_Q R o n T) (hP : dz_Pre (dz_ky R o) n i) (hR : dz_Row (dz_ky R o) i j) (hij : i < j) (hj : j < n) (hlt : dz_ky R o j < dz_ky R o i) : dz_Q (dz_x3 R i j) o n T ∧ dz_Pre (dz_ky (dz_x3 R i j) o) n i ∧ dz_Row (dz_ky (dz_x3 R i j) o) i (j + 1) := by
  obtain ⟨q, e⟩ := dz_Q_sw (R' := dz_x3 R i j) ho hQ hij hj (fun c hc => dz_x3_i hij hc) (fun c hc => dz_x3_j hij hc) (fun k c hc h1 h2 => dz_x3_k hc h1 h2)
  exact ⟨q, dz_Pre_c e (dz_sw_pre hP hij hj), dz_Row_c e (dz_sw_row hR hij hlt)⟩
end
section
/-! walks of both sides, small helpers: ranges, conditions, counts, room, moves, copies -/
def dz_v (N : Nat) (x : Int32) : Prop := ∃ j : Nat, j < N ∧ x = nI j
theorem dz_n_v {N : Nat} {x : Int32} (hN : N < 2 ^ 31) (h : ¬ dz_v N x) : x < 0 ∨ nI N ≤ x := by
  rcases pk_ix x hN with a | b | c
  · exact Or.inl a
  · exact Or.inr b
  · exact absurd c h
theorem dz_n30 : ¬ (3 : Int32) = 0 := by decide
theorem dz_n10 : ¬ (1 : Int32) = 0 := by decide
theorem dz_rX_t {post : Int32 → Prop} {N j : Nat} (h : j < N) (hN : N < 2 ^ 31) (hp : post 1) : ((nI j < 0 → (post 0)) ∧ (¬ nI j < 0 → (((nI N ≤ nI j → (post 0)) ∧ (¬ nI N ≤ nI j → (post 1)))))) :=
  br_f (nI_pos (by omega)) (br_f (nI_ge h hN) hp)
theorem dz_rX_f {post : Int32 → Prop} {N : Nat} {x : Int32} (hN : N < 2 ^ 31) (h : ¬ dz_v N x) (hp : post 0) : ((x < 0 → (post 0)) ∧ (¬ x < 0 → (((nI N ≤ x → (post 0)) ∧ (¬ nI N ≤ x → (post 1)))))) := by
  rcases dz_n_v hN h with a | b
  · exact br_t a hp
  · exact br_c (fun _ => hp) (fun _ => br_t b hp)
theorem dz_rY_t {post : Int32 → Prop} {M j : Nat} (h : j < M + 1) (hN : M < 2 ^ 30) (hp : post 1) : ((nI j < 0 → (post 0)) ∧ (¬ nI j < 0 → (((nI M < nI j → (post 0)) ∧ (¬ nI M < nI j → (post 1)))))) :=
  br_f (nI_pos (by omega)) (br_f (nI_nlt (by omega) (by omega)) hp)
theorem dz_rY_f {post : Int32 → Prop} {M : Nat} {x : Int32} (hN : M < 2 ^ 30) (h : ¬ dz_v (M + 1) x) (hp : post 0) : ((x < 0 → (post 0)) ∧ (¬ x < 0 → (((nI M < x → (post 0)) ∧ (¬ nI M < x → (post 1)))))) := by
  refine br_c (fun _ => hp) (fun h1 => br_c (fun _ => hp) (fun h2 => absurd ?_ h))
  obtain ⟨j, hj, e⟩ := nI_of h1
  rw [e, nI_ltI (by omega) hj] at h2
  exact ⟨j, by omega, e⟩
theorem dz_num_t {post : Int32 → Prop} {x : Int32} (h : dz_ok x) (hp : post 1) : ((x < (-99) → (post 0)) ∧ (¬ x < (-99) → (((99 < x → (post 0)) ∧ (¬ 99 < x → (post 1)))))) := by
  have h1 := h.1
  have h2 := h.2
  refine br_f ?_ (br_f ?_ hp)
  · rw [Int32.lt_iff_toInt_lt, dz_m99]; omega
  · rw [Int32.lt_iff_toInt_lt, dz_p99]; omega
theorem dz_num_f {post : Int32 → Prop} {x : Int32} (h : ¬ dz_ok x) (hp : post 0) : ((x < (-99) → (post 0)) ∧ (¬ x < (-99) → (((99 < x → (post 0)) ∧ (¬ 99 < x → (post 1)))))) :=
  br_c (fun _ => hp) (fun h1 => br_c (fun _ => hp) (fun h2 => absurd (dz_is_ok (Int32.not_lt.mp h1) (Int32.not_lt.mp h2)) h))
theorem dz_swX {post : Int32 → Prop} {op : Nat} {x v : Int32} (hop : op < 5) (h1 : dz_me op x v = true → post 1) (h0 : dz_me op x v = false → post 0) : ((nI op < 0 → post 1) ∧ (¬ nI op < 0 → ((3 < nI op → post 1) ∧ (¬ 3 < nI op → ((nI op = 0 → ((x = v → post 1) ∧ (¬ x = v → post 0))) ∧ (¬ nI op = 0 → ((nI op = 1 → ((v ≤ x → post 0) ∧ (¬ v ≤ x → post 1))) ∧ (¬ nI op = 1 → ((nI op = 2 → ((x ≤ v → post 0) ∧ (¬ x ≤ v → post 1))) ∧ (¬ nI op = 2 → ((nI op = 3 → ((x = v → post 0) ∧ (¬ x = v → post 1))) ∧ (¬ nI op = 3 → True)))))))))))) := by
  refine br_f (nI_pos (by omega)) ?_
  have hc : op = 0 ∨ op = 1 ∨ op = 2 ∨ op = 3 ∨ op = 4 := by omega
  rcases hc with rfl | rfl | rfl | rfl | rfl
  · exact br_f (by decide +kernel) (br_t (by decide +kernel) (br_c (fun h => h1 (dz_me0t h)) (fun h => h0 (dz_me0f h))))
  · exact br_f (by decide +kernel) (br_f (by decide +kernel) (br_t (by decide +kernel) (br_c (fun h => h0 (dz_me1f (Int32.not_lt.mpr h))) (fun h => h1 (dz_me1t (Int32.not_le.mp h))))))
  · exact br_f (by decide +kernel) (br_f (by decide +kernel) (br_f (by decide +kernel) (br_t (by decide +kernel) (br_c (fun h => h0 (dz_me2f (Int32.not_lt.mpr h))) (fun h => h1 (dz_me2t (Int32.not_le.mp h)))))))
  · exact br_f (by decide +kernel) (br_f (by decide +kernel) (br_f (by decide +kernel) (br_f (by decide +kernel) (br_t (by decide +kernel) (br_c (fun h => h0 (dz_me3f h)) (fun h => h1 (dz_me3t h)))))))
  · exact br_t (by decide +kernel) (h1 (dz_me4 (by omega)))
theorem dz_swY {post : Int32 → Prop} {op : Nat} {x v : Int32} (hop : op < 5) (h1 : dz_me op x v = true → post 1) (h0 : dz_me op x v = false → post 0) : ((nI op = 0 → ((x = v → post 1) ∧ (¬ x = v → post 0))) ∧ (¬ nI op = 0 → ((nI op = 1 → ((v ≤ x → post 0) ∧ (¬ v ≤ x → post 1))) ∧ (¬ nI op = 1 → ((nI op = 2 → ((x ≤ v → post 0) ∧ (¬ x ≤ v → post 1))) ∧ (¬ nI op = 2 → ((nI op = 3 → ((x = v → post 0) ∧ (¬ x = v → post 1))) ∧ (¬ nI op = 3 → post 1)))))))) := by
  have hc : op = 0 ∨ op = 1 ∨ op = 2 ∨ op = 3 ∨ op = 4 := by omega
  rcases hc with rfl | rfl | rfl | rfl | rfl
  · exact br_t (by decide +kernel) (br_c (fun h => h1 (dz_me0t h)) (fun h => h0 (dz_me0f h)))
  · exact br_f (by decide +kernel) (br_t (by decide +kernel) (br_c (fun h => h0 (dz_me1f (Int32.not_lt.mpr h))) (fun h => h1 (dz_me1t (Int32.not_le.mp h)))))
  · exact br_f (by decide +kernel) (br_f (by decide +kernel) (br_t (by decide +kernel) (br_c (fun h => h0 (dz_me2f (Int32.not_lt.mpr h))) (fun h => h1 (dz_me2t (Int32.not_le.mp h))))))
  · exact br_f (by decide +kernel) (br_f (by decide +kernel) (br_f (by decide +kernel) (br_t (by decide +kernel) (br_c (fun h => h0 (dz_me3f h)) (fun h => h1 (dz_me3t h))))))
  · exact br_f (by decide +kernel) (br_f (by decide +kernel) (br_f (by decide +kernel) (br_f (by decide +kernel) (h1 (dz_me4 (by omega))))))
theorem dz_rem3 {q : Nat} (h : q < 2 ^ 31) : nI q - nI q / 3 * 3 = nI (q % 3) := pk_rem (a := q) (d := 3) h (by omega) (by omega)
theorem dz_div3 {q : Nat} (h : q < 2 ^ 31) : nI q / 3 = nI (q / 3) := pk_div (a := q) (d := 3) h (by omega) (by omega)
section
variable {fo fc fr : Int32} {A Z B W R : Nat → Int32}
theorem dx_table_t {post : Int32 → Prop} {j : Nat} (h : j < 3) (hp : post 1) : wpX_isTable post (nI j) := dz_rX_t (N := 3) h (by omega) hp
theorem dx_table_f {post : Int32 → Prop} {x : Int32} (h : ¬ dz_v 3 x) (hp : post 0) : wpX_isTable post x := dz_rX_f (N := 3) (by omega) h hp
theorem dx_column_t {post : Int32 → Prop} {j : Nat} (h : j < 3) (hp : post 1) : wpX_isColumn post (nI j) := dz_rX_t (N := 3) h (by omega) hp
theorem dx_column_f {post : Int32 → Prop} {x : Int32} (h : ¬ dz_v 3 x) (hp : post 0) : wpX_isColumn post x := dz_rX_f (N := 3) (by omega) h hp
theorem dx_condition_t {post : Int32 → Prop} {j : Nat} (h : j < 15) (hp : post 1) : wpX_isCondition post (nI j) := dz_rX_t (N := 15) h (by omega) hp
theorem dx_condition_f {post : Int32 → Prop} {x : Int32} (h : ¬ dz_v 15 x) (hp : post 0) : wpX_isCondition post x := dz_rX_f (N := 15) (by omega) h hp
theorem dx_pair_t {post : Int32 → Prop} {j : Nat} (h : j < 9) (hp : post 1) : wpX_isColumnPair post (nI j) := dz_rX_t (N := 9) h (by omega) hp
theorem dx_pair_f {post : Int32 → Prop} {x : Int32} (h : ¬ dz_v 9 x) (hp : post 0) : wpX_isColumnPair post x := dz_rX_f (N := 9) (by omega) h hp
theorem dx_number_t {post : Int32 → Prop} {x : Int32} (h : dz_ok x) (hp : post 1) : wpX_isNumber post x := dz_num_t h hp
theorem dx_number_f {post : Int32 → Prop} {x : Int32} (h : ¬ dz_ok x) (hp : post 0) : wpX_isNumber post x := dz_num_f h hp
theorem dy_table_t {post : Int32 → Prop} {j : Nat} (h : j < 3) (hp : post 1) : wpY_table post (fo, fc, fr, Z, A, W, B, R) (nI j) := dz_rY_t (M := 2) h (by omega) hp
theorem dy_table_f {post : Int32 → Prop} {x : Int32} (h : ¬ dz_v 3 x) (hp : post 0) : wpY_table post (fo, fc, fr, Z, A, W, B, R) x := dz_rY_f (M := 2) (by omega) h hp
theorem dy_condition_t {post : Int32 → Prop} {j : Nat} (h : j < 15) (hp : post 1) : wpY_isCondition post (fo, fc, fr, Z, A, W, B, R) (nI j) := dz_rY_t (M := 14) h (by omega) hp
theorem dy_condition_f {post : Int32 → Prop} {x : Int32} (h : ¬ dz_v 15 x) (hp : post 0) : wpY_isCondition post (fo, fc, fr, Z, A, W, B, R) x := dz_rY_f (M := 14) (by omega) h hp
theorem dy_nine_t {post : Int32 → Prop} {j : Nat} (h : j < 9) (hp : post 1) : wpY_nine post (fo, fc, fr, Z, A, W, B, R) (nI j) := dz_rY_t (M := 8) h (by omega) hp
theorem dy_nine_f {post : Int32 → Prop} {x : Int32} (h : ¬ dz_v 9 x) (hp : post 0) : wpY_nine post (fo, fc, fr, Z, A, W, B, R) x := dz_rY_f (M := 8) (by omega) h hp
theorem dy_number_t {post : Int32 → Prop} {x : Int32} (h : dz_ok x) (hp : post 1) : wpY_number post (fo, fc, fr, Z, A, W, B, R) x := dz_num_t h hp
theorem dy_number_f {post : Int32 → Prop} {x : Int32} (h : ¬ dz_ok x) (hp : post 0) : wpY_number post (fo, fc, fr, Z, A, W, B, R) x := dz_num_f h hp
theorem dy_cell {post : Int32 → Prop} {t r c : Nat} (ht : t < 3) (hr : r < 24) (hc : c < 3) (h : post (A (72 * t + 3 * r + c))) : wpY_cell post (fo, fc, fr, Z, A, W, B, R) (nI t) (nI r) (nI c) := by
  unfold wpY_cell
  dsimp only
  rw [dz_ixY, nI_clamp (by omega)]
  exact ⟨vp_in_nI (by omega) (by omega), h⟩
theorem dy_put {post : SY → Prop} {t r c : Nat} {x : Int32} (ht : t < 3) (hr : r < 24) (hc : c < 3) (h : post (fo, fc, fr, Z, upd A (72 * t + 3 * r + c) x, W, B, R)) : wpY_put post (fo, fc, fr, Z, A, W, B, R) (nI t) (nI r) (nI c) x := by
  unfold wpY_put
  dsimp only
  rw [dz_ixY, nI_clamp (by omega)]
  exact ⟨vp_in_nI (by omega) (by omega), nm_e h⟩
theorem dx_meets {post : Int32 → Prop} {t r q : Nat} {v : Int32} (ht : t < 3) (hr : r < 24) (hq : q < 15) (h1 : dz_mt A t q v r = true → post 1) (h0 : dz_mt A t q v r = false → post 0) : wpX_meets post (fo, fc, fr, A, Z, B, W, R) (nI t) (nI r) (nI q) v := by
  unfold wpX_meets wpX_cellOf
  dsimp only
  rw [dz_rem3 (by omega), dz_div3 (by omega), dz_ixX, nI_clamp (by omega)]
  exact ⟨dz_n30, vp_in_nI (by omega) (by omega), nm_e ⟨dz_n30, nm_e (dz_swX (by omega) h1 h0)⟩⟩
theorem dy_meets {post : Int32 → Prop} {t r q : Nat} {v : Int32} (ht : t < 3) (hr : r < 24) (hq : q < 15) (h1 : dz_mt A t q v r = true → post 1) (h0 : dz_mt A t q v r = false → post 0) : wpY_meets post (fo, fc, fr, Z, A, W, B, R) (nI t) (nI r) (nI q) v := by
  unfold wpY_meets
  dsimp only
  rw [dz_rem3 (by omega), dz_div3 (by omega)]
  exact ⟨dz_n30, dy_cell ht hr (by omega) ⟨dz_n30, nm_e (dz_swY (by omega) h1 h0)⟩⟩
theorem dx_count_l {post : Int32 → Prop} {t q n : Nat} {v : Int32} (ht : t < 3) (hq : q < 15) (hn : n ≤ 24) (hz : Z t = nI n) (hp : post (nI (dz_cn (dz_mt A t q v) n))) : ∀ d r, r + d = n → wX_countMeeting_6 post (nI t) (nI q) v fo fc fr A Z B W R (d + 1) (nI (dz_cn (dz_mt A t q v) r)) (nI r) := by
  intro d
  induction d with
  | zero =>
    intro r hr
    have e : r = n := by omega
    subst e
    refine ⟨vp_in_nI ht (by omega), ?_⟩
    rw [nI_clamp (by omega), hz]
    exact br_t (nI_le (by omega) (by omega)) hp
  | succ d ih =>
    intro r hr
    refine ⟨vp_in_nI ht (by omega), ?_⟩
    rw [nI_clamp (by omega), hz]
    refine br_f (nI_ge (by omega) (by omega)) (dx_meets ht (by omega) hq (fun h => ?_) (fun h => ?_))
    · refine br_f dz_n10 (nm_r (nI_1 _) (nm_r (nI_1 _) ?_))
      rw [← dz_cn_t h]
      exact ih (r + 1) (by omega)
    · refine br_t rfl (nm_r (nI_1 _) ?_)
      rw [← dz_cn_f h]
      exact ih (r + 1) (by omega)
theorem dx_count {post : Int32 → Prop} {t q n : Nat} {v : Int32} (ht : t < 3) (hq : q < 15) (hn : n ≤ 24) (hz : Z t = nI n) (hp : post (nI (dz_cn (dz_mt A t q v) n))) : wpX_countMeeting post (fo, fc, fr, A, Z, B, W, R) (nI t) (nI q) v :=
  ⟨n + 1, dx_count_l ht hq hn hz hp n 0 (by omega)⟩
theorem dy_count_l {post : Int32 → Prop} {t q n : Nat} {v : Int32} (ht : t < 3) (hq : q < 15) (hn : n ≤ 24) (hz : Z t = nI n) (hp : post (nI (dz_cn (dz_mt A t q v) n))) : ∀ d r, r + d = n → wY_matching_6 post (nI t) (nI q) v fo fc fr Z A W B R (d + 1) (nI (dz_cn (dz_mt A t q v) r)) (nI r) := by
  intro d
  induction d with
  | zero =>
    intro r hr
    have e : r = n := by omega
    subst e
    refine ⟨vp_in_nI ht (by omega), ?_⟩
    rw [nI_clamp (by omega), hz]
    exact br_t (nI_le (by omega) (by omega)) hp
  | succ d ih =>
    intro r hr
    refine ⟨vp_in_nI ht (by omega), ?_⟩
    rw [nI_clamp (by omega), hz]
    refine br_f (nI_ge (by omega) (by omega)) (dy_meets ht (by omega) hq (fun h => ?_) (fun h => ?_))
    · refine br_f dz_n10 (nm_r (nI_1 _) (nm_r (nI_1 _) ?_))
      rw [← dz_cn_t h]
      exact ih (r + 1) (by omega)
    · refine br_t rfl (nm_r (nI_1 _) ?_)
      rw [← dz_cn_f h]
      exact ih (r + 1) (by omega)
theorem dy_count {post : Int32 → Prop} {t q n : Nat} {v : Int32} (ht : t < 3) (hq : q < 15) (hn : n ≤ 24) (hz : Z t = nI n) (hp : post (nI (dz_cn (dz_mt A t q v) n))) : wpY_matching post (fo, fc, fr, Z, A, W, B, R) (nI t) (nI q) v :=
  ⟨n + 1, dy_count_l ht hq hn hz hp n 0 (by omega)⟩
end
end
section
/-! room, moves, deletes, updates, copies -/
def dz_tr (fo cx cy : Int32) : Prop := (fo = 0 ∧ cx = 0) ∨ (fo = 1 ∧ ∃ c : Nat, c ≤ 30 ∧ cx = nI c ∧ cy = nI c)
def dz_Fit (fo cx cy cx' : Int32) (k : Nat) : Prop := (fo = 0 ∧ cx' = cx) ∨ (fo = 1 ∧ ¬ 30 < cx + nI k ∧ cy + nI k ≤ 30 ∧ cx' = cx + nI k)
def dz_Full (fo cx cy : Int32) (k : Nat) : Prop := fo = 1 ∧ 30 < cx + nI k ∧ ¬ cy + nI k ≤ 30
theorem dz_room {fo cx cy : Int32} (k : Nat) (h : dz_tr fo cx cy) (hk : k ≤ 24) : dz_Full fo cx cy k ∨ ∃ cx', dz_Fit fo cx cy cx' k ∧ dz_tr fo cx' (cy + nI k) := by
  rcases h with ⟨h0, h1⟩ | ⟨h0, c, hc, e1, e2⟩
  · exact Or.inr ⟨cx, Or.inl ⟨h0, rfl⟩, Or.inl ⟨h0, h1⟩⟩
  · by_cases l : c + k ≤ 30
    · refine Or.inr ⟨cx + nI k, Or.inr ⟨h0, ?_, ?_, rfl⟩, Or.inr ⟨h0, c + k, l, ?_, ?_⟩⟩
      · rw [e1, nI_add]; exact nI_nlt (a := 30) l (by omega)
      · rw [e2, nI_add]; exact nI_le (b := 30) l (by omega)
      · rw [e1, nI_add]
      · rw [e2, nI_add]
    · refine Or.inl ⟨h0, ?_, ?_⟩
      · rw [e1, nI_add]; exact nI_lt (a := 30) (by omega) (by omega)
      · rw [e2, nI_add]; exact nI_ge (a := 30) (by omega) (by omega)
theorem dz_sub99 (m : Nat) : nI m - 99 = dz_nv m := Int32.sub_eq_add_neg (nI m) 99
section
variable {fo fc fr : Int32} {A Z B W R : Nat → Int32}
theorem dx_cellOf {post : Int32 → Prop} {t r c : Nat} (h : post (nI (72 * t + 3 * r + c))) : wpX_cellOf post (nI t) (nI r) (nI c) := by
  unfold wpX_cellOf
  rw [dz_ixX]
  exact h
theorem dx_room_t {post : Int32 → Prop} {cy cx' : Int32} {k : Nat} (h : dz_Fit fo fc cy cx' k) (hp : post 1) : wpX_hasRoomFor post (fo, fc, fr, A, Z, B, W, R) (nI k) := by
  rcases h with ⟨h0, _⟩ | ⟨h0, h1, _, _⟩
  · exact br_t h0 hp
  · exact br_f (by rw [h0]; exact dz_n10) (br_f h1 hp)
theorem dx_room_f {post : Int32 → Prop} {cy : Int32} {k : Nat} (h : dz_Full fo fc cy k) (hp : post 0) : wpX_hasRoomFor post (fo, fc, fr, A, Z, B, W, R) (nI k) :=
  br_f (by rw [h.1]; exact dz_n10) (br_t h.2.1 hp)
theorem dy_room_t {post : Int32 → Prop} {cx cx' : Int32} {k : Nat} (h : dz_Fit fo cx fc cx' k) (hp : post 0) : wpY_tooMany post (fo, fc, fr, Z, A, W, B, R) (nI k) := by
  rcases h with ⟨h0, _⟩ | ⟨h0, _, h1, _⟩
  · exact br_t h0 hp
  · exact br_f (by rw [h0]; exact dz_n10) (br_t h1 hp)
theorem dy_room_f {post : Int32 → Prop} {cx : Int32} {k : Nat} (h : dz_Full fo cx fc k) (hp : post 1) : wpY_tooMany post (fo, fc, fr, Z, A, W, B, R) (nI k) :=
  br_f (by rw [h.1]; exact dz_n10) (br_f h.2.2 hp)
theorem dx_note {post : SX → Prop} {cy cx' : Int32} {k : Nat} (h : dz_Fit fo fc cy cx' k) (hp : post (fo, cx', fr, A, Z, B, W, R)) : wpX_noteChanges post (fo, fc, fr, A, Z, B, W, R) (nI k) := by
  rcases h with ⟨h0, e⟩ | ⟨h0, _, _, e⟩
  · rw [e] at hp; exact br_t h0 hp
  · rw [e] at hp; exact br_f (by rw [h0]; exact dz_n10) (nm_e hp)
theorem dx_mv_s {post : SX → Prop} {t r k c n : Nat} (ht : t < 3) (hr : r < 24) (hk : k < 24) (hc : c < 3) (h : wX_moveRow_3 post (nI t) (nI r) (nI k) fo fc fr n (nI (c + 1)) (dz_c1 A (72 * t + 3 * k + c) (72 * t + 3 * r + c)) Z B W R) : wX_moveRow_3 post (nI t) (nI r) (nI k) fo fc fr (n + 1) (nI c) A Z B W R := by
  refine br_f (nI_ge (b := 3) hc (by omega)) ?_
  refine dx_cellOf (dx_cellOf ?_)
  rw [nI_clamp (n := 72 * t + 3 * k + c) (by omega), nI_clamp (n := 72 * t + 3 * r + c) (by omega)]
  exact ⟨vp_in_nI (by omega) (by omega), vp_in_nI (by omega) (by omega), nm_e (nm_r (nI_1 c) h)⟩
theorem dx_moveRow {post : SX → Prop} {t r k : Nat} (ht : t < 3) (hr : r < 24) (hk : k < 24) (h : post (fo, fc, fr, dz_mv A (72 * t + 3 * k) (72 * t + 3 * r), Z, B, W, R)) : wpX_moveRow post (fo, fc, fr, A, Z, B, W, R) (nI t) (nI r) (nI k) :=
  ⟨4, dx_mv_s (c := 0) ht hr hk (by omega) (dx_mv_s (c := 1) ht hr hk (by omega) (dx_mv_s (c := 2) ht hr hk (by omega) (br_t (by decide +kernel) h)))⟩
theorem dx_keep_l {post : SX → Prop} {t q n : Nat} {v : Int32} (ht : t < 3) (hq : q < 15) (hn : n ≤ 24) (hz : Z t = nI n) (hp : post (fo, fc, fr, (dz_dl t q v A n).1, upd Z t (nI (dz_dl t q v A n).2), B, W, R)) : ∀ d r, r + d = n → wX_keepOthers_6 post (nI t) (nI q) v (d + 1) (nI (dz_dl t q v A r).2) (nI r) fo fc fr (dz_dl t q v A r).1 Z B W R := by
  intro d
  induction d with
  | zero =>
    intro r hr
    have e : r = n := by omega
    subst e
    refine ⟨vp_in_nI ht (by omega), ?_⟩
    rw [nI_clamp (by omega), hz]
    exact br_t (nI_le (by omega) (by omega)) ⟨vp_in_nI ht (by omega), nm_e hp⟩
  | succ d ih =>
    intro r hr
    have ih' := ih (r + 1) (by omega)
    refine ⟨vp_in_nI ht (by omega), ?_⟩
    rw [nI_clamp (by omega), hz]
    refine br_f (nI_ge (by omega) (by omega)) (dx_meets ht (by omega) hq (fun h => ?_) (fun h => ?_))
    · rw [dz_dl_t h] at ih'
      exact br_f dz_n10 (nm_r (nI_1 _) ih')
    · rw [dz_dl_f h] at ih'
      exact br_t rfl (dx_moveRow ht (by omega) (by have := dz_dl_le t q v A r; omega) (nm_r (nI_1 _) (nm_r (nI_1 _) ih')))
theorem dx_keep {post : SX → Prop} {t q n : Nat} {v : Int32} (ht : t < 3) (hq : q < 15) (hn : n ≤ 24) (hz : Z t = nI n) (hp : post (fo, fc, fr, (dz_dl t q v A n).1, upd Z t (nI (dz_dl t q v A n).2), B, W, R)) : wpX_keepOthers post (fo, fc, fr, A, Z, B, W, R) (nI t) (nI q) v :=
  ⟨n + 1, dx_keep_l ht hq hn hz hp n 0 (by omega)⟩
theorem dy_del_s {post : Int32 → SY → Prop} {J : Int32 → Int32 → Int32 → Int32 → Int32 → (Nat → Int32) → (Nat → Int32) → (Nat → Int32) → (Nat → Int32) → (Nat → Int32) → Prop} {x2 x3 x4 : Int32} {t r k c n : Nat} (ht : t < 3) (hr : r < 24) (hk : k < 24) (hc : c < 3) (h : wY_delete_74 post J (nI t) x2 x3 x4 (nI k) (nI r) n (nI (c + 1)) fo fc fr Z (dz_c1 A (72 * t + 3 * k + c) (72 * t + 3 * r + c)) W B R) : wY_delete_74 post J (nI t) x2 x3 x4 (nI k) (nI r) (n + 1) (nI c) fo fc fr Z A W B R :=
  br_f (nI_ge (b := 3) hc (by omega)) (dy_cell ht hr hc (dy_put ht hk hc (nm_r (nI_1 c) h)))
theorem dy_del_row {post : Int32 → SY → Prop} {J : Int32 → Int32 → Int32 → Int32 → Int32 → (Nat → Int32) → (Nat → Int32) → (Nat → Int32) → (Nat → Int32) → (Nat → Int32) → Prop} {x2 x3 x4 : Int32} {t r k : Nat} (ht : t < 3) (hr : r < 24) (hk : k < 24) (h : J (nI (k + 1)) (nI (r + 1)) fo fc fr Z (dz_mv A (72 * t + 3 * k) (72 * t + 3 * r)) W B R) : ∃ n, wY_delete_74 post J (nI t) x2 x3 x4 (nI k) (nI r) n 0 fo fc fr Z A W B R :=
  ⟨4, dy_del_s (c := 0) ht hr hk (by omega) (dy_del_s (c := 1) ht hr hk (by omega) (dy_del_s (c := 2) ht hr hk (by omega) (br_t (by decide +kernel) (nm_r (nI_1 _) (nm_r (nI_1 _) h)))))⟩
theorem dy_del_l {post : Int32 → SY → Prop} {x4 : Int32} {t q n : Nat} {v : Int32} (ht : t < 3) (hq : q < 15) (hn : n ≤ 24) (hz : Z t = nI n) (hp : post x4 (fo, fc + x4, fr, upd Z t (nI (dz_dl t q v A n).2), (dz_dl t q v A n).1, W, B, R)) : ∀ d r, r + d = n → wY_delete_48 post (nI t) (nI q) v x4 (d + 1) (nI (dz_dl t q v A r).2) (nI r) fo fc fr Z (dz_dl t q v A r).1 W B R := by
  intro d
  induction d with
  | zero =>
    intro r hr
    have e : r = n := by omega
    subst e
    refine ⟨vp_in_nI ht (by omega), ?_⟩
    rw [nI_clamp (by omega), hz]
    exact br_t (nI_le (by omega) (by omega)) ⟨vp_in_nI ht (by omega), nm_e (nm_e hp)⟩
  | succ d ih =>
    intro r hr
    have ih' := ih (r + 1) (by omega)
    refine ⟨vp_in_nI ht (by omega), ?_⟩
    rw [nI_clamp (by omega), hz]
    refine br_f (nI_ge (by omega) (by omega)) (dy_meets ht (by omega) hq (fun h => ?_) (fun h => ?_))
    · rw [dz_dl_t h] at ih'
      exact br_f dz_n10 (nm_r (nI_1 _) ih')
    · rw [dz_dl_f h] at ih'
      exact br_t rfl (dy_del_row ht (by omega) (by have := dz_dl_le t q v A r; omega) ih')
theorem dx_upd_l {post : Int32 → SX → Prop} {cy cx' x : Int32} {t q n c k : Nat} {v : Int32} (ht : t < 3) (hq : q < 15) (hc : c < 3) (hn : n ≤ 24) (hz : Z t = nI n) (hf : dz_Fit fo fc cy cx' k) (hp : post (nI k) (fo, cx', fr, dz_ud t q v c x A n, Z, B, W, R)) : ∀ d r, r + d = n → wX_update_71 post (nI t) (nI q) v (nI k) (nI c) x fo fc fr (d + 1) (nI r) (dz_ud t q v c x A r) Z B W R := by
  intro d
  induction d with
  | zero =>
    intro r hr
    have e : r = n := by omega
    subst e
    refine ⟨vp_in_nI ht (by omega), ?_⟩
    rw [nI_clamp (by omega), hz]
    exact br_t (nI_le (by omega) (by omega)) (dx_note hf hp)
  | succ d ih =>
    intro r hr
    have ih' := ih (r + 1) (by omega)
    refine ⟨vp_in_nI ht (by omega), ?_⟩
    rw [nI_clamp (by omega), hz]
    refine br_f (nI_ge (by omega) (by omega)) (dx_meets ht (by omega) hq (fun h => ?_) (fun h => ?_))
    · rw [dz_ud_t h] at ih'
      refine br_f dz_n10 (dx_cellOf ?_)
      rw [nI_clamp (n := 72 * t + 3 * r + c) (by omega)]
      exact ⟨vp_in_nI (by omega) (by omega), nm_e (nm_r (nI_1 r) ih')⟩
    · rw [dz_ud_f h] at ih'
      exact br_t rfl (nm_r (nI_1 _) ih')
theorem dy_upd_l {post : Int32 → SY → Prop} {x5 : Int32} {t q n s : Nat} {v : Int32} (ht : t < 3) (hq : q < 15) (hs : s < 597) (hn : n ≤ 24) (hz : Z t = nI n) (hp : post x5 (fo, fc + x5, fr, Z, dz_ud t q v (s % 3) (dz_nv (s / 3)) A n, W, B, R)) : ∀ d r, r + d = n → wY_update_58 post (nI t) (nI q) v (nI s) x5 (d + 1) (nI r) fo fc fr Z (dz_ud t q v (s % 3) (dz_nv (s / 3)) A r) W B R := by
  intro d
  induction d with
  | zero =>
    intro r hr
    have e : r = n := by omega
    subst e
    refine ⟨vp_in_nI ht (by omega), ?_⟩
    rw [nI_clamp (by omega), hz]
    exact br_t (nI_le (by omega) (by omega)) (nm_e hp)
  | succ d ih =>
    intro r hr
    have ih' := ih (r + 1) (by omega)
    refine ⟨vp_in_nI ht (by omega), ?_⟩
    rw [nI_clamp (by omega), hz]
    refine br_f (nI_ge (by omega) (by omega)) (dy_meets ht (by omega) hq (fun h => ?_) (fun h => ?_))
    · rw [dz_ud_t h] at ih'
      refine br_f dz_n10 ⟨dz_n30, dz_n30, ?_⟩
      rw [dz_rem3 (by omega), dz_div3 (by omega), dz_sub99]
      exact dy_put ht (by omega) (by omega) (nm_r (nI_1 r) ih')
    · rw [dz_ud_f h] at ih'
      exact br_t rfl (nm_r (nI_1 _) ih')
theorem dx_cp_cells_savedCells {post : SX → Prop} (hp : post (fo, fc, fr, A, Z, dz_cp A B 216, W, R)) : wpX_copy__cells_savedCells post (fo, fc, fr, A, Z, B, W, R) 216 := by
  have key : ∀ d i, i + d = 216 → wX_copy__cells_savedCells_2 post (nI 216) fo fc fr (d + 1) (nI i) A Z (dz_cp A B i) W R := by
    intro d
    induction d with
    | zero =>
      intro i hi
      have e : i = 216 := by omega
      subst e
      exact br_t (nI_le (by omega) (by omega)) hp
    | succ d ih =>
      intro i hi
      refine br_f (nI_ge (by omega) (by omega)) ⟨vp_in_nI (by omega) (by omega), vp_in_nI (by omega) (by omega), ?_⟩
      rw [nI_clamp (by omega)]
      exact nm_r (dz_cp_s A B i) (nm_r (nI_1 i) (ih (i + 1) (by omega)))
  have k0 := key 216 0 (by omega)
  rw [dz_cp_0] at k0
  exact ⟨216 + 1, k0⟩
theorem dx_cp_sizes_savedSizes {post : SX → Prop} (hp : post (fo, fc, fr, A, Z, B, dz_cp Z W 3, R)) : wpX_copy__sizes_savedSizes post (fo, fc, fr, A, Z, B, W, R) 3 := by
  have key : ∀ d i, i + d = 3 → wX_copy__sizes_savedSizes_2 post (nI 3) fo fc fr (d + 1) (nI i) A Z B (dz_cp Z W i) R := by
    intro d
    induction d with
    | zero =>
      intro i hi
      have e : i = 3 := by omega
      subst e
      exact br_t (nI_le (by omega) (by omega)) hp
    | succ d ih =>
      intro i hi
      refine br_f (nI_ge (by omega) (by omega)) ⟨vp_in_nI (by omega) (by omega), vp_in_nI (by omega) (by omega), ?_⟩
      rw [nI_clamp (by omega)]
      exact nm_r (dz_cp_s Z W i) (nm_r (nI_1 i) (ih (i + 1) (by omega)))
  have k0 := key 3 0 (by omega)
  rw [dz_cp_0] at k0
  exact ⟨3 + 1, k0⟩
theorem dx_cp_savedCells_cells {post : SX → Prop} (hp : post (fo, fc, fr, dz_cp B A 216, Z, B, W, R)) : wpX_copy__savedCells_cells post (fo, fc, fr, A, Z, B, W, R) 216 := by
  have key : ∀ d i, i + d = 216 → wX_copy__savedCells_cells_2 post (nI 216) fo fc fr (d + 1) (nI i) (dz_cp B A i) Z B W R := by
    intro d
    induction d with
    | zero =>
      intro i hi
      have e : i = 216 := by omega
      subst e
      exact br_t (nI_le (by omega) (by omega)) hp
    | succ d ih =>
      intro i hi
      refine br_f (nI_ge (by omega) (by omega)) ⟨vp_in_nI (by omega) (by omega), vp_in_nI (by omega) (by omega), ?_⟩
      rw [nI_clamp (by omega)]
      exact nm_r (dz_cp_s B A i) (nm_r (nI_1 i) (ih (i + 1) (by omega)))
  have k0 := key 216 0 (by omega)
  rw [dz_cp_0] at k0
  exact ⟨216 + 1, k0⟩
theorem dx_cp_savedSizes_sizes {post : SX → Prop} (hp : post (fo, fc, fr, A, dz_cp W Z 3, B, W, R)) : wpX_copy__savedSizes_sizes post (fo, fc, fr, A, Z, B, W, R) 3 := by
  have key : ∀ d i, i + d = 3 → wX_copy__savedSizes_sizes_2 post (nI 3) fo fc fr (d + 1) (nI i) A (dz_cp W Z i) B W R := by
    intro d
    induction d with
    | zero =>
      intro i hi
      have e : i = 3 := by omega
      subst e
      exact br_t (nI_le (by omega) (by omega)) hp
    | succ d ih =>
      intro i hi
      refine br_f (nI_ge (by omega) (by omega)) ⟨vp_in_nI (by omega) (by omega), vp_in_nI (by omega) (by omega), ?_⟩
      rw [nI_clamp (by omega)]
      exact nm_r (dz_cp_s W Z i) (nm_r (nI_1 i) (ih (i + 1) (by omega)))
  have k0 := key 3 0 (by omega)
  rw [dz_cp_0] at k0
  exact ⟨3 + 1, k0⟩
theorem dy_begin_46 {post : Int32 → SY → Prop} (hp : post 1 (fo, fc, fr, Z, A, W, dz_cp A B 216, R)) : ∃ m, wY_begin_46 post fo fc fr m 0 Z A W B R := by
  have key : ∀ d i, i + d = 216 → wY_begin_46 post fo fc fr (d + 1) (nI i) Z A W (dz_cp A B i) R := by
    intro d
    induction d with
    | zero =>
      intro i hi
      have e : i = 216 := by omega
      subst e
      exact br_t (nI_le (a := 216) (b := 216) (by omega) (by omega)) hp
    | succ d ih =>
      intro i hi
      refine br_f (nI_ge (b := 216) (by omega) (by omega)) ⟨vp_in_nI (by omega) (by omega), vp_in_nI (by omega) (by omega), ?_⟩
      rw [nI_clamp (by omega)]
      exact nm_r (dz_cp_s A B i) (nm_r (nI_1 i) (ih (i + 1) (by omega)))
  have k0 := key 216 0 (by omega)
  rw [dz_cp_0] at k0
  exact ⟨216 + 1, k0⟩
theorem dy_begin_21 {post : Int32 → SY → Prop} (hp : ∃ m, wY_begin_46 post fo fc fr m 0 Z A (dz_cp Z W 3) B R) : ∃ m, wY_begin_21 post fo fc fr m 0 Z A W B R := by
  have key : ∀ d i, i + d = 3 → wY_begin_21 post fo fc fr (d + 1) (nI i) Z A (dz_cp Z W i) B R := by
    intro d
    induction d with
    | zero =>
      intro i hi
      have e : i = 3 := by omega
      subst e
      exact br_t (nI_le (a := 3) (b := 3) (by omega) (by omega)) hp
    | succ d ih =>
      intro i hi
      refine br_f (nI_ge (b := 3) (by omega) (by omega)) ⟨vp_in_nI (by omega) (by omega), vp_in_nI (by omega) (by omega), ?_⟩
      rw [nI_clamp (by omega)]
      exact nm_r (dz_cp_s Z W i) (nm_r (nI_1 i) (ih (i + 1) (by omega)))
  have k0 := key 3 0 (by omega)
  rw [dz_cp_0] at k0
  exact ⟨3 + 1, k0⟩
theorem dy_rollback_43 {post : Int32 → SY → Prop} (hp : post fc (fo, fc, fr, Z, dz_cp B A 216, W, B, R)) : ∃ m, wY_rollback_43 post fo fc fr m 0 Z A W B R := by
  have key : ∀ d i, i + d = 216 → wY_rollback_43 post fo fc fr (d + 1) (nI i) Z (dz_cp B A i) W B R := by
    intro d
    induction d with
    | zero =>
      intro i hi
      have e : i = 216 := by omega
      subst e
      exact br_t (nI_le (a := 216) (b := 216) (by omega) (by omega)) hp
    | succ d ih =>
      intro i hi
      refine br_f (nI_ge (b := 216) (by omega) (by omega)) ⟨vp_in_nI (by omega) (by omega), vp_in_nI (by omega) (by omega), ?_⟩
      rw [nI_clamp (by omega)]
      exact nm_r (dz_cp_s B A i) (nm_r (nI_1 i) (ih (i + 1) (by omega)))
  have k0 := key 216 0 (by omega)
  rw [dz_cp_0] at k0
  exact ⟨216 + 1, k0⟩
theorem dy_rollback_18 {post : Int32 → SY → Prop} (hp : ∃ m, wY_rollback_43 post fo fc fr m 0 (dz_cp W Z 3) A W B R) : ∃ m, wY_rollback_18 post fo fc fr m 0 Z A W B R := by
  have key : ∀ d i, i + d = 3 → wY_rollback_18 post fo fc fr (d + 1) (nI i) (dz_cp W Z i) A W B R := by
    intro d
    induction d with
    | zero =>
      intro i hi
      have e : i = 3 := by omega
      subst e
      exact br_t (nI_le (a := 3) (b := 3) (by omega) (by omega)) hp
    | succ d ih =>
      intro i hi
      refine br_f (nI_ge (b := 3) (by omega) (by omega)) ⟨vp_in_nI (by omega) (by omega), vp_in_nI (by omega) (by omega), ?_⟩
      rw [nI_clamp (by omega)]
      exact nm_r (dz_cp_s W Z i) (nm_r (nI_1 i) (ih (i + 1) (by omega)))
  have k0 := key 3 0 (by omega)
  rw [dz_cp_0] at k0
  exact ⟨3 + 1, k0⟩
end
end
section
/-! sums, joins, the numbers held, next, kth -/
def dz_in (p : Nat → Bool) (h : Nat → Int32) (a : Int32) : Nat → Int32 := dz_fd (fun s a => if p s = true then a + h s else a) a
theorem dz_in_t {p : Nat → Bool} {h : Nat → Int32} {a : Int32} {s : Nat} (e : p s = true) : dz_in p h a s + h s = dz_in p h a (s + 1) := (if_pos e).symm
theorem dz_in_f {p : Nat → Bool} {h : Nat → Int32} {a : Int32} {s : Nat} (e : p s = false) : dz_in p h a s = dz_in p h a (s + 1) := (if_neg (by rw [e]; exact Bool.false_ne_true)).symm
def dz_out (p : Nat → Nat → Bool) (h : Nat → Nat → Int32) (m : Nat) : Nat → Int32 := dz_fd (fun r a => dz_in (p r) (h r) a m) 0
def dz_jp (A : Nat → Int32) (t u q r s : Nat) : Bool := decide (A (72 * t + 3 * r + q % 3) = A (72 * u + 3 * s + q / 3))
def dz_jh (A : Nat → Int32) (t u q r s : Nat) : Int32 := A (72 * t + 3 * r + q % 3) * A (72 * u + 3 * s + q / 3)
theorem dz_nv_gt {k : Nat} (h : k < 1000) : 99 < dz_nv k ↔ 199 ≤ k := by
  rw [Int32.lt_iff_toInt_lt, dz_nv_i h, dz_p99]
  omega
theorem dz_nv_ge {k : Nat} (h : k < 1000) : 100 ≤ dz_nv k ↔ 199 ≤ k := by
  rw [Int32.le_iff_toInt_le, dz_nv_i h, dz_p100]
  omega
section
variable {fo fc fr : Int32} {A Z B W R : Nat → Int32}
theorem dx_sum_l {post : Int32 → Prop} {t q n c : Nat} {v : Int32} (ht : t < 3) (hq : q < 15) (hc : c < 3) (hn : n ≤ 24) (hz : Z t = nI n) (hp : post (dz_in (dz_mt A t q v) (fun r => A (72 * t + 3 * r + c)) 0 n)) : ∀ d r, r + d = n → wX_sum_31 post (nI t) (nI c) (nI q) v fo fc fr A Z B W R (d + 1) (dz_in (dz_mt A t q v) (fun r => A (72 * t + 3 * r + c)) 0 r) (nI r) := by
  intro d
  induction d with
  | zero =>
    intro r hr
    have e : r = n := by omega
    subst e
    refine ⟨vp_in_nI ht (by omega), ?_⟩
    rw [nI_clamp (by omega), hz]
    exact br_t (nI_le (by omega) (by omega)) hp
  | succ d ih =>
    intro r hr
    have ih' := ih (r + 1) (by omega)
    refine ⟨vp_in_nI ht (by omega), ?_⟩
    rw [nI_clamp (by omega), hz]
    refine br_f (nI_ge (by omega) (by omega)) (dx_meets ht (by omega) hq (fun h => ?_) (fun h => ?_))
    · refine br_f dz_n10 (dx_cellOf ?_)
      rw [nI_clamp (n := 72 * t + 3 * r + c) (by omega)]
      exact ⟨vp_in_nI (by omega) (by omega), nm_r (dz_in_t h) (nm_r (nI_1 r) ih')⟩
    · rw [← dz_in_f h] at ih'
      exact br_t rfl (nm_r (nI_1 _) ih')
theorem dy_sum_l {post : Int32 → Prop} {t q n c : Nat} {v : Int32} (ht : t < 3) (hq : q < 15) (hc : c < 3) (hn : n ≤ 24) (hz : Z t = nI n) (hp : post (dz_in (dz_mt A t q v) (fun r => A (72 * t + 3 * r + c)) 0 n)) : ∀ d r, r + d = n → wY_sum_34 post (nI t) (nI c) (nI q) v fo fc fr Z A W B R (d + 1) (dz_in (dz_mt A t q v) (fun r => A (72 * t + 3 * r + c)) 0 r) (nI r) := by
  intro d
  induction d with
  | zero =>
    intro r hr
    have e : r = n := by omega
    subst e
    refine ⟨vp_in_nI ht (by omega), ?_⟩
    rw [nI_clamp (by omega), hz]
    exact br_t (nI_le (by omega) (by omega)) hp
  | succ d ih =>
    intro r hr
    have ih' := ih (r + 1) (by omega)
    refine ⟨vp_in_nI ht (by omega), ?_⟩
    rw [nI_clamp (by omega), hz]
    refine br_f (nI_ge (by omega) (by omega)) (dy_meets ht (by omega) hq (fun h => ?_) (fun h => ?_))
    · exact br_f dz_n10 (dy_cell ht (by omega) hc (nm_r (dz_in_t h) (nm_r (nI_1 r) ih')))
    · rw [← dz_in_f h] at ih'
      exact br_t rfl (nm_r (nI_1 _) ih')
theorem dx_joins {post : Int32 → Prop} {t u q r s : Nat} (ht : t < 3) (hu : u < 3) (hr : r < 24) (hs : s < 24) (hq : q < 9) (h1 : dz_jp A t u q r s = true → post 1) (h0 : dz_jp A t u q r s = false → post 0) : wpX_joins post (fo, fc, fr, A, Z, B, W, R) (nI t) (nI r) (nI u) (nI s) (nI q) := by
  unfold wpX_joins
  dsimp only
  rw [dz_rem3 (by omega), dz_div3 (by omega)]
  refine ⟨dz_n30, dx_cellOf ⟨vp_in_nI (by omega) (by omega), dz_n30, dx_cellOf ⟨vp_in_nI (by omega) (by omega), ?_⟩⟩⟩
  rw [nI_clamp (n := 72 * t + 3 * r + q % 3) (by omega), nI_clamp (n := 72 * u + 3 * s + q / 3) (by omega)]
  exact br_c (fun h => h1 (decide_eq_true h)) (fun h => h0 (decide_eq_false h))
theorem dx_join_in {post : Int32 → Prop} {J : Int32 → Int32 → Prop} {t u q r m : Nat} {a : Int32} (ht : t < 3) (hu : u < 3) (hr : r < 24) (hq : q < 9) (hm : m ≤ 24) (hz : Z u = nI m) (hp : J (dz_in (dz_jp A t u q r) (fun _ => 1) a m) (nI (r + 1))) : ∀ d s, s + d = m → wX_join_45 post J (nI t) (nI u) (nI q) (nI r) fo fc fr A Z B W R (d + 1) (dz_in (dz_jp A t u q r) (fun _ => 1) a s) (nI s) := by
  intro d
  induction d with
  | zero =>
    intro s hs
    have e : s = m := by omega
    subst e
    refine ⟨vp_in_nI hu (by omega), ?_⟩
    rw [nI_clamp (by omega), hz]
    exact br_t (nI_le (by omega) (by omega)) (nm_r (nI_1 r) hp)
  | succ d ih =>
    intro s hs
    have ih' := ih (s + 1) (by omega)
    refine ⟨vp_in_nI hu (by omega), ?_⟩
    rw [nI_clamp (by omega), hz]
    refine br_f (nI_ge (by omega) (by omega)) (dx_joins ht hu hr (by omega) hq (fun h => ?_) (fun h => ?_))
    · exact br_f dz_n10 (nm_r (dz_in_t h) (nm_r (nI_1 s) ih'))
    · rw [← dz_in_f h] at ih'
      exact br_t rfl (nm_r (nI_1 _) ih')
theorem dx_join_l {post : Int32 → Prop} {t u q n m : Nat} (ht : t < 3) (hu : u < 3) (hq : q < 9) (hn : n ≤ 24) (hm : m ≤ 24) (hz : Z t = nI n) (hy : Z u = nI m) (hp : post (dz_out (dz_jp A t u q) (fun _ _ => 1) m n)) : ∀ d r, r + d = n → wX_join_31 post (nI t) (nI u) (nI q) fo fc fr A Z B W R (d + 1) (dz_out (dz_jp A t u q) (fun _ _ => 1) m r) (nI r) := by
  intro d
  induction d with
  | zero =>
    intro r hr
    have e : r = n := by omega
    subst e
    refine ⟨vp_in_nI ht (by omega), ?_⟩
    rw [nI_clamp (by omega), hz]
    exact br_t (nI_le (by omega) (by omega)) hp
  | succ d ih =>
    intro r hr
    have ih' := ih (r + 1) (by omega)
    refine ⟨vp_in_nI ht (by omega), ?_⟩
    rw [nI_clamp (by omega), hz]
    exact br_f (nI_ge (by omega) (by omega)) ⟨m + 1, dx_join_in ht hu (by omega) hq hm hy ih' m 0 (by omega)⟩
theorem dy_join_in {post : Int32 → Prop} {J : Int32 → Int32 → Prop} {t u q r m : Nat} {a : Int32} (ht : t < 3) (hu : u < 3) (hr : r < 24) (hq : q < 9) (hm : m ≤ 24) (hz : Z u = nI m) (hp : J (dz_in (dz_jp A t u q r) (fun _ => 1) a m) (nI (r + 1))) : ∀ d s, s + d = m → wY_join_48 post J (nI t) (nI u) (nI q) (nI r) fo fc fr Z A W B R (d + 1) (dz_in (dz_jp A t u q r) (fun _ => 1) a s) (nI s) := by
  intro d
  induction d with
  | zero =>
    intro s hs
    have e : s = m := by omega
    subst e
    refine ⟨vp_in_nI hu (by omega), ?_⟩
    rw [nI_clamp (by omega), hz]
    exact br_t (nI_le (by omega) (by omega)) (nm_r (nI_1 r) hp)
  | succ d ih =>
    intro s hs
    have ih' := ih (s + 1) (by omega)
    refine ⟨vp_in_nI hu (by omega), ?_⟩
    rw [nI_clamp (by omega), hz]
    refine br_f (nI_ge (by omega) (by omega)) ?_
    rw [dz_rem3 (by omega), dz_div3 (by omega)]
    refine ⟨dz_n30, dy_cell ht hr (by omega) ⟨dz_n30, dy_cell hu (by omega) (by omega) (br_c (fun h => ?_) (fun h => ?_))⟩⟩
    · exact nm_r (dz_in_t (decide_eq_true h)) (nm_r (nI_1 s) ih')
    · rw [← dz_in_f (p := dz_jp A t u q r) (decide_eq_false h)] at ih'
      exact nm_r (nI_1 _) ih'
theorem dy_join_l {post : Int32 → Prop} {t u q n m : Nat} (ht : t < 3) (hu : u < 3) (hq : q < 9) (hn : n ≤ 24) (hm : m ≤ 24) (hz : Z t = nI n) (hy : Z u = nI m) (hp : post (dz_out (dz_jp A t u q) (fun _ _ => 1) m n)) : ∀ d r, r + d = n → wY_join_34 post (nI t) (nI u) (nI q) fo fc fr Z A W B R (d + 1) (dz_out (dz_jp A t u q) (fun _ _ => 1) m r) (nI r) := by
  intro d
  induction d with
  | zero =>
    intro r hr
    have e : r = n := by omega
    subst e
    refine ⟨vp_in_nI ht (by omega), ?_⟩
    rw [nI_clamp (by omega), hz]
    exact br_t (nI_le (by omega) (by omega)) hp
  | succ d ih =>
    intro r hr
    have ih' := ih (r + 1) (by omega)
    refine ⟨vp_in_nI ht (by omega), ?_⟩
    rw [nI_clamp (by omega), hz]
    exact br_f (nI_ge (by omega) (by omega)) ⟨m + 1, dy_join_in ht hu (by omega) hq hm hy ih' m 0 (by omega)⟩
theorem dx_jsum_in {post : Int32 → Prop} {J : Int32 → Int32 → Prop} {t u q w r m : Nat} {a : Int32} (ht : t < 3) (hu : u < 3) (hr : r < 24) (hq : q < 9) (hw : w < 9) (hm : m ≤ 24) (hz : Z u = nI m) (hp : J (dz_in (dz_jp A t u q r) (dz_jh A t u w r) a m) (nI (r + 1))) : ∀ d s, s + d = m → wX_joinSum_53 post J (nI t) (nI u) (nI q) (nI w) (nI r) fo fc fr A Z B W R (d + 1) (dz_in (dz_jp A t u q r) (dz_jh A t u w r) a s) (nI s) := by
  intro d
  induction d with
  | zero =>
    intro s hs
    have e : s = m := by omega
    subst e
    refine ⟨vp_in_nI hu (by omega), ?_⟩
    rw [nI_clamp (by omega), hz]
    exact br_t (nI_le (by omega) (by omega)) (nm_r (nI_1 r) hp)
  | succ d ih =>
    intro s hs
    have ih' := ih (s + 1) (by omega)
    refine ⟨vp_in_nI hu (by omega), ?_⟩
    rw [nI_clamp (by omega), hz]
    refine br_f (nI_ge (by omega) (by omega)) (dx_joins ht hu hr (by omega) hq (fun h => ?_) (fun h => ?_))
    · refine br_f dz_n10 ?_
      rw [dz_rem3 (by omega), dz_div3 (by omega)]
      refine ⟨dz_n30, dx_cellOf ⟨vp_in_nI (by omega) (by omega), dz_n30, dx_cellOf ⟨vp_in_nI (by omega) (by omega), ?_⟩⟩⟩
      rw [nI_clamp (n := 72 * t + 3 * r + w % 3) (by omega), nI_clamp (n := 72 * u + 3 * s + w / 3) (by omega)]
      exact nm_r (dz_in_t (h := dz_jh A t u w r) h) (nm_r (nI_1 s) ih')
    · rw [← dz_in_f h] at ih'
      exact br_t rfl (nm_r (nI_1 _) ih')
theorem dx_jsum_l {post : Int32 → Prop} {t u q w n m : Nat} (ht : t < 3) (hu : u < 3) (hq : q < 9) (hw : w < 9) (hn : n ≤ 24) (hm : m ≤ 24) (hz : Z t = nI n) (hy : Z u = nI m) (hp : post (dz_out (dz_jp A t u q) (dz_jh A t u w) m n)) : ∀ d r, r + d = n → wX_joinSum_39 post (nI t) (nI u) (nI q) (nI w) fo fc fr A Z B W R (d + 1) (dz_out (dz_jp A t u q) (dz_jh A t u w) m r) (nI r) := by
  intro d
  induction d with
  | zero =>
    intro r hr
    have e : r = n := by omega
    subst e
    refine ⟨vp_in_nI ht (by omega), ?_⟩
    rw [nI_clamp (by omega), hz]
    exact br_t (nI_le (by omega) (by omega)) hp
  | succ d ih =>
    intro r hr
    have ih' := ih (r + 1) (by omega)
    refine ⟨vp_in_nI ht (by omega), ?_⟩
    rw [nI_clamp (by omega), hz]
    exact br_f (nI_ge (by omega) (by omega)) ⟨m + 1, dx_jsum_in ht hu (by omega) hq hw hm hy ih' m 0 (by omega)⟩
theorem dy_jsum_in {post : Int32 → Prop} {J : Int32 → Int32 → Prop} {t u q w r m : Nat} {a : Int32} (ht : t < 3) (hu : u < 3) (hr : r < 24) (hq : q < 9) (hw : w < 9) (hm : m ≤ 24) (hz : Z u = nI m) (hp : J (dz_in (dz_jp A t u q r) (dz_jh A t u w r) a m) (nI (r + 1))) : ∀ d s, s + d = m → wY_joinSum_57 post J (nI t) (nI u) (nI q) (nI w) (nI r) fo fc fr Z A W B R (d + 1) (dz_in (dz_jp A t u q r) (dz_jh A t u w r) a s) (nI s) := by
  intro d
  induction d with
  | zero =>
    intro s hs
    have e : s = m := by omega
    subst e
    refine ⟨vp_in_nI hu (by omega), ?_⟩
    rw [nI_clamp (by omega), hz]
    exact br_t (nI_le (by omega) (by omega)) (nm_r (nI_1 r) hp)
  | succ d ih =>
    intro s hs
    have ih' := ih (s + 1) (by omega)
    refine ⟨vp_in_nI hu (by omega), ?_⟩
    rw [nI_clamp (by omega), hz]
    refine br_f (nI_ge (by omega) (by omega)) ?_
    rw [dz_rem3 (by omega), dz_div3 (by omega)]
    refine ⟨dz_n30, dy_cell ht hr (by omega) ⟨dz_n30, dy_cell hu (by omega) (by omega) (br_c (fun h => ?_) (fun h => ?_))⟩⟩
    · refine br_f dz_n10 ?_
      rw [dz_rem3 (by omega), dz_div3 (by omega)]
      exact ⟨dz_n30, dy_cell ht hr (by omega) ⟨dz_n30, dy_cell hu (by omega) (by omega) (nm_r (dz_in_t (p := dz_jp A t u q r) (h := dz_jh A t u w r) (decide_eq_true h)) (nm_r (nI_1 s) ih'))⟩⟩
    · rw [← dz_in_f (p := dz_jp A t u q r) (decide_eq_false h)] at ih'
      exact br_t rfl (nm_r (nI_1 _) ih')
theorem dy_jsum_l {post : Int32 → Prop} {t u q w n m : Nat} (ht : t < 3) (hu : u < 3) (hq : q < 9) (hw : w < 9) (hn : n ≤ 24) (hm : m ≤ 24) (hz : Z t = nI n) (hy : Z u = nI m) (hp : post (dz_out (dz_jp A t u q) (dz_jh A t u w) m n)) : ∀ d r, r + d = n → wY_joinSum_43 post (nI t) (nI u) (nI q) (nI w) fo fc fr Z A W B R (d + 1) (dz_out (dz_jp A t u q) (dz_jh A t u w) m r) (nI r) := by
  intro d
  induction d with
  | zero =>
    intro r hr
    have e : r = n := by omega
    subst e
    refine ⟨vp_in_nI ht (by omega), ?_⟩
    rw [nI_clamp (by omega), hz]
    exact br_t (nI_le (by omega) (by omega)) hp
  | succ d ih =>
    intro r hr
    have ih' := ih (r + 1) (by omega)
    refine ⟨vp_in_nI ht (by omega), ?_⟩
    rw [nI_clamp (by omega), hz]
    exact br_f (nI_ge (by omega) (by omega)) ⟨m + 1, dy_jsum_in ht hu (by omega) hq hw hm hy ih' m 0 (by omega)⟩
theorem dx_holds {post : Int32 → Prop} {t c n k : Nat} (ht : t < 3) (hc : c < 3) (hn : n ≤ 24) (hz : Z t = nI n) (hA : ∀ j, dz_ok (A j)) (hk : k < 199) (h1 : dz_hd (dz_f A t c) n k = true → post 1) (h0 : dz_hd (dz_f A t c) n k = false → post 0) : wpX_holds post (fo, fc, fr, A, Z, B, W, R) (nI t) (nI c) (dz_nv k) := by
  have key : ∀ d r, r + d = n → (∀ i, i < r → dz_f A t c i ≠ k) → wX_holds_3 post (nI t) (nI c) (dz_nv k) fo fc fr A Z B W R (d + 1) (nI r) := by
    intro d
    induction d with
    | zero =>
      intro r hr hno
      have e : r = n := by omega
      subst e
      refine ⟨vp_in_nI ht (by omega), ?_⟩
      rw [nI_clamp (by omega), hz]
      exact br_t (nI_le (by omega) (by omega)) (h0 (dz_hd_f r hno))
    | succ d ih =>
      intro r hr hno
      refine ⟨vp_in_nI ht (by omega), ?_⟩
      rw [nI_clamp (by omega), hz]
      refine br_f (nI_ge (by omega) (by omega)) (dx_cellOf ?_)
      rw [nI_clamp (n := 72 * t + 3 * r + c) (by omega)]
      refine ⟨vp_in_nI (by omega) (by omega), br_c (fun h => h1 (dz_hd_t n r (by omega) ((dz_eq_nv hk (hA _)).mp h))) (fun h => nm_r (nI_1 r) (ih (r + 1) (by omega) ?_))⟩
      intro i hi
      by_cases e : i = r
      · rw [e]; exact fun x => h ((dz_eq_nv hk (hA _)).mpr x)
      · exact hno i (by omega)
  exact ⟨n + 1, key n 0 (by omega) (fun i hi => absurd hi (by omega))⟩
theorem dx_dist_l {post : Int32 → Prop} {t c n : Nat} (ht : t < 3) (hc : c < 3) (hn : n ≤ 24) (hz : Z t = nI n) (hA : ∀ j, dz_ok (A j)) (hp : post (nI (dz_cn (dz_hd (dz_f A t c) n) 199))) : ∀ d k, k + d = 199 → wX_distinct_24 post (nI t) (nI c) fo fc fr A Z B W R (d + 1) (nI (dz_cn (dz_hd (dz_f A t c) n) k)) (dz_nv k) := by
  intro d
  induction d with
  | zero =>
    intro k hk
    have e : k = 199 := by omega
    subst e
    exact br_t ((dz_nv_gt (by omega)).mpr (by omega)) hp
  | succ d ih =>
    intro k hk
    have ih' := ih (k + 1) (by omega)
    refine br_f (fun z => by have := (dz_nv_gt (by omega)).mp z; omega) (dx_holds ht hc hn hz hA (by omega) (fun h => ?_) (fun h => ?_))
    · rw [dz_cn_t h] at ih'
      exact br_f dz_n10 (nm_r (nI_1 _) (nm_r (dz_nv_s k) ih'))
    · rw [dz_cn_f h] at ih'
      exact br_t rfl (nm_r (dz_nv_s k) ih')
theorem dx_kth_l {post : Int32 → Prop} {t c n : Nat} {K : Int32} (ht : t < 3) (hc : c < 3) (hn : n ≤ 24) (hz : Z t = nI n) (hA : ∀ j, dz_ok (A j)) (hp : ∀ r, dz_Ks (dz_f A t c) n K r → post r) : ∀ d k, k + d = 199 → (∀ j, j < k → dz_hd (dz_f A t c) n j = true → ¬ nI (dz_cn (dz_hd (dz_f A t c) n) j) = K) → wX_kth_25 post (nI t) (nI c) K fo fc fr A Z B W R (d + 1) (nI (dz_cn (dz_hd (dz_f A t c) n) k)) (dz_nv k) := by
  intro d
  induction d with
  | zero =>
    intro k hk hno
    have e : k = 199 := by omega
    subst e
    exact br_t ((dz_nv_gt (by omega)).mpr (by omega)) (hp _ (Or.inr ⟨hno, rfl⟩))
  | succ d ih =>
    intro k hk hno
    have ih' := ih (k + 1) (by omega)
    refine br_f (fun z => by have := (dz_nv_gt (by omega)).mp z; omega) (dx_holds ht hc hn hz hA (by omega) (fun h => ?_) (fun h => ?_))
    · rw [dz_cn_t h] at ih'
      refine br_f dz_n10 (br_c (fun e => hp _ (Or.inl ⟨k, by omega, h, e, rfl⟩)) (fun e => nm_r (nI_1 _) (nm_r (dz_nv_s k) (ih' ?_))))
      intro j hj hh
      by_cases c1 : j = k
      · rw [c1]; exact e
      · exact hno j (by omega) hh
    · rw [dz_cn_f h] at ih'
      refine br_t rfl (nm_r (dz_nv_s k) (ih' ?_))
      intro j hj hh
      by_cases c1 : j = k
      · rw [c1, h] at hh; exact absurd hh Bool.false_ne_true
      · exact hno j (by omega) hh
theorem dy_next {post : Int32 → Prop} {t c n p : Nat} {v : Int32} (ht : t < 3) (hc : c < 3) (hn : n ≤ 24) (hz : Z t = nI n) (hA : ∀ j, dz_ok (A j)) (hv : v.toInt = (p : Int) - 100) (h9 : p ≤ 199) (hp : ∀ q, dz_Nx (dz_f A t c) n p q → post (dz_nv q)) : wpY_next post (fo, fc, fr, Z, A, W, B, R) (nI t) (nI c) v := by
  have key : ∀ d r q, r + d = n → dz_Nx (dz_f A t c) r p q → wY_next_7 post (nI t) (nI c) v fo fc fr Z A W B R (d + 1) (dz_nv q) (nI r) := by
    intro d
    induction d with
    | zero =>
      intro r q hr hN
      have e : r = n := by omega
      subst e
      refine ⟨vp_in_nI ht (by omega), ?_⟩
      rw [nI_clamp (by omega), hz]
      exact br_t (nI_le (by omega) (by omega)) (hp q hN)
    | succ d ih =>
      intro r q hr hN
      refine ⟨vp_in_nI ht (by omega), ?_⟩
      rw [nI_clamp (by omega), hz]
      refine br_f (nI_ge (by omega) (by omega)) (dy_cell ht (by omega) hc (br_c (fun h => nm_r (nI_1 r) (ih (r + 1) q (by omega) (dz_nx_n hN ?_))) (fun h => br_c (fun l => nm_r (nI_1 r) (ih (r + 1) q (by omega) (dz_nx_n hN ?_))) (fun l => nm_r (nI_1 r) ?_))))
      · exact fun z => Int32.not_lt.mpr h ((dz_gt_v hv (hA _)).mpr z.1)
      · exact fun z => Int32.not_lt.mpr l ((dz_lt_nv hN.2.1 (hA _)).mpr z.2)
      · rw [dz_nv_of (hA (72 * t + 3 * r + c))]
        exact ih (r + 1) (dz_f A t c r) (by omega) (dz_nx_y hN ((dz_gt_v hv (hA _)).mp (Int32.not_le.mp h)) ((dz_lt_nv hN.2.1 (hA _)).mp (Int32.not_le.mp l)))
  have k0 := key n 0 199 (by omega) (dz_nx_0 _ h9)
  rw [dz_nv_199] at k0
  exact ⟨n + 1, k0⟩
theorem dy_dist_l {post : Int32 → Prop} {t c n : Nat} (ht : t < 3) (hc : c < 3) (hn : n ≤ 24) (hz : Z t = nI n) (hA : ∀ j, dz_ok (A j)) (hp : post (nI (dz_cn (dz_hd (dz_f A t c) n) 199))) : ∀ m q, 199 - q < m → q ≤ 199 → (q < 199 → dz_hd (dz_f A t c) n q = true) → wY_distinct_32 post (nI t) (nI c) fo fc fr Z A W B R m (nI (dz_cn (dz_hd (dz_f A t c) n) q)) (dz_nv q) := by
  intro m
  induction m with
  | zero => intro q h; omega
  | succ m ih =>
    intro q hm hq hh
    by_cases e : q = 199
    · subst e
      exact br_t ((dz_nv_ge (by omega)).mpr (by omega)) hp
    · refine br_f (fun z => by have := (dz_nv_ge (by omega)).mp z; omega) (nm_r (nI_1 _) (dy_next ht hc hn hz hA (dz_nv_v (by omega)) (by omega) (fun q' hN => ?_)))
      have h1 := dz_nx_gap hN
      rw [dz_cn_t (hh (by omega))] at h1
      rw [← h1]
      exact ih q' (by have := hN.1; have := hN.2.1; omega) hN.2.1 (fun z => dz_nx_hit hN z)
theorem dy_kth_l {post : Int32 → Prop} {t c n K : Nat} (ht : t < 3) (hc : c < 3) (hn : n ≤ 24) (hK : K ≤ 24) (hz : Z t = nI n) (hA : ∀ j, dz_ok (A j)) (hp : ∀ r, dz_Ks (dz_f A t c) n (nI K) r → post r) : ∀ m i q, K - i < m → i ≤ K → q ≤ 199 → dz_cn (dz_hd (dz_f A t c) n) q = i → (q < 199 → dz_hd (dz_f A t c) n q = true) → wY_kth_43 post (nI t) (nI c) (nI K) fo fc fr Z A W B R m (dz_nv q) (nI i) := by
  intro m
  induction m with
  | zero => intro i q h; omega
  | succ m ih =>
    intro i q hm hi hq hc1 hh
    by_cases e : i = K
    · subst e
      refine br_t (nI_le (by omega) (by omega)) ?_
      by_cases e9 : q = 199
      · subst e9
        exact br_t ((dz_nv_ge (by omega)).mpr (by omega)) (hp _ (dz_Ks_no hn hK hi hc1))
      · exact br_f (fun z => by have := (dz_nv_ge (by omega)).mp z; omega) (hp _ (dz_Ks_hit (by omega) (hh (by omega)) hc1))
    · refine br_f (nI_ge (by omega) (by omega)) ?_
      by_cases e9 : q = 199
      · subst e9
        exact br_t ((dz_nv_ge (by omega)).mpr (by omega)) (br_t ((dz_nv_ge (by omega)).mpr (by omega)) (hp _ (dz_Ks_no hn hK hi hc1)))
      · refine br_f (fun z => by have := (dz_nv_ge (by omega)).mp z; omega) (dy_next ht hc hn hz hA (dz_nv_v (by omega)) (by omega) (fun q' hN => nm_r (nI_1 i) ?_))
        have h1 := dz_nx_gap hN
        rw [dz_cn_t (hh (by omega)), hc1] at h1
        exact ih (i + 1) q' (by omega) (by omega) hN.2.1 h1 (fun z => dz_nx_hit hN z)
end
end
section
/-! the two selects -/
theorem dz_dec {post : Int32 → Prop} {x y : Int32} {P : Prop} (iff : x < y ↔ P) (h1 : P → post 1) (h0 : ¬ P → post 0) : ((y ≤ x → post 0) ∧ (¬ y ≤ x → post 1)) :=
  br_c (fun h => h0 (fun p => Int32.not_lt.mpr h (iff.mpr p))) (fun h => h1 (iff.mp (Int32.not_le.mp h)))
theorem dz_i3 (i : Nat) : nI i * 3 = nI (3 * i) := by
  rw [dz_l3, pk_mul]
  exact congrArg nI (by omega)
section
variable {fo fc fr : Int32} {A Z B W R : Nat → Int32}
theorem dx_cb_s {post : Int32 → Prop} {F i c n : Nat} (hF : F + 3 ≤ 216) (hi : i < 24) (hc : c < 3) (he : A (F + c) = R (3 * i + c) → wX_comesBefore_54 post (nI F) (nI (3 * i)) fo fc fr A Z B W R n (nI (c + 1))) (hne : ¬ A (F + c) = R (3 * i + c) → ((R (3 * i + c) ≤ A (F + c) → post 0) ∧ (¬ R (3 * i + c) ≤ A (F + c) → post 1))) : wX_comesBefore_54 post (nI F) (nI (3 * i)) fo fc fr A Z B W R (n + 1) (nI c) := by
  refine br_f (nI_ge (b := 3) hc (by omega)) ?_
  rw [nI_add F c, nI_add (3 * i) c, nI_clamp (n := F + c) (by omega), nI_clamp (n := 3 * i + c) (by omega)]
  exact ⟨vp_in_nI (by omega) (by omega), vp_in_nI (by omega) (by omega), br_c (fun h => nm_r (nI_1 c) (he h)) (fun h => ⟨vp_in_nI (by omega) (by omega), vp_in_nI (by omega) (by omega), hne h⟩)⟩
theorem dx_comes {post : Int32 → Prop} {F i o : Nat} (hF : F + 3 ≤ 216) (hi : i < 24) (ho : o < 3) (ha : dz_O3 (fun c => A (F + c))) (hb : dz_O3 (fun c => R (3 * i + c))) (h1 : dz_K (fun c => A (F + c)) o < dz_ky R o i → post 1) (h0 : ¬ dz_K (fun c => A (F + c)) o < dz_ky R o i → post 0) : wpX_comesBefore post (fo, fc, fr, A, Z, B, W, R) (nI F) (nI i) (nI o) := by
  unfold wpX_comesBefore
  dsimp only
  refine nm_r (dz_i3 i) ?_
  rw [nI_add F o, nI_add (3 * i) o, nI_clamp (n := F + o) (by omega), nI_clamp (n := 3 * i + o) (by omega)]
  refine ⟨vp_in_nI (by omega) (by omega), vp_in_nI (by omega) (by omega), br_c (fun e => ⟨4, ?_⟩) (fun e => ⟨vp_in_nI (by omega) (by omega), vp_in_nI (by omega) (by omega), dz_dec (dz_K_o ha hb ho e) h1 h0⟩)⟩
  exact dx_cb_s (c := 0) hF hi (by omega) (fun e0 => dx_cb_s (c := 1) hF hi (by omega) (fun e1 => dx_cb_s (c := 2) hF hi (by omega) (fun e2 => br_t (by decide +kernel) (h0 (dz_K_e e e0 e1 e2))) (fun n2 => dz_dec (dz_K_2 ha hb e e0 e1) h1 h0)) (fun n1 => dz_dec (dz_K_1 ha hb e e0 n1) h1 h0)) (fun n0 => dz_dec (dz_K_0 ha hb e n0) h1 h0)
theorem dx_sh_s {post : SX → Prop} {i c n : Nat} (hi : i + 1 < 24) (hc : c < 3) (h : wX_shiftResultRow_2 post (nI i) fo fc fr n (nI (c + 1)) A Z B W (dz_c1 R (3 * (i + 1) + c) (3 * i + c))) : wX_shiftResultRow_2 post (nI i) fo fc fr (n + 1) (nI c) A Z B W R := by
  refine br_f (nI_ge (b := 3) hc (by omega)) ?_
  rw [nI_1 i, dz_ixR i c, dz_ixR (i + 1) c, nI_clamp (n := 3 * i + c) (by omega), nI_clamp (n := 3 * (i + 1) + c) (by omega)]
  exact ⟨vp_in_nI (by omega) (by omega), vp_in_nI (by omega) (by omega), nm_e (nm_r (nI_1 c) h)⟩
theorem dx_shift {post : SX → Prop} {i : Nat} (hi : i + 1 < 24) (h : post (fo, fc, fr, A, Z, B, W, dz_mv R (3 * (i + 1)) (3 * i))) : wpX_shiftResultRow post (fo, fc, fr, A, Z, B, W, R) (nI i) :=
  ⟨4, dx_sh_s (c := 0) hi (by omega) (dx_sh_s (c := 1) hi (by omega) (dx_sh_s (c := 2) hi (by omega) (br_t (by decide +kernel) h)))⟩
theorem dx_add_s {post : SX → Prop} {F p c n : Nat} (hF : F + 3 ≤ 216) (hp : p < 24) (hc : c < 3) (h : wX_addToResult_50 post (nI F) (nI p) fo fc fr n (nI (c + 1)) A Z B W (upd R (3 * p + c) (A (F + c)))) : wX_addToResult_50 post (nI F) (nI p) fo fc fr (n + 1) (nI c) A Z B W R := by
  refine br_f (nI_ge (b := 3) hc (by omega)) ?_
  rw [nI_add F c, dz_ixR p c, nI_clamp (n := F + c) (by omega), nI_clamp (n := 3 * p + c) (by omega)]
  exact ⟨vp_in_nI (by omega) (by omega), vp_in_nI (by omega) (by omega), nm_e (nm_r (nI_1 c) h)⟩
theorem dx_add_end {post : SX → Prop} {F p m : Nat} (hF : F + 3 ≤ 216) (hp : p < 24) (h : post (fo, fc, nI (m + 1), A, Z, B, W, dz_w3 R (3 * p) (A F) (A (F + 1)) (A (F + 2)))) : ∃ n, wX_addToResult_50 post (nI F) (nI p) fo fc (nI m) n 0 A Z B W R :=
  ⟨4, dx_add_s (c := 0) hF hp (by omega) (dx_add_s (c := 1) hF hp (by omega) (dx_add_s (c := 2) hF hp (by omega) (br_t (by decide +kernel) (nm_r (nI_1 m) h))))⟩
theorem dx_add_l {post : SX → Prop} {F o m : Nat} {T : Nat → Nat} {R0 : Nat → Int32} (hF : F + 3 ≤ 216) (ho : o < 3) (hm : m < 24) (ha : dz_O3 (fun c => A (F + c))) (hQ : dz_Q R0 o m T) (hs : dz_Srt (dz_ky R0 o) m) (hp : ∀ R', dz_Q R' o (m + 1) (fun x => T x + (if dz_K (fun c => A (F + c)) o < x then 1 else 0)) → dz_Srt (dz_ky R' o) (m + 1) → post (fo, fc, nI (m + 1), A, Z, B, W, R')) : ∀ p R1, dz_Wh R0 R1 o m p (dz_K (fun c => A (F + c)) o) → wX_addToResult_14 post (nI o) (nI F) (p + 1) (nI p) fo fc (nI m) A Z B W R1 := by
  intro p
  induction p with
  | zero =>
    intro R1 hW
    have e := dz_Wh_end ho hQ hs ha hW (fun i hi => absurd hi (by omega))
    exact br_t (by decide +kernel) (dx_add_end hF (by omega) (hp _ e.1 e.2))
  | succ p ih =>
    intro R1 hW
    have hpm := hW.1
    have hb : dz_O3 (fun c => R1 (3 * p + c)) := by
      intro c hc
      show dz_ok (R1 (3 * p + c))
      rw [hW.2.1 (3 * p + c) (by omega)]
      exact hQ.2 _ (by omega)
    refine br_f (nI_nle (by omega) (by omega)) ?_
    rw [nI_pred p]
    refine dx_comes hF (by omega) ho ha hb (fun h => ?_) (fun h => ?_)
    · exact br_f dz_n10 (dx_shift (by omega) (nm_r (pk_m1 p) (ih _ (dz_Wh_s ho hW h))))
    · have e := dz_Wh_end ho hQ hs ha hW (fun i hi => by
        have e2 : i = p := by omega
        rw [e2]; exact h)
      exact br_t rfl (dx_add_end hF (by omega) (hp _ e.1 e.2))
theorem dx_add {post : SX → Prop} {t r o m : Nat} {T : Nat → Nat} (ht : t < 3) (hr : r < 24) (ho : o < 3) (hm : m < 24) (hA : ∀ j, dz_ok (A j)) (hQ : dz_Q R o m T) (hs : dz_Srt (dz_ky R o) m) (hp : ∀ R', dz_Q R' o (m + 1) (fun x => T x + (if dz_K (fun c => A (72 * t + 3 * r + c)) o < x then 1 else 0)) → dz_Srt (dz_ky R' o) (m + 1) → post (fo, fc, nI (m + 1), A, Z, B, W, R')) : wpX_addToResult post (fo, fc, nI m, A, Z, B, W, R) (nI t) (nI r) (nI o) := by
  unfold wpX_addToResult
  dsimp only
  refine dx_cellOf (c := 0) ⟨m + 1, ?_⟩
  exact dx_add_l (F := 72 * t + 3 * r) (by omega) ho hm (fun c _ => hA _) hQ hs hp m R (dz_Wh_0 R o m _)
theorem dx_sel_l {post : Int32 → SX → Prop} {t q o n : Nat} {v : Int32} (ht : t < 3) (hq : q < 15) (ho : o < 3) (hn : n ≤ 24) (hz : Z t = nI n) (hA : ∀ j, dz_ok (A j)) (hp : ∀ R', dz_Q R' o (dz_cn (dz_mt A t q v) n) (dz_cb A t q v o n) → dz_Srt (dz_ky R' o) (dz_cn (dz_mt A t q v) n) → post (nI (dz_cn (dz_mt A t q v) n)) (fo, fc, nI (dz_cn (dz_mt A t q v) n), A, Z, B, W, R')) : ∀ d r R1, r + d = n → dz_Q R1 o (dz_cn (dz_mt A t q v) r) (dz_cb A t q v o r) → dz_Srt (dz_ky R1 o) (dz_cn (dz_mt A t q v) r) → wX_select_34 post (nI t) (nI q) v (nI o) (d + 1) (nI r) fo fc (nI (dz_cn (dz_mt A t q v) r)) A Z B W R1 := by
  intro d
  induction d with
  | zero =>
    intro r R1 hr hQ hS
    have e : r = n := by omega
    subst e
    refine ⟨vp_in_nI ht (by omega), ?_⟩
    rw [nI_clamp (by omega), hz]
    exact br_t (nI_le (by omega) (by omega)) (hp R1 hQ hS)
  | succ d ih =>
    intro r R1 hr hQ hS
    refine ⟨vp_in_nI ht (by omega), ?_⟩
    rw [nI_clamp (by omega), hz]
    refine br_f (nI_ge (by omega) (by omega)) (dx_meets ht (by omega) hq (fun h => ?_) (fun h => ?_))
    · refine br_f dz_n10 (dx_add ht (by omega) ho (by have := dz_cn_le (dz_mt A t q v) r; omega) hA hQ hS (fun R' q' s' => nm_r (nI_1 r) ?_))
      have ih' := ih (r + 1) R' (by omega)
      rw [dz_cn_t h] at ih'
      exact ih' (dz_Q_T q' (dz_cb_t h)) s'
    · have ih' := ih (r + 1) R1 (by omega)
      rw [dz_cn_f h] at ih'
      exact br_t rfl (nm_r (nI_1 r) (ih' (dz_Q_T hQ (dz_cb_f h)) hS))
theorem dy_bf_s {post : Int32 → Prop} {i j c n : Nat} (hi : i < 24) (hj : j < 24) (hc : c < 3) (he : R (3 * j + c) = R (3 * i + c) → wY_before_55 post (nI j) (nI i) fo fc fr Z A W B R n (nI (c + 1))) (hne : ¬ R (3 * j + c) = R (3 * i + c) → ((R (3 * i + c) ≤ R (3 * j + c) → post 0) ∧ (¬ R (3 * i + c) ≤ R (3 * j + c) → post 1))) : wY_before_55 post (nI j) (nI i) fo fc fr Z A W B R (n + 1) (nI c) := by
  refine br_f (nI_ge (b := 3) hc (by omega)) ?_
  rw [dz_ixS j c, dz_ixS i c, nI_clamp (n := 3 * j + c) (by omega), nI_clamp (n := 3 * i + c) (by omega)]
  exact ⟨vp_in_nI (by omega) (by omega), vp_in_nI (by omega) (by omega), br_c (fun h => nm_r (nI_1 c) (he h)) (fun h => ⟨vp_in_nI (by omega) (by omega), vp_in_nI (by omega) (by omega), hne h⟩)⟩
theorem dy_before {post : Int32 → Prop} {i j o : Nat} (hi : i < 24) (hj : j < 24) (ho : o < 3) (ha : dz_O3 (fun c => R (3 * j + c))) (hb : dz_O3 (fun c => R (3 * i + c))) (h1 : dz_ky R o j < dz_ky R o i → post 1) (h0 : ¬ dz_ky R o j < dz_ky R o i → post 0) : wpY_before post (fo, fc, fr, Z, A, W, B, R) (nI j) (nI i) (nI o) := by
  unfold wpY_before
  dsimp only
  rw [dz_ixS j o, dz_ixS i o, nI_clamp (n := 3 * j + o) (by omega), nI_clamp (n := 3 * i + o) (by omega)]
  refine ⟨vp_in_nI (by omega) (by omega), vp_in_nI (by omega) (by omega), br_c (fun e => ⟨4, ?_⟩) (fun e => ⟨vp_in_nI (by omega) (by omega), vp_in_nI (by omega) (by omega), dz_dec (dz_K_o ha hb ho e) h1 h0⟩)⟩
  exact dy_bf_s (c := 0) hi hj (by omega) (fun e0 => dy_bf_s (c := 1) hi hj (by omega) (fun e1 => dy_bf_s (c := 2) hi hj (by omega) (fun e2 => br_t (by decide +kernel) (h0 (dz_K_e e e0 e1 e2))) (fun n2 => dz_dec (dz_K_2 ha hb e e0 e1) h1 h0)) (fun n1 => dz_dec (dz_K_1 ha hb e e0 n1) h1 h0)) (fun n0 => dz_dec (dz_K_0 ha hb e n0) h1 h0)
theorem dy_ex_s {post : SY → Prop} {i j c n : Nat} (hi : i < 24) (hj : j < 24) (hc : c < 3) (h : wY_exchange_2 post (nI i) (nI j) fo fc fr n (nI (c + 1)) Z A W B (dz_x1 R (3 * i + c) (3 * j + c))) : wY_exchange_2 post (nI i) (nI j) fo fc fr (n + 1) (nI c) Z A W B R := by
  refine br_f (nI_ge (b := 3) hc (by omega)) ?_
  rw [dz_ixS i c, dz_ixS j c, nI_clamp (n := 3 * i + c) (by omega), nI_clamp (n := 3 * j + c) (by omega)]
  exact ⟨vp_in_nI (by omega) (by omega), nm_e ⟨vp_in_nI (by omega) (by omega), vp_in_nI (by omega) (by omega), nm_e ⟨vp_in_nI (by omega) (by omega), nm_e (nm_r (nI_1 c) h)⟩⟩⟩
theorem dy_exchange {post : SY → Prop} {i j : Nat} (hi : i < 24) (hj : j < 24) (h : post (fo, fc, fr, Z, A, W, B, dz_x3 R i j)) : wpY_exchange post (fo, fc, fr, Z, A, W, B, R) (nI i) (nI j) :=
  ⟨4, dy_ex_s (c := 0) hi hj (by omega) (dy_ex_s (c := 1) hi hj (by omega) (dy_ex_s (c := 2) hi hj (by omega) (br_t (by decide +kernel) h)))⟩
theorem dy_s132 {post : Int32 → SY → Prop} {J : Int32 → Int32 → Int32 → Int32 → (Nat → Int32) → (Nat → Int32) → (Nat → Int32) → (Nat → Int32) → (Nat → Int32) → Prop} {o i n : Nat} {T : Nat → Nat} (ho : o < 3) (hn : n ≤ 24) (hi : i < n) (hp : ∀ R', dz_Q R' o n T → dz_Pre (dz_ky R' o) n (i + 1) → J (nI (i + 1)) fo fc (nI n) Z A W B R') : ∀ d j R1, j + d = n → i < j → dz_Q R1 o n T → dz_Pre (dz_ky R1 o) n i → dz_Row (dz_ky R1 o) i j → wY_select_132 post J (nI o) (nI i) (d + 1) (nI j) fo fc (nI n) Z A W B R1 := by
  intro d
  induction d with
  | zero =>
    intro j R1 hj hij hQ hP hR
    have e : j = n := by omega
    subst e
    exact br_t (nI_le (by omega) (by omega)) (nm_r (nI_1 i) (hp R1 hQ (dz_pre_s hP hR)))
  | succ d ih =>
    intro j R1 hj hij hQ hP hR
    refine br_f (nI_ge (by omega) (by omega)) (dy_before (by omega) (by omega) ho (dz_Q_O3 hQ (by omega)) (dz_Q_O3 hQ hi) (fun h => ?_) (fun h => ?_))
    · have hx := dz_ex_s ho hQ hP hR hij (by omega) h
      exact br_f dz_n10 (dy_exchange (by omega) (by omega) (nm_r (nI_1 j) (ih (j + 1) _ (by omega) (by omega) hx.1 hx.2.1 hx.2.2)))
    · exact br_t rfl (nm_r (nI_1 j) (ih (j + 1) R1 (by omega) (by omega) hQ hP (dz_no_row hR h)))
theorem dy_s117 {post : Int32 → SY → Prop} {o n : Nat} {T : Nat → Nat} (ho : o < 3) (hn : n ≤ 24) (hp : ∀ R', dz_Q R' o n T → dz_Srt (dz_ky R' o) n → post (nI n) (fo, fc, nI n, Z, A, W, B, R')) : ∀ d i R1, i + d = n → dz_Q R1 o n T → dz_Pre (dz_ky R1 o) n i → wY_select_117 post (nI o) (d + 1) (nI i) fo fc (nI n) Z A W B R1 := by
  intro d
  induction d with
  | zero =>
    intro i R1 hi hQ hP
    have e : i = n := by omega
    subst e
    exact br_t (nI_le (by omega) (by omega)) (hp R1 hQ (dz_pre_srt hP))
  | succ d ih =>
    intro i R1 hi hQ hP
    exact br_f (nI_ge (by omega) (by omega)) (nm_r (nI_1 i) ⟨n - (i + 1) + 1, dy_s132 ho hn (by omega) (fun R' q p => ih (i + 1) R' (by omega) q p) (n - (i + 1)) (i + 1) R1 (by omega) (by omega) hQ hP (fun b h1 h2 => absurd h1 (by omega))⟩)
theorem dy_s63_s {post : Int32 → SY → Prop} {J : Int32 → Int32 → (Nat → Int32) → (Nat → Int32) → (Nat → Int32) → (Nat → Int32) → (Nat → Int32) → Prop} {x2 x3 x4 : Int32} {t r m c n : Nat} (ht : t < 3) (hr : r < 24) (hm : m < 24) (hc : c < 3) (h : wY_select_63 post J (nI t) x2 x3 x4 (nI r) fo fc (nI m) n (nI (c + 1)) Z A W B (upd R (3 * m + c) (A (72 * t + 3 * r + c)))) : wY_select_63 post J (nI t) x2 x3 x4 (nI r) fo fc (nI m) (n + 1) (nI c) Z A W B R := by
  refine br_f (nI_ge (b := 3) hc (by omega)) (dy_cell ht hr hc ?_)
  rw [dz_ixS m c, nI_clamp (n := 3 * m + c) (by omega)]
  exact ⟨vp_in_nI (by omega) (by omega), nm_e (nm_r (nI_1 c) h)⟩
theorem dy_s63 {post : Int32 → SY → Prop} {J : Int32 → Int32 → (Nat → Int32) → (Nat → Int32) → (Nat → Int32) → (Nat → Int32) → (Nat → Int32) → Prop} {x2 x3 x4 : Int32} {t r m : Nat} (ht : t < 3) (hr : r < 24) (hm : m < 24) (h : J (nI (r + 1)) (nI (m + 1)) Z A W B (dz_w3 R (3 * m) (A (72 * t + 3 * r)) (A (72 * t + 3 * r + 1)) (A (72 * t + 3 * r + 2)))) : ∃ n, wY_select_63 post J (nI t) x2 x3 x4 (nI r) fo fc (nI m) n 0 Z A W B R :=
  ⟨4, dy_s63_s (c := 0) ht hr hm (by omega) (dy_s63_s (c := 1) ht hr hm (by omega) (dy_s63_s (c := 2) ht hr hm (by omega) (br_t (by decide +kernel) (nm_r (nI_1 m) (nm_r (nI_1 r) h)))))⟩
theorem dy_sel_l {post : Int32 → SY → Prop} {t q o n : Nat} {v : Int32} (ht : t < 3) (hq : q < 15) (ho : o < 3) (hn : n ≤ 24) (hz : Z t = nI n) (hA : ∀ j, dz_ok (A j)) (hp : ∀ R', dz_Q R' o (dz_cn (dz_mt A t q v) n) (dz_cb A t q v o n) → dz_Srt (dz_ky R' o) (dz_cn (dz_mt A t q v) n) → post (nI (dz_cn (dz_mt A t q v) n)) (fo, fc, nI (dz_cn (dz_mt A t q v) n), Z, A, W, B, R')) : ∀ d r R1, r + d = n → dz_Q R1 o (dz_cn (dz_mt A t q v) r) (dz_cb A t q v o r) → wY_select_37 post (nI t) (nI q) v (nI o) fo fc (d + 1) (nI r) (nI (dz_cn (dz_mt A t q v) r)) Z A W B R1 := by
  intro d
  induction d with
  | zero =>
    intro r R1 hr hQ
    have e : r = n := by omega
    subst e
    have hl := dz_cn_le (dz_mt A t q v) r
    refine ⟨vp_in_nI ht (by omega), ?_⟩
    rw [nI_clamp (by omega), hz]
    exact br_t (nI_le (by omega) (by omega)) ⟨dz_cn (dz_mt A t q v) r + 1, dy_s117 ho (by omega) hp (dz_cn (dz_mt A t q v) r) 0 R1 (by omega) hQ (fun a b h => absurd h (by omega))⟩
  | succ d ih =>
    intro r R1 hr hQ
    refine ⟨vp_in_nI ht (by omega), ?_⟩
    rw [nI_clamp (by omega), hz]
    refine br_f (nI_ge (by omega) (by omega)) (dy_meets ht (by omega) hq (fun h => ?_) (fun h => ?_))
    · refine br_f dz_n10 (dy_s63 ht (by omega) (by have := dz_cn_le (dz_mt A t q v) r; omega) ?_)
      have ih' := ih (r + 1) (dz_w3 R1 (3 * dz_cn (dz_mt A t q v) r) (A (72 * t + 3 * r)) (A (72 * t + 3 * r + 1)) (A (72 * t + 3 * r + 2))) (by omega)
      rw [dz_cn_t h] at ih'
      exact ih' (dz_Q_T (dz_Q_add (a := fun c => A (72 * t + 3 * r + c)) ho hQ (fun j hj => dz_w3_lo hj) (fun c hc => dz_w3_at (fun c => A (72 * t + 3 * r + c)) hc) (fun c _ => hA _)) (dz_cb_t h))
    · have ih' := ih (r + 1) R1 (by omega)
      rw [dz_cn_f h] at ih'
      exact br_t rfl (nm_r (nI_1 r) (ih' (dz_Q_T hQ (dz_cb_f h))))
end
end
section
/-! the public methods of both sides, refused and done -/
theorem dz_p2 (a : Nat) : nI a + 2 = nI (a + 2) := nI_add a 2
theorem dz_set {s : Nat} (h : s < 2 ^ 31) : nI s / 3 + (-99) = dz_nv (s / 3) := by
  rw [dz_div3 h]
  rfl
section
variable {fo fc fr : Int32} {A Z B W R : Nat → Int32}
theorem dx_insert_bad {post : Int32 → SX → Prop} {v1 v2 v3 v4 : Int32} (h : ¬ (dz_v 3 v1 ∧ dz_ok v2 ∧ dz_ok v3 ∧ dz_ok v4)) (hp : post (-1000) (fo, fc, fr, A, Z, B, W, R)) : wpX_insert post (fo, fc, fr, A, Z, B, W, R) v1 v2 v3 v4 := by
  unfold wpX_insert
  dsimp only
  by_cases c1 : dz_v 3 v1
  · obtain ⟨j1, h1, e1⟩ := id c1
    rw [e1]
    refine dx_table_t h1 (br_f dz_n10 ?_)
    by_cases c2 : dz_ok v2
    · refine dx_number_t c2 (br_f dz_n10 ?_)
      by_cases c3 : dz_ok v3
      · refine dx_number_t c3 (br_f dz_n10 ?_)
        exact dx_number_f (fun c4 => h ⟨c1, c2, c3, c4⟩) (br_t rfl hp)
      · exact dx_number_f c3 (br_t rfl hp)
    · exact dx_number_f c2 (br_t rfl hp)
  · exact dx_table_f c1 (br_t rfl hp)
theorem dy_insert_bad {post : Int32 → SY → Prop} {v1 v2 v3 v4 : Int32} (h : ¬ (dz_v 3 v1 ∧ dz_ok v2 ∧ dz_ok v3 ∧ dz_ok v4)) (hp : post (-1000) (fo, fc, fr, Z, A, W, B, R)) : wpY_insert post (fo, fc, fr, Z, A, W, B, R) v1 v2 v3 v4 := by
  unfold wpY_insert
  dsimp only
  by_cases c1 : dz_v 3 v1
  · obtain ⟨j1, h1, e1⟩ := id c1
    rw [e1]
    refine dy_table_t h1 (br_f dz_n10 ?_)
    by_cases c2 : dz_ok v2
    · refine dy_number_t c2 (br_f dz_n10 ?_)
      by_cases c3 : dz_ok v3
      · refine dy_number_t c3 (br_f dz_n10 ?_)
        exact dy_number_f (fun c4 => h ⟨c1, c2, c3, c4⟩) (br_t rfl hp)
      · exact dy_number_f c3 (br_t rfl hp)
    · exact dy_number_f c2 (br_t rfl hp)
  · exact dy_table_f c1 (br_t rfl hp)
theorem dx_delete_bad {post : Int32 → SX → Prop} {v1 v2 v3 : Int32} (h : ¬ (dz_v 3 v1 ∧ dz_v 15 v2)) (hp : post (-1000) (fo, fc, fr, A, Z, B, W, R)) : wpX_delete post (fo, fc, fr, A, Z, B, W, R) v1 v2 v3 := by
  unfold wpX_delete
  dsimp only
  by_cases c1 : dz_v 3 v1
  · obtain ⟨j1, h1, e1⟩ := id c1
    rw [e1]
    refine dx_table_t h1 (br_f dz_n10 ?_)
    exact dx_condition_f (fun c2 => h ⟨c1, c2⟩) (br_t rfl hp)
  · exact dx_table_f c1 (br_t rfl hp)
theorem dy_delete_bad {post : Int32 → SY → Prop} {v1 v2 v3 : Int32} (h : ¬ (dz_v 3 v1 ∧ dz_v 15 v2)) (hp : post (-1000) (fo, fc, fr, Z, A, W, B, R)) : wpY_delete post (fo, fc, fr, Z, A, W, B, R) v1 v2 v3 := by
  unfold wpY_delete
  dsimp only
  by_cases c1 : dz_v 3 v1
  · obtain ⟨j1, h1, e1⟩ := id c1
    rw [e1]
    refine dy_table_t h1 (br_f dz_n10 ?_)
    exact dy_condition_f (fun c2 => h ⟨c1, c2⟩) (br_t rfl hp)
  · exact dy_table_f c1 (br_t rfl hp)
theorem dx_select_bad {post : Int32 → SX → Prop} {v1 v2 v3 v4 : Int32} (h : ¬ (dz_v 3 v1 ∧ dz_v 15 v2 ∧ dz_v 3 v4)) (hp : post (-1000) (fo, fc, fr, A, Z, B, W, R)) : wpX_select post (fo, fc, fr, A, Z, B, W, R) v1 v2 v3 v4 := by
  unfold wpX_select
  dsimp only
  by_cases c1 : dz_v 3 v1
  · obtain ⟨j1, h1, e1⟩ := id c1
    rw [e1]
    refine dx_table_t h1 (br_f dz_n10 ?_)
    by_cases c2 : dz_v 15 v2
    · obtain ⟨j2, h2, e2⟩ := id c2
      rw [e2]
      refine dx_condition_t h2 (br_f dz_n10 ?_)
      exact dx_column_f (fun c4 => h ⟨c1, c2, c4⟩) (br_t rfl hp)
    · exact dx_condition_f c2 (br_t rfl hp)
  · exact dx_table_f c1 (br_t rfl hp)
theorem dy_select_bad {post : Int32 → SY → Prop} {v1 v2 v3 v4 : Int32} (h : ¬ (dz_v 3 v1 ∧ dz_v 15 v2 ∧ dz_v 3 v4)) (hp : post (-1000) (fo, fc, fr, Z, A, W, B, R)) : wpY_select post (fo, fc, fr, Z, A, W, B, R) v1 v2 v3 v4 := by
  unfold wpY_select
  dsimp only
  by_cases c1 : dz_v 3 v1
  · obtain ⟨j1, h1, e1⟩ := id c1
    rw [e1]
    refine dy_table_t h1 (br_f dz_n10 ?_)
    by_cases c2 : dz_v 15 v2
    · obtain ⟨j2, h2, e2⟩ := id c2
      rw [e2]
      refine dy_condition_t h2 (br_f dz_n10 ?_)
      exact dy_table_f (fun c4 => h ⟨c1, c2, c4⟩) (br_t rfl hp)
    · exact dy_condition_f c2 (br_t rfl hp)
  · exact dy_table_f c1 (br_t rfl hp)
theorem dx_count_bad {post : Int32 → Prop} {v1 v2 v3 : Int32} (h : ¬ (dz_v 3 v1 ∧ dz_v 15 v2)) (hp : post (-1000)) : wpX_count post (fo, fc, fr, A, Z, B, W, R) v1 v2 v3 := by
  unfold wpX_count
  dsimp only
  by_cases c1 : dz_v 3 v1
  · obtain ⟨j1, h1, e1⟩ := id c1
    rw [e1]
    refine dx_table_t h1 (br_f dz_n10 ?_)
    exact dx_condition_f (fun c2 => h ⟨c1, c2⟩) (br_t rfl hp)
  · exact dx_table_f c1 (br_t rfl hp)
theorem dy_count_bad {post : Int32 → Prop} {v1 v2 v3 : Int32} (h : ¬ (dz_v 3 v1 ∧ dz_v 15 v2)) (hp : post (-1000)) : wpY_count post (fo, fc, fr, Z, A, W, B, R) v1 v2 v3 := by
  unfold wpY_count
  dsimp only
  by_cases c1 : dz_v 3 v1
  · obtain ⟨j1, h1, e1⟩ := id c1
    rw [e1]
    refine dy_table_t h1 (br_f dz_n10 ?_)
    exact dy_condition_f (fun c2 => h ⟨c1, c2⟩) (br_t rfl hp)
  · exact dy_table_f c1 (br_t rfl hp)
theorem dx_sum_bad {post : Int32 → Prop} {v1 v2 v3 v4 : Int32} (h : ¬ (dz_v 3 v1 ∧ dz_v 3 v2 ∧ dz_v 15 v3)) (hp : post (-1000)) : wpX_sum post (fo, fc, fr, A, Z, B, W, R) v1 v2 v3 v4 := by
  unfold wpX_sum
  dsimp only
  by_cases c1 : dz_v 3 v1
  · obtain ⟨j1, h1, e1⟩ := id c1
    rw [e1]
    refine dx_table_t h1 (br_f dz_n10 ?_)
    by_cases c2 : dz_v 3 v2
    · obtain ⟨j2, h2, e2⟩ := id c2
      rw [e2]
      refine dx_column_t h2 (br_f dz_n10 ?_)
      exact dx_condition_f (fun c3 => h ⟨c1, c2, c3⟩) (br_t rfl hp)
    · exact dx_column_f c2 (br_t rfl hp)
  · exact dx_table_f c1 (br_t rfl hp)
theorem dy_sum_bad {post : Int32 → Prop} {v1 v2 v3 v4 : Int32} (h : ¬ (dz_v 3 v1 ∧ dz_v 3 v2 ∧ dz_v 15 v3)) (hp : post (-1000)) : wpY_sum post (fo, fc, fr, Z, A, W, B, R) v1 v2 v3 v4 := by
  unfold wpY_sum
  dsimp only
  by_cases c1 : dz_v 3 v1
  · obtain ⟨j1, h1, e1⟩ := id c1
    rw [e1]
    refine dy_table_t h1 (br_f dz_n10 ?_)
    by_cases c3 : dz_v 15 v3
    · obtain ⟨j3, h3, e3⟩ := id c3
      rw [e3]
      refine dy_condition_t h3 (br_f dz_n10 ?_)
      exact dy_table_f (fun c2 => h ⟨c1, c2, c3⟩) (br_t rfl hp)
    · exact dy_condition_f c3 (br_t rfl hp)
  · exact dy_table_f c1 (br_t rfl hp)
theorem dx_join_bad {post : Int32 → Prop} {v1 v2 v3 : Int32} (h : ¬ (dz_v 3 v1 ∧ dz_v 3 v2 ∧ dz_v 9 v3)) (hp : post (-1000)) : wpX_join post (fo, fc, fr, A, Z, B, W, R) v1 v2 v3 := by
  unfold wpX_join
  dsimp only
  by_cases c1 : dz_v 3 v1
  · obtain ⟨j1, h1, e1⟩ := id c1
    rw [e1]
    refine dx_table_t h1 (br_f dz_n10 ?_)
    by_cases c2 : dz_v 3 v2
    · obtain ⟨j2, h2, e2⟩ := id c2
      rw [e2]
      refine dx_table_t h2 (br_f dz_n10 ?_)
      exact dx_pair_f (fun c3 => h ⟨c1, c2, c3⟩) (br_t rfl hp)
    · exact dx_table_f c2 (br_t rfl hp)
  · exact dx_table_f c1 (br_t rfl hp)
theorem dy_join_bad {post : Int32 → Prop} {v1 v2 v3 : Int32} (h : ¬ (dz_v 3 v1 ∧ dz_v 3 v2 ∧ dz_v 9 v3)) (hp : post (-1000)) : wpY_join post (fo, fc, fr, Z, A, W, B, R) v1 v2 v3 := by
  unfold wpY_join
  dsimp only
  by_cases c1 : dz_v 3 v1
  · obtain ⟨j1, h1, e1⟩ := id c1
    rw [e1]
    refine dy_table_t h1 (br_f dz_n10 ?_)
    by_cases c2 : dz_v 3 v2
    · obtain ⟨j2, h2, e2⟩ := id c2
      rw [e2]
      refine dy_table_t h2 (br_f dz_n10 ?_)
      exact dy_nine_f (fun c3 => h ⟨c1, c2, c3⟩) (br_t rfl hp)
    · exact dy_table_f c2 (br_t rfl hp)
  · exact dy_table_f c1 (br_t rfl hp)
theorem dx_joinSum_bad {post : Int32 → Prop} {v1 v2 v3 v4 : Int32} (h : ¬ (dz_v 3 v1 ∧ dz_v 3 v2 ∧ dz_v 9 v3 ∧ dz_v 9 v4)) (hp : post (-1000)) : wpX_joinSum post (fo, fc, fr, A, Z, B, W, R) v1 v2 v3 v4 := by
  unfold wpX_joinSum
  dsimp only
  by_cases c1 : dz_v 3 v1
  · obtain ⟨j1, h1, e1⟩ := id c1
    rw [e1]
    refine dx_table_t h1 (br_f dz_n10 ?_)
    by_cases c2 : dz_v 3 v2
    · obtain ⟨j2, h2, e2⟩ := id c2
      rw [e2]
      refine dx_table_t h2 (br_f dz_n10 ?_)
      by_cases c3 : dz_v 9 v3
      · obtain ⟨j3, h3, e3⟩ := id c3
        rw [e3]
        refine dx_pair_t h3 (br_f dz_n10 ?_)
        exact dx_pair_f (fun c4 => h ⟨c1, c2, c3, c4⟩) (br_t rfl hp)
      · exact dx_pair_f c3 (br_t rfl hp)
    · exact dx_table_f c2 (br_t rfl hp)
  · exact dx_table_f c1 (br_t rfl hp)
theorem dy_joinSum_bad {post : Int32 → Prop} {v1 v2 v3 v4 : Int32} (h : ¬ (dz_v 3 v1 ∧ dz_v 3 v2 ∧ dz_v 9 v3 ∧ dz_v 9 v4)) (hp : post (-1000)) : wpY_joinSum post (fo, fc, fr, Z, A, W, B, R) v1 v2 v3 v4 := by
  unfold wpY_joinSum
  dsimp only
  by_cases c1 : dz_v 3 v1
  · obtain ⟨j1, h1, e1⟩ := id c1
    rw [e1]
    refine dy_table_t h1 (br_f dz_n10 ?_)
    by_cases c2 : dz_v 3 v2
    · obtain ⟨j2, h2, e2⟩ := id c2
      rw [e2]
      refine dy_table_t h2 (br_f dz_n10 ?_)
      by_cases c3 : dz_v 9 v3
      · obtain ⟨j3, h3, e3⟩ := id c3
        rw [e3]
        refine dy_nine_t h3 (br_f dz_n10 ?_)
        exact dy_nine_f (fun c4 => h ⟨c1, c2, c3, c4⟩) (br_t rfl hp)
      · exact dy_nine_f c3 (br_t rfl hp)
    · exact dy_table_f c2 (br_t rfl hp)
  · exact dy_table_f c1 (br_t rfl hp)
theorem dx_distinct_bad {post : Int32 → Prop} {v1 v2 : Int32} (h : ¬ (dz_v 3 v1 ∧ dz_v 3 v2)) (hp : post (-1000)) : wpX_distinct post (fo, fc, fr, A, Z, B, W, R) v1 v2 := by
  unfold wpX_distinct
  dsimp only
  by_cases c1 : dz_v 3 v1
  · obtain ⟨j1, h1, e1⟩ := id c1
    rw [e1]
    refine dx_table_t h1 (br_f dz_n10 ?_)
    exact dx_column_f (fun c2 => h ⟨c1, c2⟩) (br_t rfl hp)
  · exact dx_table_f c1 (br_t rfl hp)
theorem dy_distinct_bad {post : Int32 → Prop} {v1 v2 : Int32} (h : ¬ (dz_v 3 v1 ∧ dz_v 3 v2)) (hp : post (-1000)) : wpY_distinct post (fo, fc, fr, Z, A, W, B, R) v1 v2 := by
  unfold wpY_distinct
  dsimp only
  by_cases c1 : dz_v 3 v1
  · obtain ⟨j1, h1, e1⟩ := id c1
    rw [e1]
    refine dy_table_t h1 (br_f dz_n10 ?_)
    exact dy_table_f (fun c2 => h ⟨c1, c2⟩) (br_t rfl hp)
  · exact dy_table_f c1 (br_t rfl hp)
theorem dx_kth_bad {post : Int32 → Prop} {v1 v2 v3 : Int32} (h : ¬ (dz_v 3 v1 ∧ dz_v 3 v2)) (hp : post (-1000)) : wpX_kth post (fo, fc, fr, A, Z, B, W, R) v1 v2 v3 := by
  unfold wpX_kth
  dsimp only
  by_cases c1 : dz_v 3 v1
  · obtain ⟨j1, h1, e1⟩ := id c1
    rw [e1]
    refine dx_table_t h1 (br_f dz_n10 ?_)
    exact dx_column_f (fun c2 => h ⟨c1, c2⟩) (br_t rfl hp)
  · exact dx_table_f c1 (br_t rfl hp)
theorem dy_kth_bad {post : Int32 → Prop} {v1 v2 v3 : Int32} (h : ¬ (dz_v 3 v1 ∧ dz_v 3 v2)) (hp : post (-1000)) : wpY_kth post (fo, fc, fr, Z, A, W, B, R) v1 v2 v3 := by
  unfold wpY_kth
  dsimp only
  by_cases c1 : dz_v 3 v1
  · obtain ⟨j1, h1, e1⟩ := id c1
    rw [e1]
    refine dy_table_t h1 (br_f dz_n10 ?_)
    exact dy_table_f (fun c2 => h ⟨c1, c2⟩) (br_t rfl hp)
  · exact dy_table_f c1 (br_t rfl hp)
theorem dx_index_bad {post : Int32 → Prop} {v1 v2 v3 : Int32} (h : ¬ (dz_v 3 v1 ∧ dz_v 3 v2)) (hp : post (0)) : wpX_index post (fo, fc, fr, A, Z, B, W, R) v1 v2 v3 := by
  unfold wpX_index
  dsimp only
  by_cases c1 : dz_v 3 v1
  · obtain ⟨j1, h1, e1⟩ := id c1
    rw [e1]
    refine dx_table_t h1 (br_f dz_n10 ?_)
    exact dx_column_f (fun c2 => h ⟨c1, c2⟩) (br_t rfl hp)
  · exact dx_table_f c1 (br_t rfl hp)
theorem dy_index_bad {post : Int32 → Prop} {v1 v2 v3 : Int32} (h : ¬ (dz_v 3 v1 ∧ dz_v 3 v2)) (hp : post (0)) : wpY_index post (fo, fc, fr, Z, A, W, B, R) v1 v2 v3 := by
  unfold wpY_index
  dsimp only
  by_cases c1 : dz_v 3 v1
  · obtain ⟨j1, h1, e1⟩ := id c1
    rw [e1]
    refine dy_table_t h1 (br_f dz_n10 ?_)
    exact dy_table_f (fun c2 => h ⟨c1, c2⟩) (br_t rfl hp)
  · exact dy_table_f c1 (br_t rfl hp)
theorem dx_insert_full {post : Int32 → SX → Prop} {t n : Nat} {a b c : Int32} (h1 : t < 3) (h2 : dz_ok a) (h3 : dz_ok b) (h4 : dz_ok c) (hn : n ≤ 24) (ez : Z t = nI n) {cy : Int32} (hf : 24 ≤ n ∨ dz_Full fo fc cy 1) (hp : post (-2000) (fo, fc, fr, A, Z, B, W, R)) : wpX_insert post (fo, fc, fr, A, Z, B, W, R) (nI t) a b c := by
  unfold wpX_insert
  dsimp only
  refine dx_table_t h1 (br_f dz_n10 (dx_number_t h2 (br_f dz_n10 (dx_number_t h3 (br_f dz_n10 (dx_number_t h4 (br_f dz_n10 (⟨vp_in_nI h1 (by omega), ?_⟩))))))))
  rw [nI_clamp (n := t) (by omega), ez]
  by_cases c24 : 24 ≤ n
  · exact br_t (nI_le (a := 24) c24 (by omega)) hp
  · exact br_f (nI_ge (b := 24) (by omega) (by omega)) (dx_room_f (k := 1) (hf.resolve_left c24) (br_t rfl hp))
theorem dx_insert_ok {post : Int32 → SX → Prop} {t n : Nat} {a b c : Int32} (h1 : t < 3) (h2 : dz_ok a) (h3 : dz_ok b) (h4 : dz_ok c) (hn : n < 24) (ez : Z t = nI n) {cy cx' : Int32} (hf : dz_Fit fo fc cy cx' 1) (hp : post (nI (n + 1)) (fo, cx', fr, dz_w3 A (72 * t + 3 * n) a b c, upd Z t (nI (n + 1)), B, W, R)) : wpX_insert post (fo, fc, fr, A, Z, B, W, R) (nI t) a b c := by
  unfold wpX_insert
  dsimp only
  refine dx_table_t h1 (br_f dz_n10 (dx_number_t h2 (br_f dz_n10 (dx_number_t h3 (br_f dz_n10 (dx_number_t h4 (br_f dz_n10 (⟨vp_in_nI h1 (by omega), ?_⟩))))))))
  rw [nI_clamp (n := t) (by omega), ez]
  refine br_f (nI_ge (b := 24) (by omega) (by omega)) (dx_room_t (k := 1) hf (br_f dz_n10 ⟨vp_in_nI h1 (by omega), ?_⟩))
  refine dx_cellOf (c := 0) ?_
  show vp_in (nI (72 * t + 3 * n)) 216 ∧ _
  rw [Nat.add_zero, nI_1 (72 * t + 3 * n), dz_p2 (72 * t + 3 * n), nI_clamp (n := 72 * t + 3 * n) (by omega), nI_clamp (n := 72 * t + 3 * n + 1) (by omega), nI_clamp (n := 72 * t + 3 * n + 2) (by omega), nI_1 n]
  refine ⟨vp_in_nI (by omega) (by omega), nm_e ⟨vp_in_nI (by omega) (by omega), nm_e ⟨vp_in_nI (by omega) (by omega), nm_e ⟨vp_in_nI h1 (by omega), vp_in_nI h1 (by omega), nm_e (dx_note (k := 1) hf ⟨vp_in_nI h1 (by omega), ?_⟩)⟩⟩⟩⟩
  show post (upd Z t (nI (n + 1)) t) (fo, cx', fr, dz_w3 A (72 * t + 3 * n) a b c, upd Z t (nI (n + 1)), B, W, R)
  rw [pk_us]
  exact hp
theorem dy_insert_full {post : Int32 → SY → Prop} {t n : Nat} {a b c : Int32} (h1 : t < 3) (h2 : dz_ok a) (h3 : dz_ok b) (h4 : dz_ok c) (hn : n ≤ 24) (ez : Z t = nI n) {cx : Int32} (hf : 24 ≤ n ∨ dz_Full fo cx fc 1) (hp : post (-2000) (fo, fc, fr, Z, A, W, B, R)) : wpY_insert post (fo, fc, fr, Z, A, W, B, R) (nI t) a b c := by
  unfold wpY_insert
  dsimp only
  refine dy_table_t h1 (br_f dz_n10 (dy_number_t h2 (br_f dz_n10 (dy_number_t h3 (br_f dz_n10 (dy_number_t h4 (br_f dz_n10 (⟨vp_in_nI h1 (by omega), ?_⟩))))))))
  rw [nI_clamp (n := t) (by omega), ez]
  by_cases c24 : 24 ≤ n
  · exact br_t (nI_le (a := 24) c24 (by omega)) hp
  · exact br_f (nI_ge (b := 24) (by omega) (by omega)) (dy_room_f (k := 1) (hf.resolve_left c24) (br_f dz_n10 hp))
theorem dy_insert_ok {post : Int32 → SY → Prop} {t n : Nat} {a b c : Int32} (h1 : t < 3) (h2 : dz_ok a) (h3 : dz_ok b) (h4 : dz_ok c) (hn : n < 24) (ez : Z t = nI n) {cx cx' : Int32} (hf : dz_Fit fo cx fc cx' 1) (hp : post (nI (n + 1)) (fo, fc + 1, fr, upd Z t (nI (n + 1)), dz_w3 A (72 * t + 3 * n) a b c, W, B, R)) : wpY_insert post (fo, fc, fr, Z, A, W, B, R) (nI t) a b c := by
  unfold wpY_insert
  dsimp only
  refine dy_table_t h1 (br_f dz_n10 (dy_number_t h2 (br_f dz_n10 (dy_number_t h3 (br_f dz_n10 (dy_number_t h4 (br_f dz_n10 (⟨vp_in_nI h1 (by omega), ?_⟩))))))))
  rw [nI_clamp (n := t) (by omega), ez]
  refine br_f (nI_ge (b := 24) (by omega) (by omega)) (dy_room_t (k := 1) hf (br_t rfl ⟨vp_in_nI h1 (by omega), dy_put (c := 0) h1 hn (by omega) ⟨vp_in_nI h1 (by omega), ?_⟩⟩))
  dsimp only
  rw [ez]
  refine dy_put (c := 1) h1 hn (by omega) ⟨vp_in_nI h1 (by omega), ?_⟩
  dsimp only
  rw [ez]
  refine dy_put (c := 2) h1 hn (by omega) ⟨vp_in_nI h1 (by omega), vp_in_nI h1 (by omega), ?_⟩
  dsimp only
  rw [ez, nI_1 n]
  refine nm_e (nm_e ⟨vp_in_nI h1 (by omega), ?_⟩)
  show post (upd Z t (nI (n + 1)) t) (fo, fc + 1, fr, upd Z t (nI (n + 1)), dz_w3 A (72 * t + 3 * n) a b c, W, B, R)
  rw [pk_us]
  exact hp
theorem dx_delete_full {post : Int32 → SX → Prop} {t q n : Nat} {v : Int32} (h1 : t < 3) (h2 : q < 15) (hn : n ≤ 24) (ez : Z t = nI n) {cy : Int32} (hf : dz_Full fo fc cy (dz_cn (dz_mt A t q v) n)) (hp : post (-2000) (fo, fc, fr, A, Z, B, W, R)) : wpX_delete post (fo, fc, fr, A, Z, B, W, R) (nI t) (nI q) v := by
  unfold wpX_delete
  dsimp only
  exact dx_table_t h1 (br_f dz_n10 (dx_condition_t h2 (br_f dz_n10 (dx_count h1 h2 hn ez (dx_room_f hf (br_t rfl hp))))))
theorem dx_delete_ok {post : Int32 → SX → Prop} {t q n : Nat} {v : Int32} (h1 : t < 3) (h2 : q < 15) (hn : n ≤ 24) (ez : Z t = nI n) {cy cx' : Int32} (hf : dz_Fit fo fc cy cx' (dz_cn (dz_mt A t q v) n)) (hp : post (nI (dz_cn (dz_mt A t q v) n)) (fo, cx', fr, (dz_dl t q v A n).1, upd Z t (nI (dz_dl t q v A n).2), B, W, R)) : wpX_delete post (fo, fc, fr, A, Z, B, W, R) (nI t) (nI q) v := by
  unfold wpX_delete
  dsimp only
  exact dx_table_t h1 (br_f dz_n10 (dx_condition_t h2 (br_f dz_n10 (dx_count h1 h2 hn ez (dx_room_t hf (br_f dz_n10 (dx_keep h1 h2 hn ez (dx_note hf hp))))))))
theorem dy_delete_full {post : Int32 → SY → Prop} {t q n : Nat} {v : Int32} (h1 : t < 3) (h2 : q < 15) (hn : n ≤ 24) (ez : Z t = nI n) {cx : Int32} (hf : dz_Full fo cx fc (dz_cn (dz_mt A t q v) n)) (hp : post (-2000) (fo, fc, fr, Z, A, W, B, R)) : wpY_delete post (fo, fc, fr, Z, A, W, B, R) (nI t) (nI q) v := by
  unfold wpY_delete
  dsimp only
  exact dy_table_t h1 (br_f dz_n10 (dy_condition_t h2 (br_f dz_n10 (dy_count h1 h2 hn ez (dy_room_f hf (br_f dz_n10 hp))))))
theorem dy_delete_ok {post : Int32 → SY → Prop} {t q n : Nat} {v : Int32} (h1 : t < 3) (h2 : q < 15) (hn : n ≤ 24) (ez : Z t = nI n) {cx cx' : Int32} (hf : dz_Fit fo cx fc cx' (dz_cn (dz_mt A t q v) n)) (hp : post (nI (dz_cn (dz_mt A t q v) n)) (fo, fc + nI (dz_cn (dz_mt A t q v) n), fr, upd Z t (nI (dz_dl t q v A n).2), (dz_dl t q v A n).1, W, B, R)) : wpY_delete post (fo, fc, fr, Z, A, W, B, R) (nI t) (nI q) v := by
  unfold wpY_delete
  dsimp only
  exact dy_table_t h1 (br_f dz_n10 (dy_condition_t h2 (br_f dz_n10 (dy_count h1 h2 hn ez (dy_room_t hf (br_t rfl ⟨n + 1, dy_del_l h1 h2 hn ez hp n 0 (by omega)⟩))))))
theorem dx_update_bad {post : Int32 → SX → Prop} {v1 v2 v3 v4 : Int32} (h : ¬ (dz_v 3 v1 ∧ dz_v 15 v2 ∧ dz_v 597 v4)) (hp : post (-1000) (fo, fc, fr, A, Z, B, W, R)) : wpX_update post (fo, fc, fr, A, Z, B, W, R) v1 v2 v3 v4 := by
  unfold wpX_update
  dsimp only
  by_cases c1 : dz_v 3 v1
  · obtain ⟨j1, h1, e1⟩ := id c1
    rw [e1]
    refine dx_table_t h1 (br_f dz_n10 ?_)
    by_cases c2 : dz_v 15 v2
    · obtain ⟨j2, h2, e2⟩ := id c2
      rw [e2]
      refine dx_condition_t h2 (br_f dz_n10 (br_c (fun _ => hp) (fun h4 => br_f (fun z => ?_) hp)))
      obtain ⟨s, hs, e⟩ := nI_of h4
      rw [e] at z
      have z2 := (nI_ltI (b := 597) hs (by omega)).mp z
      exact h ⟨c1, c2, s, by omega, e⟩
    · exact dx_condition_f c2 (br_t rfl hp)
  · exact dx_table_f c1 (br_t rfl hp)
theorem dx_update_full {post : Int32 → SX → Prop} {t q s n : Nat} {v : Int32} (h1 : t < 3) (h2 : q < 15) (hs : s < 597) (hn : n ≤ 24) (ez : Z t = nI n) {cy : Int32} (hf : dz_Full fo fc cy (dz_cn (dz_mt A t q v) n)) (hp : post (-2000) (fo, fc, fr, A, Z, B, W, R)) : wpX_update post (fo, fc, fr, A, Z, B, W, R) (nI t) (nI q) v (nI s) := by
  unfold wpX_update
  dsimp only
  exact dx_table_t h1 (br_f dz_n10 (dx_condition_t h2 (br_f dz_n10 (br_f (nI_pos (by omega)) (br_t (nI_lt (b := 597) hs (by omega)) (dx_count h1 h2 hn ez (dx_room_f hf (br_t rfl hp))))))))
theorem dx_update_ok {post : Int32 → SX → Prop} {t q s n : Nat} {v : Int32} (h1 : t < 3) (h2 : q < 15) (hs : s < 597) (hn : n ≤ 24) (ez : Z t = nI n) {cy cx' : Int32} (hf : dz_Fit fo fc cy cx' (dz_cn (dz_mt A t q v) n)) (hp : post (nI (dz_cn (dz_mt A t q v) n)) (fo, cx', fr, dz_ud t q v (s % 3) (dz_nv (s / 3)) A n, Z, B, W, R)) : wpX_update post (fo, fc, fr, A, Z, B, W, R) (nI t) (nI q) v (nI s) := by
  unfold wpX_update
  dsimp only
  exact dx_table_t h1 (br_f dz_n10 (dx_condition_t h2 (br_f dz_n10 (br_f (nI_pos (by omega)) (br_t (nI_lt (b := 597) hs (by omega)) (dx_count h1 h2 hn ez (dx_room_t hf (br_f dz_n10 ⟨dz_n30, nm_r (dz_rem3 (by omega)) ⟨dz_n30, nm_r (dz_set (by omega)) ⟨n + 1, dx_upd_l h1 h2 (by omega) hn ez hf hp n 0 (by omega)⟩⟩⟩))))))))
theorem dy_update_bad {post : Int32 → SY → Prop} {v1 v2 v3 v4 : Int32} (h : ¬ (dz_v 3 v1 ∧ dz_v 15 v2 ∧ dz_v 597 v4)) (hp : post (-1000) (fo, fc, fr, Z, A, W, B, R)) : wpY_update post (fo, fc, fr, Z, A, W, B, R) v1 v2 v3 v4 := by
  unfold wpY_update
  dsimp only
  by_cases c1 : dz_v 3 v1
  · obtain ⟨j1, h1, e1⟩ := id c1
    rw [e1]
    refine dy_table_t h1 (br_f dz_n10 ?_)
    by_cases c2 : dz_v 15 v2
    · obtain ⟨j2, h2, e2⟩ := id c2
      rw [e2]
      refine dy_condition_t h2 (br_f dz_n10 (br_c (fun _ => hp) (fun h4 => br_f (fun z => ?_) hp)))
      obtain ⟨s, hs, e⟩ := nI_of h4
      rw [e] at z
      have z2 := (nI_leI (b := 596) hs (by omega)).mp z
      exact h ⟨c1, c2, s, by omega, e⟩
    · exact dy_condition_f c2 (br_t rfl hp)
  · exact dy_table_f c1 (br_t rfl hp)
theorem dy_update_full {post : Int32 → SY → Prop} {t q s n : Nat} {v : Int32} (h1 : t < 3) (h2 : q < 15) (hs : s < 597) (hn : n ≤ 24) (ez : Z t = nI n) {cx : Int32} (hf : dz_Full fo cx fc (dz_cn (dz_mt A t q v) n)) (hp : post (-2000) (fo, fc, fr, Z, A, W, B, R)) : wpY_update post (fo, fc, fr, Z, A, W, B, R) (nI t) (nI q) v (nI s) := by
  unfold wpY_update
  dsimp only
  exact dy_table_t h1 (br_f dz_n10 (dy_condition_t h2 (br_f dz_n10 (br_f (nI_pos (by omega)) (br_t (nI_le (b := 596) (by omega) (by omega)) (dy_count h1 h2 hn ez (dy_room_f hf (br_f dz_n10 hp))))))))
theorem dy_update_ok {post : Int32 → SY → Prop} {t q s n : Nat} {v : Int32} (h1 : t < 3) (h2 : q < 15) (hs : s < 597) (hn : n ≤ 24) (ez : Z t = nI n) {cx cx' : Int32} (hf : dz_Fit fo cx fc cx' (dz_cn (dz_mt A t q v) n)) (hp : post (nI (dz_cn (dz_mt A t q v) n)) (fo, fc + nI (dz_cn (dz_mt A t q v) n), fr, Z, dz_ud t q v (s % 3) (dz_nv (s / 3)) A n, W, B, R)) : wpY_update post (fo, fc, fr, Z, A, W, B, R) (nI t) (nI q) v (nI s) := by
  unfold wpY_update
  dsimp only
  exact dy_table_t h1 (br_f dz_n10 (dy_condition_t h2 (br_f dz_n10 (br_f (nI_pos (by omega)) (br_t (nI_le (b := 596) (by omega) (by omega)) (dy_count h1 h2 hn ez (dy_room_t hf (br_t rfl ⟨n + 1, dy_upd_l h1 h2 hs hn ez hp n 0 (by omega)⟩))))))))
theorem dx_count_ok {post : Int32 → Prop} {t q n : Nat} {v : Int32} (h1 : t < 3) (h2 : q < 15) (hn : n ≤ 24) (ez : Z t = nI n) (hp : post (nI (dz_cn (dz_mt A t q v) n))) : wpX_count post (fo, fc, fr, A, Z, B, W, R) (nI t) (nI q) v := by
  unfold wpX_count
  dsimp only
  exact dx_table_t h1 (br_f dz_n10 (dx_condition_t h2 (br_f dz_n10 (dx_count h1 h2 hn ez hp))))
theorem dx_sum_ok {post : Int32 → Prop} {t c q n : Nat} {v : Int32} (h1 : t < 3) (h2 : c < 3) (h3 : q < 15) (hn : n ≤ 24) (ez : Z t = nI n) (hp : post (dz_in (dz_mt A t q v) (fun r => A (72 * t + 3 * r + c)) 0 n)) : wpX_sum post (fo, fc, fr, A, Z, B, W, R) (nI t) (nI c) (nI q) v := by
  unfold wpX_sum
  dsimp only
  exact dx_table_t h1 (br_f dz_n10 (dx_column_t h2 (br_f dz_n10 (dx_condition_t h3 (br_f dz_n10 (⟨n + 1, dx_sum_l h1 h3 h2 hn ez hp n 0 (by omega)⟩))))))
theorem dx_join_ok {post : Int32 → Prop} {t u q n m : Nat} (h1 : t < 3) (h2 : u < 3) (h3 : q < 9) (hn : n ≤ 24) (hm : m ≤ 24) (ez : Z t = nI n) (ey : Z u = nI m) (hp : post (dz_out (dz_jp A t u q) (fun _ _ => 1) m n)) : wpX_join post (fo, fc, fr, A, Z, B, W, R) (nI t) (nI u) (nI q) := by
  unfold wpX_join
  dsimp only
  exact dx_table_t h1 (br_f dz_n10 (dx_table_t h2 (br_f dz_n10 (dx_pair_t h3 (br_f dz_n10 (⟨n + 1, dx_join_l h1 h2 h3 hn hm ez ey hp n 0 (by omega)⟩))))))
theorem dx_joinSum_ok {post : Int32 → Prop} {t u q w n m : Nat} (h1 : t < 3) (h2 : u < 3) (h3 : q < 9) (h4 : w < 9) (hn : n ≤ 24) (hm : m ≤ 24) (ez : Z t = nI n) (ey : Z u = nI m) (hp : post (dz_out (dz_jp A t u q) (dz_jh A t u w) m n)) : wpX_joinSum post (fo, fc, fr, A, Z, B, W, R) (nI t) (nI u) (nI q) (nI w) := by
  unfold wpX_joinSum
  dsimp only
  exact dx_table_t h1 (br_f dz_n10 (dx_table_t h2 (br_f dz_n10 (dx_pair_t h3 (br_f dz_n10 (dx_pair_t h4 (br_f dz_n10 (⟨n + 1, dx_jsum_l h1 h2 h3 h4 hn hm ez ey hp n 0 (by omega)⟩))))))))
theorem dx_index_ok {post : Int32 → Prop} {t c : Nat} {v : Int32} (h1 : t < 3) (h2 : c < 3) (hp : post 1) : wpX_index post (fo, fc, fr, A, Z, B, W, R) (nI t) (nI c) v := by
  unfold wpX_index
  dsimp only
  exact dx_table_t h1 (br_f dz_n10 (dx_column_t h2 (br_f dz_n10 (hp))))
theorem dy_count_ok {post : Int32 → Prop} {t q n : Nat} {v : Int32} (h1 : t < 3) (h2 : q < 15) (hn : n ≤ 24) (ez : Z t = nI n) (hp : post (nI (dz_cn (dz_mt A t q v) n))) : wpY_count post (fo, fc, fr, Z, A, W, B, R) (nI t) (nI q) v := by
  unfold wpY_count
  dsimp only
  exact dy_table_t h1 (br_f dz_n10 (dy_condition_t h2 (br_f dz_n10 (dy_count h1 h2 hn ez hp))))
theorem dy_sum_ok {post : Int32 → Prop} {t c q n : Nat} {v : Int32} (h1 : t < 3) (h2 : c < 3) (h3 : q < 15) (hn : n ≤ 24) (ez : Z t = nI n) (hp : post (dz_in (dz_mt A t q v) (fun r => A (72 * t + 3 * r + c)) 0 n)) : wpY_sum post (fo, fc, fr, Z, A, W, B, R) (nI t) (nI c) (nI q) v := by
  unfold wpY_sum
  dsimp only
  exact dy_table_t h1 (br_f dz_n10 (dy_condition_t h3 (br_f dz_n10 (dy_table_t h2 (br_f dz_n10 (⟨n + 1, dy_sum_l h1 h3 h2 hn ez hp n 0 (by omega)⟩))))))
theorem dy_join_ok {post : Int32 → Prop} {t u q n m : Nat} (h1 : t < 3) (h2 : u < 3) (h3 : q < 9) (hn : n ≤ 24) (hm : m ≤ 24) (ez : Z t = nI n) (ey : Z u = nI m) (hp : post (dz_out (dz_jp A t u q) (fun _ _ => 1) m n)) : wpY_join post (fo, fc, fr, Z, A, W, B, R) (nI t) (nI u) (nI q) := by
  unfold wpY_join
  dsimp only
  exact dy_table_t h1 (br_f dz_n10 (dy_table_t h2 (br_f dz_n10 (dy_nine_t h3 (br_f dz_n10 (⟨n + 1, dy_join_l h1 h2 h3 hn hm ez ey hp n 0 (by omega)⟩))))))
theorem dy_joinSum_ok {post : Int32 → Prop} {t u q w n m : Nat} (h1 : t < 3) (h2 : u < 3) (h3 : q < 9) (h4 : w < 9) (hn : n ≤ 24) (hm : m ≤ 24) (ez : Z t = nI n) (ey : Z u = nI m) (hp : post (dz_out (dz_jp A t u q) (dz_jh A t u w) m n)) : wpY_joinSum post (fo, fc, fr, Z, A, W, B, R) (nI t) (nI u) (nI q) (nI w) := by
  unfold wpY_joinSum
  dsimp only
  exact dy_table_t h1 (br_f dz_n10 (dy_table_t h2 (br_f dz_n10 (dy_nine_t h3 (br_f dz_n10 (dy_nine_t h4 (br_f dz_n10 (⟨n + 1, dy_jsum_l h1 h2 h3 h4 hn hm ez ey hp n 0 (by omega)⟩))))))))
theorem dy_index_ok {post : Int32 → Prop} {t c : Nat} {v : Int32} (h1 : t < 3) (h2 : c < 3) (hp : post 1) : wpY_index post (fo, fc, fr, Z, A, W, B, R) (nI t) (nI c) v := by
  unfold wpY_index
  dsimp only
  exact dy_table_t h1 (br_f dz_n10 (dy_table_t h2 (br_f dz_n10 (hp))))
theorem dx_distinct_ok {post : Int32 → Prop} {t c n : Nat} (h1 : t < 3) (h2 : c < 3) (hn : n ≤ 24) (ez : Z t = nI n) (hA : ∀ j, dz_ok (A j)) (hp : post (nI (dz_cn (dz_hd (dz_f A t c) n) 199))) : wpX_distinct post (fo, fc, fr, A, Z, B, W, R) (nI t) (nI c) := by
  have k0 := dx_dist_l (fo := fo) (fc := fc) (fr := fr) (B := B) (W := W) (R := R) h1 h2 hn ez hA hp 199 0 (by omega)
  rw [dz_nv_0] at k0
  unfold wpX_distinct
  dsimp only
  exact dx_table_t h1 (br_f dz_n10 (dx_column_t h2 (br_f dz_n10 ⟨200, k0⟩)))
theorem dy_distinct_ok {post : Int32 → Prop} {t c n : Nat} (h1 : t < 3) (h2 : c < 3) (hn : n ≤ 24) (ez : Z t = nI n) (hA : ∀ j, dz_ok (A j)) (hp : post (nI (dz_cn (dz_hd (dz_f A t c) n) 199))) : wpY_distinct post (fo, fc, fr, Z, A, W, B, R) (nI t) (nI c) := by
  unfold wpY_distinct
  dsimp only
  refine dy_table_t h1 (br_f dz_n10 (dy_table_t h2 (br_f dz_n10 (dy_next (p := 0) h1 h2 hn ez hA dz_m100 (by omega) (fun q hN => ⟨200, ?_⟩)))))
  have k0 := dy_dist_l (fo := fo) (fc := fc) (fr := fr) (B := B) (W := W) (R := R) h1 h2 hn ez hA hp 200 q (by omega) hN.2.1 (fun z => dz_nx_hit hN z)
  rw [dz_nx_gap hN] at k0
  exact k0
theorem dx_kth_ok {post : Int32 → Prop} {t c n : Nat} {K : Int32} (h1 : t < 3) (h2 : c < 3) (hn : n ≤ 24) (ez : Z t = nI n) (hA : ∀ j, dz_ok (A j)) (hp : ∀ r, dz_Ks (dz_f A t c) n K r → post r) : wpX_kth post (fo, fc, fr, A, Z, B, W, R) (nI t) (nI c) K := by
  have k0 := dx_kth_l (fo := fo) (fc := fc) (fr := fr) (B := B) (W := W) (R := R) h1 h2 hn ez hA hp 199 0 (by omega) (fun j hj => absurd hj (by omega))
  rw [dz_nv_0] at k0
  unfold wpX_kth
  dsimp only
  exact dx_table_t h1 (br_f dz_n10 (dx_column_t h2 (br_f dz_n10 ⟨200, k0⟩)))
theorem dy_kth_ok {post : Int32 → Prop} {t c n : Nat} {K : Int32} (h1 : t < 3) (h2 : c < 3) (hn : n ≤ 24) (ez : Z t = nI n) (hA : ∀ j, dz_ok (A j)) (hp : ∀ r, dz_Ks (dz_f A t c) n K r → post r) : wpY_kth post (fo, fc, fr, Z, A, W, B, R) (nI t) (nI c) K := by
  unfold wpY_kth
  dsimp only
  refine dy_table_t h1 (br_f dz_n10 (dy_table_t h2 (br_f dz_n10 (br_c (fun l => hp _ (dz_Ks_lo hn l)) (fun l => br_c (fun g => ?_) (fun g => hp _ (dz_Ks_hi hn g)))))))
  obtain ⟨k, hk, rfl⟩ := nI_of l
  have hk2 : k ≤ 24 := (nI_leI (b := 24) hk (by omega)).mp g
  refine dy_next (p := 0) h1 h2 hn ez hA dz_m100 (by omega) (fun q hN => ⟨25, ?_⟩)
  exact dy_kth_l (fo := fo) (fc := fc) (fr := fr) (B := B) (W := W) (R := R) h1 h2 hn hk2 ez hA hp 25 0 q (by omega) (by omega) hN.2.1 (dz_nx_gap hN) (fun z => dz_nx_hit hN z)
theorem dx_select_ok {post : Int32 → SX → Prop} {t q o n : Nat} {v : Int32} (h1 : t < 3) (h2 : q < 15) (h4 : o < 3) (hn : n ≤ 24) (ez : Z t = nI n) (hA : ∀ j, dz_ok (A j)) (hp : ∀ R', dz_Q R' o (dz_cn (dz_mt A t q v) n) (dz_cb A t q v o n) → dz_Srt (dz_ky R' o) (dz_cn (dz_mt A t q v) n) → post (nI (dz_cn (dz_mt A t q v) n)) (fo, fc, nI (dz_cn (dz_mt A t q v) n), A, Z, B, W, R')) : wpX_select post (fo, fc, fr, A, Z, B, W, R) (nI t) (nI q) v (nI o) := by
  unfold wpX_select
  dsimp only
  exact dx_table_t h1 (br_f dz_n10 (dx_condition_t h2 (br_f dz_n10 (dx_column_t h4 (br_f dz_n10 ⟨n + 1, dx_sel_l h1 h2 h4 hn ez hA hp n 0 R (by omega) (dz_Q_0 R o) (fun _ b _ hb => absurd hb (Nat.not_lt_zero b))⟩)))))
theorem dy_select_ok {post : Int32 → SY → Prop} {t q o n : Nat} {v : Int32} (h1 : t < 3) (h2 : q < 15) (h4 : o < 3) (hn : n ≤ 24) (ez : Z t = nI n) (hA : ∀ j, dz_ok (A j)) (hp : ∀ R', dz_Q R' o (dz_cn (dz_mt A t q v) n) (dz_cb A t q v o n) → dz_Srt (dz_ky R' o) (dz_cn (dz_mt A t q v) n) → post (nI (dz_cn (dz_mt A t q v) n)) (fo, fc, nI (dz_cn (dz_mt A t q v) n), Z, A, W, B, R')) : wpY_select post (fo, fc, fr, Z, A, W, B, R) (nI t) (nI q) v (nI o) := by
  unfold wpY_select
  dsimp only
  exact dy_table_t h1 (br_f dz_n10 (dy_condition_t h2 (br_f dz_n10 (dy_table_t h4 (br_f dz_n10 ⟨n + 1, dy_sel_l h1 h2 h4 hn ez hA hp n 0 R (by omega) (dz_Q_0 R o)⟩)))))
theorem dx_row_bad {post : Int32 → Prop} {m : Nat} {v1 v2 : Int32} (hm : m ≤ 24) (h : ¬ (dz_v m v1 ∧ dz_v 3 v2)) (hp : post (-1000)) : wpX_row post (fo, fc, nI m, A, Z, B, W, R) v1 v2 := by
  unfold wpX_row
  dsimp only
  refine br_c (fun _ => hp) (fun l => br_c (fun _ => hp) (fun g => dx_column_f (fun c2 => h ⟨?_, c2⟩) (br_t rfl hp)))
  obtain ⟨j, hj, e⟩ := nI_of l
  rw [e, nI_leI (by omega) hj] at g
  exact ⟨j, by omega, e⟩
theorem dy_row_bad {post : Int32 → Prop} {m : Nat} {v1 v2 : Int32} (hm : m ≤ 24) (h : ¬ (dz_v m v1 ∧ dz_v 3 v2)) (hp : post (-1000)) : wpY_row post (fo, fc, nI m, Z, A, W, B, R) v1 v2 := by
  unfold wpY_row
  dsimp only
  refine br_c (fun _ => hp) (fun l => br_c (fun _ => hp) (fun g => dy_table_f (fun c2 => h ⟨?_, c2⟩) (br_t rfl hp)))
  obtain ⟨j, hj, e⟩ := nI_of l
  rw [e, nI_leI (by omega) hj] at g
  exact ⟨j, by omega, e⟩
theorem dx_row_ok {post : Int32 → Prop} {m i c : Nat} (hm : m ≤ 24) (hi : i < m) (hc : c < 3) (hp : post (R (3 * i + c))) : wpX_row post (fo, fc, nI m, A, Z, B, W, R) (nI i) (nI c) := by
  unfold wpX_row
  dsimp only
  rw [dz_ixR i c, nI_clamp (n := 3 * i + c) (by omega)]
  exact br_f (nI_pos (by omega)) (br_f (nI_ge hi (by omega)) (dx_column_t hc (br_f dz_n10 ⟨vp_in_nI (by omega) (by omega), hp⟩)))
theorem dy_row_ok {post : Int32 → Prop} {m i c : Nat} (hm : m ≤ 24) (hi : i < m) (hc : c < 3) (hp : post (R (3 * i + c))) : wpY_row post (fo, fc, nI m, Z, A, W, B, R) (nI i) (nI c) := by
  unfold wpY_row
  dsimp only
  rw [dz_ixS i c, nI_clamp (n := 3 * i + c) (by omega)]
  exact br_f (nI_pos (by omega)) (br_f (nI_ge hi (by omega)) (dy_table_t hc (br_f dz_n10 ⟨vp_in_nI (by omega) (by omega), hp⟩)))
end
end
section
/-! what is owed -/
section
variable {fo fc fr : Int32} {A Z B W R : Nat → Int32}
theorem dx_begin_ok {post : Int32 → SX → Prop} (h : fo = 0) (hp : post 1 (1, fc, fr, A, Z, dz_cp A B 216, dz_cp Z W 3, R)) : wpX_begin post (fo, fc, fr, A, Z, B, W, R) := by
  unfold wpX_begin
  dsimp only
  exact br_t h (dx_cp_cells_savedCells (dx_cp_sizes_savedSizes hp))
theorem dx_begin_no {post : Int32 → SX → Prop} (h : ¬ fo = 0) (hp : post 0 (fo, fc, fr, A, Z, B, W, R)) : wpX_begin post (fo, fc, fr, A, Z, B, W, R) := br_f h hp
theorem dy_begin_ok {post : Int32 → SY → Prop} (h : fo = 0) (hp : post 1 (1, 0, fr, Z, A, dz_cp Z W 3, dz_cp A B 216, R)) : wpY_begin post (fo, fc, fr, Z, A, W, B, R) := by
  unfold wpY_begin
  dsimp only
  exact br_t h (dy_begin_21 (dy_begin_46 hp))
theorem dy_begin_no {post : Int32 → SY → Prop} (h : ¬ fo = 0) (hp : post 0 (fo, fc, fr, Z, A, W, B, R)) : wpY_begin post (fo, fc, fr, Z, A, W, B, R) := br_f h hp
theorem dx_commit_no {post : Int32 → SX → Prop} (h : fo = 0) (hp : post (-1000) (fo, fc, fr, A, Z, B, W, R)) : wpX_commit post (fo, fc, fr, A, Z, B, W, R) := br_t h hp
theorem dx_commit_ok {post : Int32 → SX → Prop} (h : ¬ fo = 0) (hp : post fc (0, 0, fr, A, Z, B, W, R)) : wpX_commit post (fo, fc, fr, A, Z, B, W, R) := br_f h hp
theorem dy_commit_no {post : Int32 → SY → Prop} (h : fo = 0) (hp : post (-1000) (fo, fc, fr, Z, A, W, B, R)) : wpY_commit post (fo, fc, fr, Z, A, W, B, R) := br_t h hp
theorem dy_commit_ok {post : Int32 → SY → Prop} (h : ¬ fo = 0) (hp : post fc (0, fc, fr, Z, A, W, B, R)) : wpY_commit post (fo, fc, fr, Z, A, W, B, R) := br_f h hp
theorem dx_bring {post : SX → Prop} (hp : post (fo, fc, fr, dz_cp B A 216, dz_cp W Z 3, B, W, R)) : wpX_bringBack post (fo, fc, fr, A, Z, B, W, R) := by
  unfold wpX_bringBack
  dsimp only
  exact dx_cp_savedCells_cells (dx_cp_savedSizes_sizes hp)
theorem dx_rollback_no {post : Int32 → SX → Prop} (h : fo = 0) (hp : post (-1000) (fo, fc, fr, A, Z, B, W, R)) : wpX_rollback post (fo, fc, fr, A, Z, B, W, R) := br_t h hp
theorem dx_rollback_ok {post : Int32 → SX → Prop} (h : ¬ fo = 0) (hp : post fc (0, 0, fr, dz_cp B A 216, dz_cp W Z 3, B, W, R)) : wpX_rollback post (fo, fc, fr, A, Z, B, W, R) := by
  unfold wpX_rollback
  dsimp only
  exact br_f h (dx_bring hp)
theorem dy_rollback_no {post : Int32 → SY → Prop} (h : fo = 0) (hp : post (-1000) (fo, fc, fr, Z, A, W, B, R)) : wpY_rollback post (fo, fc, fr, Z, A, W, B, R) := br_t h hp
theorem dy_rollback_ok {post : Int32 → SY → Prop} (h : ¬ fo = 0) (hp : post fc (0, fc, fr, dz_cp W Z 3, dz_cp B A 216, W, B, R)) : wpY_rollback post (fo, fc, fr, Z, A, W, B, R) := by
  unfold wpY_rollback
  dsimp only
  exact br_f h (dy_rollback_18 (dy_rollback_43 hp))
theorem dx_crash_no {post : Int32 → SX → Prop} (h : fo = 0) (hp : post fc (0, 0, 0, A, Z, B, W, R)) : wpX_crash post (fo, fc, fr, A, Z, B, W, R) := by
  unfold wpX_crash
  dsimp only
  exact br_t h hp
theorem dx_crash_ok {post : Int32 → SX → Prop} (h : ¬ fo = 0) (hp : post fc (0, 0, 0, dz_cp B A 216, dz_cp W Z 3, B, W, R)) : wpX_crash post (fo, fc, fr, A, Z, B, W, R) := by
  unfold wpX_crash
  dsimp only
  exact br_f h (dx_bring hp)
theorem dy_crash_no {post : Int32 → SY → Prop} (h : fo = 0) (hp : post 0 (fo, fc, 0, Z, A, W, B, R)) : wpY_crash post (fo, fc, fr, Z, A, W, B, R) := by
  unfold wpY_crash
  dsimp only
  exact dy_rollback_no h (br_t rfl hp)
theorem dy_crash_ok {post : Int32 → SY → Prop} (h : ¬ fo = 0) (hc : ¬ fc = -1000) (hp : post fc (0, fc, 0, dz_cp W Z 3, dz_cp B A 216, W, B, R)) : wpY_crash post (fo, fc, fr, Z, A, W, B, R) := by
  unfold wpY_crash
  dsimp only
  exact dy_rollback_ok h (br_f hc hp)
end
theorem dz_nbad {c : Nat} (hc : c ≤ 30) : ¬ nI c = -1000 := by
  intro e
  have h1 := congrArg Int32.toInt e
  have h2 : (-1000 : Int32).toInt = -1000 := by decide
  rw [nI_toInt (by omega), h2] at h1
  omega
def i_Rel (k : Nat) (u : SX) (v : SY) : Prop := ∃ (fo cx cy : Int32) (m : Nat) (A Z B W RX RY : Nat → Int32), u = (fo, cx, nI m, A, Z, B, W, RX) ∧ v = (fo, cy, nI m, Z, A, W, B, RY) ∧ (∀ j, dz_ok (A j)) ∧ (∀ j, dz_ok (B j)) ∧ (∀ j, dz_z (Z j)) ∧ (∀ j, dz_z (W j)) ∧ dz_tr fo cx cy ∧ m ≤ 24 ∧ (∀ j, j < 3 * m → RX j = RY j)
theorem dz_R {k m : Nat} {fo cx cy : Int32} {A Z B W RX RY : Nat → Int32} (hA : ∀ j, dz_ok (A j)) (hB : ∀ j, dz_ok (B j)) (hZ : ∀ j, dz_z (Z j)) (hW : ∀ j, dz_z (W j)) (ht : dz_tr fo cx cy) (hm : m ≤ 24) (hR : ∀ j, j < 3 * m → RX j = RY j) : i_Rel k (fo, cx, nI m, A, Z, B, W, RX) (fo, cy, nI m, Z, A, W, B, RY) :=
  ⟨fo, cx, cy, m, A, Z, B, W, RX, RY, rfl, rfl, hA, hB, hZ, hW, ht, hm, hR⟩
theorem i_up {k : Nat} {u : SX} {v : SY} (h : i_Rel k u v) : i_Rel (k + 5) u v := h
theorem i_vc0 : wpX_init (fun u => wpY_init (fun v => i_Rel 0 u v)) :=
  dz_R (k := 0) (m := 0) (fun _ => dz_ok0) (fun _ => dz_ok0) (fun _ => dz_z0) (fun _ => dz_z0) (Or.inl ⟨rfl, rfl⟩) (by omega) (fun _ _ => rfl)
theorem i_vc_insert {k : Nat} {u : SX} {v : SY} (I : i_Rel k u v) (hk : k + 5 ≤ 2560) (v1 : Int32) (v2 : Int32) (v3 : Int32) (v4 : Int32) : wpX_insert (fun r u' => wpY_insert (fun r' v' => r' = r ∧ i_Rel (k + 5) u' v') v v1 v2 v3 v4) u v1 v2 v3 v4 := by
  obtain ⟨fo, cx, cy, m, A, Z, B, W, RX, RY, rfl, rfl, hA, hB, hZ, hW, ht, hm, hR⟩ := I
  by_cases c : dz_v 3 v1 ∧ dz_ok v2 ∧ dz_ok v3 ∧ dz_ok v4
  · obtain ⟨⟨t, h1, rfl⟩, h2, h3, h4⟩ := c
    obtain ⟨n, hn, ez⟩ := hZ t
    rcases dz_room 1 ht (by omega) with hf | ⟨cx', hf, ht'⟩
    · exact dx_insert_full h1 h2 h3 h4 hn ez (Or.inr hf) (dy_insert_full h1 h2 h3 h4 hn ez (Or.inr hf) ⟨rfl, dz_R hA hB hZ hW ht hm hR⟩)
    · by_cases c24 : 24 ≤ n
      · exact dx_insert_full (cy := 0) h1 h2 h3 h4 hn ez (Or.inl c24) (dy_insert_full (cx := 0) h1 h2 h3 h4 hn ez (Or.inl c24) ⟨rfl, dz_R hA hB hZ hW ht hm hR⟩)
      · exact dx_insert_ok h1 h2 h3 h4 (by omega) ez hf (dy_insert_ok h1 h2 h3 h4 (by omega) ez hf ⟨rfl, dz_R (dz_w3_ok hA h2 h3 h4) hB (dz_upd_z hZ ⟨n + 1, by omega, rfl⟩) hW ht' hm hR⟩)
  · exact dx_insert_bad c (dy_insert_bad c ⟨rfl, dz_R hA hB hZ hW ht hm hR⟩)
theorem i_vc_delete {k : Nat} {u : SX} {v : SY} (I : i_Rel k u v) (hk : k + 5 ≤ 2560) (v1 : Int32) (v2 : Int32) (v3 : Int32) : wpX_delete (fun r u' => wpY_delete (fun r' v' => r' = r ∧ i_Rel (k + 5) u' v') v v1 v2 v3) u v1 v2 v3 := by
  obtain ⟨fo, cx, cy, m, A, Z, B, W, RX, RY, rfl, rfl, hA, hB, hZ, hW, ht, hm, hR⟩ := I
  by_cases c : dz_v 3 v1 ∧ dz_v 15 v2
  · obtain ⟨⟨t, h1, rfl⟩, q, h2, rfl⟩ := c
    obtain ⟨n, hn, ez⟩ := hZ t
    have hl := dz_cn_le (dz_mt A t q v3) n
    have hd := dz_dl_le t q v3 A n
    rcases dz_room (dz_cn (dz_mt A t q v3) n) ht (by omega) with hf | ⟨cx', hf, ht'⟩
    · exact dx_delete_full h1 h2 hn ez hf (dy_delete_full h1 h2 hn ez hf ⟨rfl, dz_R hA hB hZ hW ht hm hR⟩)
    · exact dx_delete_ok h1 h2 hn ez hf (dy_delete_ok h1 h2 hn ez hf ⟨rfl, dz_R (dz_dl_ok hA n) hB (dz_upd_z hZ ⟨_, by omega, rfl⟩) hW ht' hm hR⟩)
  · exact dx_delete_bad c (dy_delete_bad c ⟨rfl, dz_R hA hB hZ hW ht hm hR⟩)
theorem i_vc_update {k : Nat} {u : SX} {v : SY} (I : i_Rel k u v) (hk : k + 5 ≤ 2560) (v1 : Int32) (v2 : Int32) (v3 : Int32) (v4 : Int32) : wpX_update (fun r u' => wpY_update (fun r' v' => r' = r ∧ i_Rel (k + 5) u' v') v v1 v2 v3 v4) u v1 v2 v3 v4 := by
  obtain ⟨fo, cx, cy, m, A, Z, B, W, RX, RY, rfl, rfl, hA, hB, hZ, hW, ht, hm, hR⟩ := I
  by_cases c : dz_v 3 v1 ∧ dz_v 15 v2 ∧ dz_v 597 v4
  · obtain ⟨⟨t, h1, rfl⟩, ⟨q, h2, rfl⟩, s, hs, rfl⟩ := c
    obtain ⟨n, hn, ez⟩ := hZ t
    have hl := dz_cn_le (dz_mt A t q v3) n
    rcases dz_room (dz_cn (dz_mt A t q v3) n) ht (by omega) with hf | ⟨cx', hf, ht'⟩
    · exact dx_update_full h1 h2 hs hn ez hf (dy_update_full h1 h2 hs hn ez hf ⟨rfl, dz_R hA hB hZ hW ht hm hR⟩)
    · exact dx_update_ok h1 h2 hs hn ez hf (dy_update_ok h1 h2 hs hn ez hf ⟨rfl, dz_R (dz_ud_ok hA (dz_nv_ok (by omega)) n) hB hZ hW ht' hm hR⟩)
  · exact dx_update_bad c (dy_update_bad c ⟨rfl, dz_R hA hB hZ hW ht hm hR⟩)
theorem i_vc_begin {k : Nat} {u : SX} {v : SY} (I : i_Rel k u v) (hk : k + 5 ≤ 2560) : wpX_begin (fun r u' => wpY_begin (fun r' v' => r' = r ∧ i_Rel (k + 5) u' v') v) u := by
  obtain ⟨fo, cx, cy, m, A, Z, B, W, RX, RY, rfl, rfl, hA, hB, hZ, hW, ht, hm, hR⟩ := I
  rcases id ht with ⟨e0, e1⟩ | ⟨e0, c, hc, e1, e2⟩
  · exact dx_begin_ok e0 (dy_begin_ok e0 ⟨rfl, dz_R hA (dz_cp_p hA hB) hZ (dz_cp_p hZ hW) (Or.inr ⟨rfl, 0, by omega, e1, rfl⟩) hm hR⟩)
  · have h : ¬ fo = 0 := by rw [e0]; exact dz_n10
    exact dx_begin_no h (dy_begin_no h ⟨rfl, dz_R hA hB hZ hW ht hm hR⟩)
theorem i_vc_commit {k : Nat} {u : SX} {v : SY} (I : i_Rel k u v) (hk : k + 5 ≤ 2560) : wpX_commit (fun r u' => wpY_commit (fun r' v' => r' = r ∧ i_Rel (k + 5) u' v') v) u := by
  obtain ⟨fo, cx, cy, m, A, Z, B, W, RX, RY, rfl, rfl, hA, hB, hZ, hW, ht, hm, hR⟩ := I
  rcases id ht with ⟨e0, e1⟩ | ⟨e0, c, hc, e1, e2⟩
  · exact dx_commit_no e0 (dy_commit_no e0 ⟨rfl, dz_R hA hB hZ hW ht hm hR⟩)
  · have h : ¬ fo = 0 := by rw [e0]; exact dz_n10
    exact dx_commit_ok h (dy_commit_ok h ⟨e2.trans e1.symm, dz_R hA hB hZ hW (Or.inl ⟨rfl, rfl⟩) hm hR⟩)
theorem i_vc_rollback {k : Nat} {u : SX} {v : SY} (I : i_Rel k u v) (hk : k + 5 ≤ 2560) : wpX_rollback (fun r u' => wpY_rollback (fun r' v' => r' = r ∧ i_Rel (k + 5) u' v') v) u := by
  obtain ⟨fo, cx, cy, m, A, Z, B, W, RX, RY, rfl, rfl, hA, hB, hZ, hW, ht, hm, hR⟩ := I
  rcases id ht with ⟨e0, e1⟩ | ⟨e0, c, hc, e1, e2⟩
  · exact dx_rollback_no e0 (dy_rollback_no e0 ⟨rfl, dz_R hA hB hZ hW ht hm hR⟩)
  · have h : ¬ fo = 0 := by rw [e0]; exact dz_n10
    exact dx_rollback_ok h (dy_rollback_ok h ⟨e2.trans e1.symm, dz_R (dz_cp_p hB hA) hB (dz_cp_p hW hZ) hW (Or.inl ⟨rfl, rfl⟩) hm hR⟩)
theorem i_vc_crash {k : Nat} {u : SX} {v : SY} (I : i_Rel k u v) (hk : k + 5 ≤ 2560) : wpX_crash (fun r u' => wpY_crash (fun r' v' => r' = r ∧ i_Rel (k + 5) u' v') v) u := by
  obtain ⟨fo, cx, cy, m, A, Z, B, W, RX, RY, rfl, rfl, hA, hB, hZ, hW, ht, hm, hR⟩ := I
  rcases id ht with ⟨e0, e1⟩ | ⟨e0, c, hc, e1, e2⟩
  · exact dx_crash_no e0 (dy_crash_no e0 ⟨e1.symm, by rw [e0]; exact dz_R (m := 0) hA hB hZ hW (Or.inl ⟨rfl, rfl⟩) (by omega) (fun j hj => absurd hj (by omega))⟩)
  · have h : ¬ fo = 0 := by rw [e0]; exact dz_n10
    exact dx_crash_ok h (dy_crash_ok h (by rw [e2]; exact dz_nbad hc) ⟨e2.trans e1.symm, dz_R (m := 0) (dz_cp_p hB hA) hB (dz_cp_p hW hZ) hW (Or.inl ⟨rfl, rfl⟩) (by omega) (fun j hj => absurd hj (by omega))⟩)
theorem i_vc_index {k : Nat} {u : SX} {v : SY} (I : i_Rel k u v) (hk : k + 5 ≤ 2560) (v1 : Int32) (v2 : Int32) (v3 : Int32) : wpX_index (fun r => wpY_index (fun r' => r' = r ∧ i_Rel (k + 5) u v) v v1 v2 (lw_bz v3)) u v1 v2 (lw_bz v3) := by
  obtain ⟨fo, cx, cy, m, A, Z, B, W, RX, RY, rfl, rfl, hA, hB, hZ, hW, ht, hm, hR⟩ := I
  by_cases c : dz_v 3 v1 ∧ dz_v 3 v2
  · obtain ⟨⟨t, h1, rfl⟩, q, h2, rfl⟩ := c
    exact dx_index_ok h1 h2 (dy_index_ok h1 h2 ⟨rfl, dz_R hA hB hZ hW ht hm hR⟩)
  · exact dx_index_bad c (dy_index_bad c ⟨rfl, dz_R hA hB hZ hW ht hm hR⟩)
theorem i_vc_select {k : Nat} {u : SX} {v : SY} (I : i_Rel k u v) (hk : k + 5 ≤ 2560) (v1 : Int32) (v2 : Int32) (v3 : Int32) (v4 : Int32) : wpX_select (fun r u' => wpY_select (fun r' v' => r' = r ∧ i_Rel (k + 5) u' v') v v1 v2 v3 v4) u v1 v2 v3 v4 := by
  obtain ⟨fo, cx, cy, m, A, Z, B, W, RX, RY, rfl, rfl, hA, hB, hZ, hW, ht, hm, hR⟩ := I
  by_cases c : dz_v 3 v1 ∧ dz_v 15 v2 ∧ dz_v 3 v4
  · obtain ⟨⟨t, h1, rfl⟩, ⟨q, h2, rfl⟩, o, h4, rfl⟩ := c
    obtain ⟨n, hn, ez⟩ := hZ t
    have hl := dz_cn_le (dz_mt A t q v3) n
    exact dx_select_ok h1 h2 h4 hn ez hA (fun R1 q1 s1 => dy_select_ok h1 h2 h4 hn ez hA (fun R2 q2 s2 => ⟨rfl, dz_R hA hB hZ hW ht (by omega) (dz_Q_eq q1 q2 s1 s2)⟩))
  · exact dx_select_bad c (dy_select_bad c ⟨rfl, dz_R hA hB hZ hW ht hm hR⟩)
theorem i_vc_row {k : Nat} {u : SX} {v : SY} (I : i_Rel k u v) (hk : k + 5 ≤ 2560) (v1 : Int32) (v2 : Int32) : wpX_row (fun r => wpY_row (fun r' => r' = r ∧ i_Rel (k + 5) u v) v v1 v2) u v1 v2 := by
  obtain ⟨fo, cx, cy, m, A, Z, B, W, RX, RY, rfl, rfl, hA, hB, hZ, hW, ht, hm, hR⟩ := I
  by_cases c : dz_v m v1 ∧ dz_v 3 v2
  · obtain ⟨⟨i, h1, rfl⟩, q, h2, rfl⟩ := c
    exact dx_row_ok hm h1 h2 (dy_row_ok hm h1 h2 ⟨(hR _ (by omega)).symm, dz_R hA hB hZ hW ht hm hR⟩)
  · exact dx_row_bad hm c (dy_row_bad hm c ⟨rfl, dz_R hA hB hZ hW ht hm hR⟩)
theorem i_vc_count {k : Nat} {u : SX} {v : SY} (I : i_Rel k u v) (hk : k + 5 ≤ 2560) (v1 : Int32) (v2 : Int32) (v3 : Int32) : wpX_count (fun r => wpY_count (fun r' => r' = r ∧ i_Rel (k + 5) u v) v v1 v2 v3) u v1 v2 v3 := by
  obtain ⟨fo, cx, cy, m, A, Z, B, W, RX, RY, rfl, rfl, hA, hB, hZ, hW, ht, hm, hR⟩ := I
  by_cases c : dz_v 3 v1 ∧ dz_v 15 v2
  · obtain ⟨⟨t, h1, rfl⟩, q, h2, rfl⟩ := c
    obtain ⟨n, hn, ez⟩ := hZ t
    exact dx_count_ok h1 h2 hn ez (dy_count_ok h1 h2 hn ez ⟨rfl, dz_R hA hB hZ hW ht hm hR⟩)
  · exact dx_count_bad c (dy_count_bad c ⟨rfl, dz_R hA hB hZ hW ht hm hR⟩)
theorem i_vc_sum {k : Nat} {u : SX} {v : SY} (I : i_Rel k u v) (hk : k + 5 ≤ 2560) (v1 : Int32) (v2 : Int32) (v3 : Int32) (v4 : Int32) : wpX_sum (fun r => wpY_sum (fun r' => r' = r ∧ i_Rel (k + 5) u v) v v1 v2 v3 v4) u v1 v2 v3 v4 := by
  obtain ⟨fo, cx, cy, m, A, Z, B, W, RX, RY, rfl, rfl, hA, hB, hZ, hW, ht, hm, hR⟩ := I
  by_cases c : dz_v 3 v1 ∧ dz_v 3 v2 ∧ dz_v 15 v3
  · obtain ⟨⟨t, h1, rfl⟩, ⟨q, h2, rfl⟩, w, h3, rfl⟩ := c
    obtain ⟨n, hn, ez⟩ := hZ t
    exact dx_sum_ok h1 h2 h3 hn ez (dy_sum_ok h1 h2 h3 hn ez ⟨rfl, dz_R hA hB hZ hW ht hm hR⟩)
  · exact dx_sum_bad c (dy_sum_bad c ⟨rfl, dz_R hA hB hZ hW ht hm hR⟩)
theorem i_vc_join {k : Nat} {u : SX} {v : SY} (I : i_Rel k u v) (hk : k + 5 ≤ 2560) (v1 : Int32) (v2 : Int32) (v3 : Int32) : wpX_join (fun r => wpY_join (fun r' => r' = r ∧ i_Rel (k + 5) u v) v v1 v2 v3) u v1 v2 v3 := by
  obtain ⟨fo, cx, cy, m, A, Z, B, W, RX, RY, rfl, rfl, hA, hB, hZ, hW, ht, hm, hR⟩ := I
  by_cases c : dz_v 3 v1 ∧ dz_v 3 v2 ∧ dz_v 9 v3
  · obtain ⟨⟨t, h1, rfl⟩, ⟨q, h2, rfl⟩, w, h3, rfl⟩ := c
    obtain ⟨n, hn, ez⟩ := hZ t
    obtain ⟨l, hl, ey⟩ := hZ q
    exact dx_join_ok h1 h2 h3 hn hl ez ey (dy_join_ok h1 h2 h3 hn hl ez ey ⟨rfl, dz_R hA hB hZ hW ht hm hR⟩)
  · exact dx_join_bad c (dy_join_bad c ⟨rfl, dz_R hA hB hZ hW ht hm hR⟩)
theorem i_vc_joinSum {k : Nat} {u : SX} {v : SY} (I : i_Rel k u v) (hk : k + 5 ≤ 2560) (v1 : Int32) (v2 : Int32) (v3 : Int32) (v4 : Int32) : wpX_joinSum (fun r => wpY_joinSum (fun r' => r' = r ∧ i_Rel (k + 5) u v) v v1 v2 v3 v4) u v1 v2 v3 v4 := by
  obtain ⟨fo, cx, cy, m, A, Z, B, W, RX, RY, rfl, rfl, hA, hB, hZ, hW, ht, hm, hR⟩ := I
  by_cases c : dz_v 3 v1 ∧ dz_v 3 v2 ∧ dz_v 9 v3 ∧ dz_v 9 v4
  · obtain ⟨⟨t, h1, rfl⟩, ⟨q, h2, rfl⟩, ⟨w, h3, rfl⟩, y, h4, rfl⟩ := c
    obtain ⟨n, hn, ez⟩ := hZ t
    obtain ⟨l, hl, ey⟩ := hZ q
    exact dx_joinSum_ok h1 h2 h3 h4 hn hl ez ey (dy_joinSum_ok h1 h2 h3 h4 hn hl ez ey ⟨rfl, dz_R hA hB hZ hW ht hm hR⟩)
  · exact dx_joinSum_bad c (dy_joinSum_bad c ⟨rfl, dz_R hA hB hZ hW ht hm hR⟩)
theorem i_vc_distinct {k : Nat} {u : SX} {v : SY} (I : i_Rel k u v) (hk : k + 5 ≤ 2560) (v1 : Int32) (v2 : Int32) : wpX_distinct (fun r => wpY_distinct (fun r' => r' = r ∧ i_Rel (k + 5) u v) v v1 v2) u v1 v2 := by
  obtain ⟨fo, cx, cy, m, A, Z, B, W, RX, RY, rfl, rfl, hA, hB, hZ, hW, ht, hm, hR⟩ := I
  by_cases c : dz_v 3 v1 ∧ dz_v 3 v2
  · obtain ⟨⟨t, h1, rfl⟩, q, h2, rfl⟩ := c
    obtain ⟨n, hn, ez⟩ := hZ t
    exact dx_distinct_ok h1 h2 hn ez hA (dy_distinct_ok h1 h2 hn ez hA ⟨rfl, dz_R hA hB hZ hW ht hm hR⟩)
  · exact dx_distinct_bad c (dy_distinct_bad c ⟨rfl, dz_R hA hB hZ hW ht hm hR⟩)
theorem i_vc_kth {k : Nat} {u : SX} {v : SY} (I : i_Rel k u v) (hk : k + 5 ≤ 2560) (v1 : Int32) (v2 : Int32) (v3 : Int32) : wpX_kth (fun r => wpY_kth (fun r' => r' = r ∧ i_Rel (k + 5) u v) v v1 v2 v3) u v1 v2 v3 := by
  obtain ⟨fo, cx, cy, m, A, Z, B, W, RX, RY, rfl, rfl, hA, hB, hZ, hW, ht, hm, hR⟩ := I
  by_cases c : dz_v 3 v1 ∧ dz_v 3 v2
  · obtain ⟨⟨t, h1, rfl⟩, q, h2, rfl⟩ := c
    obtain ⟨n, hn, ez⟩ := hZ t
    exact dx_kth_ok h1 h2 hn ez hA (fun r1 s1 => dy_kth_ok h1 h2 hn ez hA (fun r2 s2 => ⟨dz_Ks_u hn s1 s2, dz_R hA hB hZ hW ht hm hR⟩))
  · exact dx_kth_bad c (dy_kth_bad c ⟨rfl, dz_R hA hB hZ hW ht hm hR⟩)
end
