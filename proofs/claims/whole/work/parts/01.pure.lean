/-! rows pasted from the kit's rows: pk_ -/
theorem pk_us {f : Nat → Int32} {k : Nat} {x : Int32} : upd f k x k = x := if_pos rfl
theorem pk_un {f : Nat → Int32} {k j : Nat} {x : Int32} (h : j ≠ k) : upd f k x j = f j := if_neg h
theorem pk_sub {a b : Nat} (h : b ≤ a) : nI a - nI b = nI (a - b) := by
  obtain ⟨c, rfl⟩ : ∃ c, a = c + b := ⟨a - b, by omega⟩
  rw [← nI_add, Int32.add_sub_cancel, Nat.add_sub_cancel]
theorem pk_m1 (n : Nat) : nI (n + 1) + (-1) = nI n := by
  rw [← nI_1, Int32.add_assoc, show (1 : Int32) + (-1) = 0 from rfl, Int32.add_zero]
theorem pk_mul (a b : Nat) : nI a * nI b = nI (a * b) := (Int32.ofNat_mul a b).symm
theorem pk_div {a d : Nat} (ha : a < 2 ^ 31) (h0 : 0 < d) (hd : d < 2 ^ 31) : nI a / nI d = nI (a / d) := by
  apply Int32.toInt_inj.mp
  rw [lg_idiv_nonneg (by rw [nI_toInt ha]; omega) (by rw [nI_toInt hd]; omega), nI_toInt ha, nI_toInt hd, nI_toInt (Nat.lt_of_le_of_lt (Nat.div_le_self a d) ha)]
  first | rfl | exact (Int.natCast_ediv _ _).symm
theorem pk_rem {a d : Nat} (ha : a < 2 ^ 31) (h0 : 0 < d) (hd : d < 2 ^ 31) : nI a - nI a / nI d * nI d = nI (a % d) := by
  rw [pk_div ha h0 hd, pk_mul, pk_sub (Nat.div_mul_le_self a d)]
  exact congrArg nI (by have := Nat.div_add_mod' a d; omega)
theorem pk_ix (x : Int32) {n : Nat} (hn : n < 2 ^ 31) : x < 0 ∨ nI n ≤ x ∨ ∃ j : Nat, j < n ∧ x = nI j := by
  by_cases h : x < 0
  · exact Or.inl h
  · obtain ⟨j, hj, rfl⟩ := nI_of h
    by_cases h2 : j < n
    · exact Or.inr (Or.inr ⟨j, h2, rfl⟩)
    · exact Or.inr (Or.inl (nI_le (by omega) hj))
theorem pk_le {x y : Int32} {A B : Prop} (a b : Nat) (f : a ≤ b → A) (g : b < a → B) (hx : x = nI a := by rfl) (hy : y = nI b := by rfl) (ha : a < 2 ^ 31 := by omega) (hb : b < 2 ^ 31 := by omega) : (x ≤ y → A) ∧ (¬ x ≤ y → B) := by
  subst hx hy
  rw [nI_leI ha hb]
  exact ⟨f, fun z => g (by omega)⟩
theorem pk_lt {x y : Int32} {A B : Prop} (a b : Nat) (f : a < b → A) (g : b ≤ a → B) (hx : x = nI a := by rfl) (hy : y = nI b := by rfl) (ha : a < 2 ^ 31 := by omega) (hb : b < 2 ^ 31 := by omega) : (x < y → A) ∧ (¬ x < y → B) := by
  subst hx hy
  rw [nI_ltI ha hb]
  exact ⟨f, fun z => g (by omega)⟩
theorem pk_eq {x y : Int32} {A B : Prop} (a b : Nat) (f : a = b → A) (g : a ≠ b → B) (hx : x = nI a := by rfl) (hy : y = nI b := by rfl) (ha : a < 2 ^ 31 := by omega) (hb : b < 2 ^ 31 := by omega) : (x = y → A) ∧ (¬ x = y → B) := by
  subst hx hy
  rw [nI_eq ha hb]
  exact ⟨f, g⟩
theorem pk_in {x : Int32} (n N : Nat) (h : n < N) (hx : x = nI n := by rfl) (hN : N < 2 ^ 31 := by omega) : vp_in x N := by
  subst hx
  exact vp_in_nI h hN
theorem pk_cl {x : Int32} (n : Nat) (hx : x = nI n := by rfl) (h : n < 2 ^ 31 := by omega) : x.toNatClampNeg = n := by
  subst hx
  exact nI_clamp h
/-! counts, sorted keys, an insertion, an exchange, the numbers that a column holds -/
/-- how many j below n satisfy p -/
def dz_cn (p : Nat → Bool) : Nat → Nat
  | 0 => 0
  | n + 1 => dz_cn p n + (if p n = true then 1 else 0)
theorem dz_cn_s (p : Nat → Bool) (n : Nat) : dz_cn p (n + 1) = dz_cn p n + (if p n = true then 1 else 0) := rfl
theorem dz_cn_c {p q : Nat → Bool} : ∀ n, (∀ j, j < n → p j = q j) → dz_cn p n = dz_cn q n := by
  intro n
  induction n with
  | zero => intro _; rfl
  | succ n ih =>
    intro h
    rw [dz_cn_s, dz_cn_s, ih (fun j hj => h j (by omega)), h n (by omega)]
theorem dz_cn_le (p : Nat → Bool) : ∀ n, dz_cn p n ≤ n := by
  intro n
  induction n with
  | zero => exact Nat.le_refl 0
  | succ n ih => rw [dz_cn_s]; split <;> omega
theorem dz_cn_mono (p : Nat → Bool) {a : Nat} : ∀ b, a ≤ b → dz_cn p a ≤ dz_cn p b := by
  intro b
  induction b with
  | zero => intro h; have e : a = 0 := by omega
            rw [e]; exact Nat.le_refl _
  | succ b ih =>
    intro h
    by_cases e : a = b + 1
    · rw [e]; exact Nat.le_refl _
    · have := ih (by omega)
      rw [dz_cn_s]; omega
theorem dz_cn_all {p : Nat → Bool} : ∀ n i, i ≤ n → (∀ j, j < i → p j = true) → i ≤ dz_cn p n := by
  intro n
  induction n with
  | zero => intro i hi _; omega
  | succ n ih =>
    intro i hi h
    rw [dz_cn_s]
    by_cases e : i = n + 1
    · have h1 := ih n (Nat.le_refl n) (fun j hj => h j (by omega))
      rw [if_pos (h n (by omega))]
      omega
    · have := ih i (by omega) h
      omega
theorem dz_cn_no {p : Nat → Bool} {i : Nat} : ∀ n, (∀ j, i ≤ j → j < n → p j = false) → dz_cn p n ≤ i := by
  intro n
  induction n with
  | zero => intro _; exact Nat.zero_le _
  | succ n ih =>
    intro h
    rw [dz_cn_s]
    by_cases e : n < i
    · have := dz_cn_le p n
      split <;> omega
    · rw [h n (by omega) (by omega)]
      have := ih (fun j h1 h2 => h j h1 (by omega))
      simp only [Bool.false_eq_true, if_false]
      omega
/-- nothing is counted in between -/
theorem dz_cn_gap {p : Nat → Bool} {a : Nat} : ∀ b, a ≤ b → (∀ j, a ≤ j → j < b → p j = false) → dz_cn p b = dz_cn p a := by
  intro b
  induction b with
  | zero => intro h _; have e : a = 0 := by omega
            rw [e]
  | succ b ih =>
    intro h hp
    by_cases e : a = b + 1
    · rw [e]
    · rw [dz_cn_s, ih (by omega) (fun j h1 h2 => hp j h1 (by omega)), hp b (by omega) (by omega)]
      simp only [Bool.false_eq_true, if_false, Nat.add_zero]
/-- keys below x -/
def dz_bl (g : Nat → Nat) (x : Nat) : Nat → Bool := fun j => decide (g j < x)
theorem dz_bl_t {g : Nat → Nat} {x j : Nat} (h : g j < x) : dz_bl g x j = true := decide_eq_true h
theorem dz_bl_f {g : Nat → Nat} {x j : Nat} (h : ¬ g j < x) : dz_bl g x j = false := decide_eq_false h
theorem dz_bl_i (g : Nat → Nat) (x j : Nat) : (if dz_bl g x j = true then 1 else 0) = (if g j < x then 1 else (0 : Nat)) := by
  by_cases h : g j < x
  · rw [dz_bl_t h, if_pos rfl, if_pos h]
  · rw [dz_bl_f h, if_neg Bool.false_ne_true, if_neg h]
def dz_Srt (g : Nat → Nat) (n : Nat) : Prop := ∀ a b, a < b → b < n → g a ≤ g b
theorem dz_srt_ge {g h : Nat → Nat} {n : Nat} (hg : dz_Srt g n) (hh : dz_Srt h n) (e : ∀ x, dz_cn (dz_bl g x) n = dz_cn (dz_bl h x) n) : ∀ i, i < n → h i ≤ g i := by
  intro i hi
  apply Nat.le_of_not_lt
  intro hlt
  have h1 : i + 1 ≤ dz_cn (dz_bl g (g i + 1)) n := by
    refine dz_cn_all n (i + 1) (by omega) (fun j hj => dz_bl_t ?_)
    by_cases ej : j = i
    · rw [ej]; omega
    · have := hg j i (by omega) hi
      omega
  have h2 : dz_cn (dz_bl h (g i + 1)) n ≤ i := by
    refine dz_cn_no n (fun j h3 h4 => dz_bl_f ?_)
    by_cases ej : j = i
    · rw [ej]; omega
    · have := hh i j (by omega) h4
      omega
  have := e (g i + 1)
  omega
theorem dz_srt_eq {g h : Nat → Nat} {n : Nat} (hg : dz_Srt g n) (hh : dz_Srt h n) (e : ∀ x, dz_cn (dz_bl g x) n = dz_cn (dz_bl h x) n) (i : Nat) (hi : i < n) : g i = h i :=
  Nat.le_antisymm (dz_srt_ge hh hg (fun x => (e x).symm) i hi) (dz_srt_ge hg hh e i hi)
/-- key k put in at p -/
def dz_ins (g : Nat → Nat) (p k : Nat) : Nat → Nat := fun j => if j < p then g j else if j = p then k else g (j - 1)
theorem dz_ins_lo {g : Nat → Nat} {p k j : Nat} (h : j < p) : dz_ins g p k j = g j := if_pos h
theorem dz_ins_at {g : Nat → Nat} {p k : Nat} : dz_ins g p k p = k := by
  show (if p < p then g p else if p = p then k else g (p - 1)) = k
  rw [if_neg (Nat.lt_irrefl p), if_pos rfl]
theorem dz_ins_hi {g : Nat → Nat} {p k j : Nat} (h : p ≤ j) : dz_ins g p k (j + 1) = g j := by
  show (if j + 1 < p then g (j + 1) else if j + 1 = p then k else g (j + 1 - 1)) = g j
  rw [if_neg (by omega), if_neg (by omega), Nat.add_sub_cancel]
theorem dz_ins_cn (g : Nat → Nat) (p k x : Nat) : ∀ d, dz_cn (dz_bl (dz_ins g p k) x) (p + d + 1) = dz_cn (dz_bl g x) (p + d) + (if k < x then 1 else 0) := by
  intro d
  induction d with
  | zero =>
    rw [Nat.add_zero, dz_cn_s, dz_bl_i, dz_ins_at]
    rw [dz_cn_c (p := dz_bl (dz_ins g p k) x) (q := dz_bl g x) p (fun j hj => by show decide (dz_ins g p k j < x) = decide (g j < x); rw [dz_ins_lo hj])]
    rfl
  | succ d ih =>
    rw [show p + (d + 1) = (p + d) + 1 from rfl, dz_cn_s (dz_bl (dz_ins g p k) x), dz_bl_i, dz_ins_hi (by omega), ih, dz_cn_s (dz_bl g x), dz_bl_i]
    omega
theorem dz_ins_srt {g : Nat → Nat} {p k m : Nat} (hp : p ≤ m) (hg : dz_Srt g m) (hl : ∀ j, j < p → g j ≤ k) (hh : ∀ j, p ≤ j → j < m → k ≤ g j) : dz_Srt (dz_ins g p k) (m + 1) := by
  intro a b hab hb
  by_cases h1 : b < p
  · rw [dz_ins_lo h1, dz_ins_lo (by omega)]
    exact hg a b hab (by omega)
  · by_cases h2 : b = p
    · subst h2
      rw [dz_ins_at, dz_ins_lo hab]
      exact hl a hab
    · obtain ⟨b', rfl⟩ : ∃ b', b = b' + 1 := ⟨b - 1, by omega⟩
      rw [dz_ins_hi (by omega)]
      by_cases h3 : a < p
      · rw [dz_ins_lo h3]
        by_cases h4 : a = b'
        · rw [h4]; exact Nat.le_refl _
        · exact hg a b' (by omega) (by omega)
      · by_cases h4 : a = p
        · subst h4
          rw [dz_ins_at]
          exact hh b' (by omega) (by omega)
        · obtain ⟨a', rfl⟩ : ∃ a', a = a' + 1 := ⟨a - 1, by omega⟩
          rw [dz_ins_hi (by omega)]
          exact hg a' b' (by omega) (by omega)
/-- key k written at i -/
def dz_up (g : Nat → Nat) (i k : Nat) : Nat → Nat := fun j => if j = i then k else g j
theorem dz_up_s {g : Nat → Nat} {i k : Nat} : dz_up g i k i = k := if_pos rfl
theorem dz_up_n {g : Nat → Nat} {i k j : Nat} (h : j ≠ i) : dz_up g i k j = g j := if_neg h
theorem dz_up_cn (g : Nat → Nat) (i k x : Nat) : ∀ n, i < n → dz_cn (dz_bl (dz_up g i k) x) n + (if g i < x then 1 else 0) = dz_cn (dz_bl g x) n + (if k < x then 1 else 0) := by
  intro n
  induction n with
  | zero => intro h; omega
  | succ n ih =>
    intro h
    rw [dz_cn_s, dz_cn_s, dz_bl_i, dz_bl_i]
    by_cases e : i = n
    · subst e
      rw [dz_up_s, dz_cn_c (p := dz_bl (dz_up g i k) x) (q := dz_bl g x) i (fun j hj => by show decide (dz_up g i k j < x) = decide (g j < x); rw [dz_up_n (by omega)])]
      omega
    · rw [dz_up_n (by omega)]
      have := ih (by omega)
      omega
/-- the keys at i and j change places -/
def dz_sw (g : Nat → Nat) (i j : Nat) : Nat → Nat := dz_up (dz_up g i (g j)) j (g i)
theorem dz_sw_i {g : Nat → Nat} {i j : Nat} (h : i ≠ j) : dz_sw g i j i = g j := by
  show dz_up (dz_up g i (g j)) j (g i) i = g j
  rw [dz_up_n h, dz_up_s]
theorem dz_sw_j {g : Nat → Nat} {i j : Nat} : dz_sw g i j j = g i := dz_up_s
theorem dz_sw_o {g : Nat → Nat} {i j k : Nat} (h1 : k ≠ i) (h2 : k ≠ j) : dz_sw g i j k = g k := by
  show dz_up (dz_up g i (g j)) j (g i) k = g k
  rw [dz_up_n h2, dz_up_n h1]
theorem dz_sw_cn (g : Nat → Nat) {i j n : Nat} (hi : i < n) (hj : j < n) (h : i ≠ j) (x : Nat) : dz_cn (dz_bl (dz_sw g i j) x) n = dz_cn (dz_bl g x) n := by
  have h1 := dz_up_cn (dz_up g i (g j)) j (g i) x n hj
  have h2 := dz_up_cn g i (g j) x n hi
  rw [dz_up_n (Ne.symm h)] at h1
  have h3 : dz_cn (dz_bl (dz_sw g i j) x) n = dz_cn (dz_bl (dz_up (dz_up g i (g j)) j (g i)) x) n := rfl
  omega
/-- the exchange sort: the places below i hold the least, in order -/
def dz_Pre (g : Nat → Nat) (n i : Nat) : Prop := ∀ a b, a < i → a < b → b < n → g a ≤ g b
def dz_Row (g : Nat → Nat) (i j : Nat) : Prop := ∀ b, i < b → b < j → g i ≤ g b
theorem dz_pre_srt {g : Nat → Nat} {n : Nat} (h : dz_Pre g n n) : dz_Srt g n := fun a b hab hb => h a b (by omega) hab hb
theorem dz_pre_s {g : Nat → Nat} {n i : Nat} (h : dz_Pre g n i) (hr : dz_Row g i n) : dz_Pre g n (i + 1) := by
  intro a b ha hab hb
  by_cases e : a = i
  · rw [e]; exact hr b (by omega) hb
  · exact h a b (by omega) hab hb
theorem dz_sw_pre {g : Nat → Nat} {n i j : Nat} (h : dz_Pre g n i) (hij : i < j) (hj : j < n) : dz_Pre (dz_sw g i j) n i := by
  intro a b ha hab hb
  rw [dz_sw_o (k := a) (by omega) (by omega)]
  by_cases e1 : b = i
  · rw [e1, dz_sw_i (by omega)]; exact h a j ha (by omega) hj
  · by_cases e2 : b = j
    · rw [e2, dz_sw_j]; exact h a i ha ha (by omega)
    · rw [dz_sw_o e1 e2]; exact h a b ha hab hb
theorem dz_sw_row {g : Nat → Nat} {i j : Nat} (h : dz_Row g i j) (hij : i < j) (hlt : g j < g i) : dz_Row (dz_sw g i j) i (j + 1) := by
  intro b h1 h2
  rw [dz_sw_i (by omega)]
  by_cases e : b = j
  · rw [e, dz_sw_j]; omega
  · rw [dz_sw_o (by omega) e]
    have := h b h1 (by omega)
    omega
theorem dz_no_row {g : Nat → Nat} {i j : Nat} (h : dz_Row g i j) (hge : ¬ g j < g i) : dz_Row g i (j + 1) := by
  intro b h1 h2
  by_cases e : b = j
  · rw [e]; omega
  · exact h b h1 (by omega)
/-- the numbers among f 0 .. f (n - 1) -/
def dz_hd (f : Nat → Nat) : Nat → Nat → Bool
  | 0, _ => false
  | n + 1, k => dz_hd f n k || decide (f n = k)
theorem dz_hd_t {f : Nat → Nat} {k : Nat} : ∀ n r, r < n → f r = k → dz_hd f n k = true := by
  intro n
  induction n with
  | zero => intro r h; omega
  | succ n ih =>
    intro r h e
    show (dz_hd f n k || decide (f n = k)) = true
    by_cases c : r = n
    · subst c
      rw [decide_eq_true e, Bool.or_true]
    · rw [ih r (by omega) e, Bool.true_or]
theorem dz_hd_f {f : Nat → Nat} {k : Nat} : ∀ n, (∀ r, r < n → f r ≠ k) → dz_hd f n k = false := by
  intro n
  induction n with
  | zero => intro _; rfl
  | succ n ih =>
    intro h
    show (dz_hd f n k || decide (f n = k)) = false
    rw [ih (fun r hr => h r (by omega)), decide_eq_false (h n (by omega)), Bool.or_false]
theorem dz_or1 (p : Nat → Bool) (k0 : Nat) : ∀ m, dz_cn (fun k => p k || decide (k0 = k)) m ≤ dz_cn p m + (if k0 < m then 1 else 0) := by
  intro m
  induction m with
  | zero => exact Nat.zero_le _
  | succ m ih =>
    rw [dz_cn_s, dz_cn_s]
    by_cases e : k0 = m
    · subst e
      rw [if_neg (Nat.lt_irrefl k0)] at ih
      rw [if_pos (Nat.lt_succ_self k0)]
      split <;> split <;> omega
    · rw [decide_eq_false e, Bool.or_false]
      by_cases c : k0 < m
      · have e2 : (if k0 < m + 1 then 1 else 0) = (1 : Nat) := if_pos (by omega)
        rw [if_pos c] at ih
        rw [e2]
        omega
      · have e2 : (if k0 < m + 1 then 1 else 0) = (0 : Nat) := if_neg (by omega)
        rw [if_neg c] at ih
        rw [e2]
        omega
theorem dz_hd_le (f : Nat → Nat) (m : Nat) : ∀ n, dz_cn (dz_hd f n) m ≤ n := by
  intro n
  induction n with
  | zero => exact dz_cn_no m (fun _ _ _ => rfl)
  | succ n ih =>
    have h : dz_cn (dz_hd f (n + 1)) m ≤ dz_cn (dz_hd f n) m + (if f n < m then 1 else 0) := dz_or1 (dz_hd f n) (f n) m
    split at h <;> omega
/-- q is the least number held that isn't below p; 199 when there is none -/
def dz_Nx (f : Nat → Nat) (n p q : Nat) : Prop := p ≤ q ∧ q ≤ 199 ∧ (∀ r, r < n → p ≤ f r → q ≤ f r) ∧ (q < 199 → ∃ r, r < n ∧ f r = q)
theorem dz_nx_gap {f : Nat → Nat} {n p q : Nat} (h : dz_Nx f n p q) : dz_cn (dz_hd f n) q = dz_cn (dz_hd f n) p := by
  refine dz_cn_gap q h.1 (fun j h1 h2 => dz_hd_f n (fun r hr e => ?_))
  have := h.2.2.1 r hr (by omega)
  omega
theorem dz_nx_hit {f : Nat → Nat} {n p q : Nat} (h : dz_Nx f n p q) (hq : q < 199) : dz_hd f n q = true := by
  obtain ⟨r, hr, e⟩ := h.2.2.2 hq
  exact dz_hd_t n r hr e
