section RM1
/-! numbers and stores -/
theorem rm_us {f : Nat → Int32} {k : Nat} {x : Int32} : upd f k x k = x := if_pos rfl
theorem rm_un {f : Nat → Int32} {k j : Nat} {x : Int32} (h : j ≠ k) : upd f k x j = f j := if_neg h
theorem rm_uu (f : Nat → Int32) (k : Nat) (x y : Int32) : upd (upd f k x) k y = upd f k y := by
  funext j
  by_cases h : j = k
  · subst h; rw [rm_us, rm_us]
  · rw [rm_un h, rm_un h, rm_un h]
theorem rm_id (f : Nat → Int32) (k : Nat) : upd f k (f k) = f := by
  funext j
  by_cases h : j = k
  · subst h; rw [rm_us]
  · rw [rm_un h]
theorem rm_mul (a b : Nat) : nI a * nI b = nI (a * b) := (Int32.ofNat_mul a b).symm
theorem rm_x40 (m i : Nat) : nI m * 40 + nI i = nI (40 * m + i) := by
  rw [show (40 : Int32) = nI 40 from rfl, rm_mul, nI_add, Nat.mul_comm]
theorem rm_y40 (m i : Nat) : 40 * nI m + nI i = nI (40 * m + i) := by
  rw [show (40 : Int32) = nI 40 from rfl, rm_mul, nI_add]
theorem rm_x3 (m i : Nat) : nI m * 3 + nI i = nI (3 * m + i) := by
  rw [show (3 : Int32) = nI 3 from rfl, rm_mul, nI_add, Nat.mul_comm]
theorem rm_y3 (m i : Nat) : 3 * nI m + nI i = nI (3 * m + i) := by
  rw [show (3 : Int32) = nI 3 from rfl, rm_mul, nI_add]
theorem rm_x60 (m i : Nat) : nI m * 60 + nI i = nI (60 * m + i) := by
  rw [show (60 : Int32) = nI 60 from rfl, rm_mul, nI_add, Nat.mul_comm]
theorem rm_y60 (m i : Nat) : 60 * nI m + nI i = nI (60 * m + i) := by
  rw [show (60 : Int32) = nI 60 from rfl, rm_mul, nI_add]
theorem rm_y60z (m : Nat) : 60 * nI m = nI (60 * m) := by
  rw [show (60 : Int32) = nI 60 from rfl, rm_mul]
theorem rm_m1 {n : Nat} (h : 0 < n) : nI n - 1 = nI (n - 1) := by
  obtain ⟨m, rfl⟩ : ∃ m, n = m + 1 := ⟨n - 1, by omega⟩
  exact nI_pred m
theorem rm_eq0 {a : Nat} (h : a < 2 ^ 31) : nI a = 0 ↔ a = 0 := by
  rw [← nI_0, nI_eq h (by omega)]
theorem rm_n1lt : (-1 : Int32) < 0 := by decide
theorem rm_ne1 {a : Nat} (h : a < 2 ^ 31) : ¬ nI a = -1 := by
  intro e
  have := nI_pos (n := a) h
  rw [e] at this
  exact this rm_n1lt
theorem rm_im {a b : Nat} (h : nI a = nI b) (ha : a < 2 ^ 31) (hb : b < 2 ^ 31) : a = b := (nI_eq ha hb).mp h
theorem rm_vb0 : vp_nar .boolean 0 = 0 := by decide
theorem rm_vb1 : vp_nar .boolean 1 = 1 := by decide
theorem rm_ix (x : Int32) {n : Nat} (hn : n < 2 ^ 31) : x < 0 ∨ (¬ x < 0 ∧ nI n ≤ x) ∨ ∃ j : Nat, j < n ∧ x = nI j := by
  by_cases h : x < 0
  · exact Or.inl h
  · obtain ⟨j, hj, rfl⟩ := nI_of h
    by_cases h2 : j < n
    · exact Or.inr (Or.inr ⟨j, h2, rfl⟩)
    · exact Or.inr (Or.inl ⟨h, nI_le (by omega) hj⟩)

theorem pk_sub {a b : Nat} (h : b ≤ a) : nI a - nI b = nI (a - b) := by
  obtain ⟨c, rfl⟩ : ∃ c, a = c + b := ⟨a - b, by omega⟩
  rw [← nI_add, Int32.add_sub_cancel, Nat.add_sub_cancel]
theorem pk_mul (a b : Nat) : nI a * nI b = nI (a * b) := (Int32.ofNat_mul a b).symm
theorem pk_div {a d : Nat} (ha : a < 2 ^ 31) (h0 : 0 < d) (hd : d < 2 ^ 31) : nI a / nI d = nI (a / d) := by
  apply Int32.toInt_inj.mp
  rw [lg_idiv_nonneg (by rw [nI_toInt ha]; omega) (by rw [nI_toInt hd]; omega), nI_toInt ha, nI_toInt hd, nI_toInt (Nat.lt_of_le_of_lt (Nat.div_le_self a d) ha)]
  first | rfl | exact (Int.natCast_ediv _ _).symm
theorem pk_rem {a d : Nat} (ha : a < 2 ^ 31) (h0 : 0 < d) (hd : d < 2 ^ 31) : nI a - nI a / nI d * nI d = nI (a % d) := by
  rw [pk_div ha h0 hd, pk_mul, pk_sub (Nat.div_mul_le_self a d)]
  exact congrArg nI (by have := Nat.div_add_mod' a d; omega)
theorem rm_rem {a : Nat} (ha : a < 2 ^ 31) : nI a - nI a / 60 * 60 = nI (a % 60) := pk_rem ha (d := 60) (by decide) (by decide)

/-! counts of cells that aren't 0 -/
def rm_cn (g : Nat → Int32) (b : Nat) : Nat → Nat
  | 0 => 0
  | n + 1 => rm_cn g b n + (if g (b + n) = 0 then 0 else 1)
theorem rm_cn_s (g : Nat → Int32) (b n : Nat) : rm_cn g b (n + 1) = rm_cn g b n + (if g (b + n) = 0 then 0 else 1) := rfl
theorem rm_cn_le (g : Nat → Int32) (b : Nat) : ∀ n, rm_cn g b n ≤ n := by
  intro n
  induction n with
  | zero => exact Nat.le_refl 0
  | succ n ih => rw [rm_cn_s]; split <;> omega
theorem rm_cn_lt {g : Nat → Int32} {b i : Nat} : ∀ n, i < n → g (b + i) = 0 → rm_cn g b n < n := by
  intro n
  induction n with
  | zero => intro h; omega
  | succ n ih =>
    intro h z
    rw [rm_cn_s]
    by_cases e : i = n
    · subst e
      rw [if_pos z]
      have := rm_cn_le g b i
      omega
    · have := ih (by omega) z
      split <;> omega
theorem rm_cn_pos {g : Nat → Int32} {b i : Nat} : ∀ n, i < n → ¬ g (b + i) = 0 → 0 < rm_cn g b n := by
  intro n
  induction n with
  | zero => intro h; omega
  | succ n ih =>
    intro h z
    rw [rm_cn_s]
    by_cases e : i = n
    · subst e
      rw [if_neg z]
      omega
    · have := ih (by omega) z
      omega
theorem rm_cn_ext {g h : Nat → Int32} {b : Nat} : ∀ n, (∀ i, i < n → g (b + i) = h (b + i)) → rm_cn g b n = rm_cn h b n := by
  intro n
  induction n with
  | zero => intro _; rfl
  | succ n ih =>
    intro H
    rw [rm_cn_s, rm_cn_s, ih (fun i hi => H i (by omega)), H n (by omega)]
theorem rm_cn_set {g h : Nat → Int32} {b i : Nat} : ∀ n, i < n → (∀ j, j < n → j ≠ i → g (b + j) = h (b + j)) → g (b + i) = 0 → ¬ h (b + i) = 0 → rm_cn h b n = rm_cn g b n + 1 := by
  intro n
  induction n with
  | zero => intro h; omega
  | succ n ih =>
    intro hi H z nz
    rw [rm_cn_s, rm_cn_s]
    by_cases e : i = n
    · subst e
      rw [if_pos z, if_neg nz, rm_cn_ext i (fun j hj => H j (by omega) (by omega))]
    · rw [H n (by omega) (fun x => e x.symm), ih (by omega) (fun j hj hn => H j (by omega) hn) z nz]
      omega

/-! the scan for the earliest -/
abbrev rm_er (c m c' m' : Int32) : Prop := c < c' ∨ (c = c' ∧ m < m')
def rm_bs (un sC sM : Nat → Int32) (b : Nat) : Nat → Int32
  | 0 => -1
  | i + 1 => if ¬ un (b + i) = 0 ∧ (rm_bs un sC sM b i = -1 ∨ rm_er (sC i) (sM i) (sC (rm_bs un sC sM b i).toNatClampNeg) (sM (rm_bs un sC sM b i).toNatClampNeg)) then nI i else rm_bs un sC sM b i
theorem rm_bs_s (un sC sM : Nat → Int32) (b i : Nat) : rm_bs un sC sM b (i + 1) = if ¬ un (b + i) = 0 ∧ (rm_bs un sC sM b i = -1 ∨ rm_er (sC i) (sM i) (sC (rm_bs un sC sM b i).toNatClampNeg) (sM (rm_bs un sC sM b i).toNatClampNeg)) then nI i else rm_bs un sC sM b i := rfl
theorem rm_bs_in (un sC sM : Nat → Int32) (b : Nat) : ∀ n, rm_bs un sC sM b n = -1 ∨ ∃ m, m < n ∧ rm_bs un sC sM b n = nI m ∧ ¬ un (b + m) = 0 := by
  intro n
  induction n with
  | zero => exact Or.inl rfl
  | succ n ih =>
    rw [rm_bs_s]
    by_cases c : ¬ un (b + n) = 0 ∧ (rm_bs un sC sM b n = -1 ∨ rm_er (sC n) (sM n) (sC (rm_bs un sC sM b n).toNatClampNeg) (sM (rm_bs un sC sM b n).toNatClampNeg))
    · rw [if_pos c]
      exact Or.inr ⟨n, by omega, rfl, c.1⟩
    · rw [if_neg c]
      rcases ih with h | ⟨m, hm, e, z⟩
      · exact Or.inl h
      · exact Or.inr ⟨m, by omega, e, z⟩
theorem rm_bs_up {un sC sM : Nat → Int32} {b w : Nat} : ∀ d, (∀ i, w ≤ i → i < w + d → un (b + i) = 0) → rm_bs un sC sM b (w + d) = rm_bs un sC sM b w := by
  intro d
  induction d with
  | zero => intro _; rfl
  | succ d ih =>
    intro H
    have z : un (b + (w + d)) = 0 := H _ (by omega) (by omega)
    rw [show w + (d + 1) = (w + d) + 1 from rfl, rm_bs_s, if_neg (fun c => c.1 z)]
    exact ih (fun i h1 h2 => H i h1 (by omega))
end RM1
