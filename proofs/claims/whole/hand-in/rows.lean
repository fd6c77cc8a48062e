section
section RM1
/-! numbers and stores -/
theorem rm_us {f : Nat → Int32} {k : Nat} {x : Int32} : upd f k x k = x := if_pos rfl
theorem rm_un {f : Nat → Int32} {k j : Nat} {x : Int32} (h : j ≠ k) : upd f k x j = f j := if_neg h
theorem rm_uu (f : Nat → Int32) (k : Nat) (x y : Int32) : upd (upd f k x) k y = upd f k y := by
  funext j
  by_cases h : j = k
  · subst h; rw [rm_us, rm_us]
  · rw [rm_un h, rm_un h, rm_un h]
theorem rm_id (f : Nat → Int32) (k : Nat) : upd f k (f k) = f := by
  funext j
  by_cases h : j = k
  · subst h; rw [rm_us]
  · rw [rm_un h]
theorem rm_mul (a b : Nat) : nI a * nI b = nI (a * b) := (Int32.ofNat_mul a b).symm
theorem rm_x40 (m i : Nat) : nI m * 40 + nI i = nI (40 * m + i) := by
  rw [show (40 : Int32) = nI 40 from rfl, rm_mul, nI_add, Nat.mul_comm]
theorem rm_y40 (m i : Nat) : 40 * nI m + nI i = nI (40 * m + i) := by
  rw [show (40 : Int32) = nI 40 from rfl, rm_mul, nI_add]
theorem rm_x3 (m i : Nat) : nI m * 3 + nI i = nI (3 * m + i) := by
  rw [show (3 : Int32) = nI 3 from rfl, rm_mul, nI_add, Nat.mul_comm]
theorem rm_y3 (m i : Nat) : 3 * nI m + nI i = nI (3 * m + i) := by
  rw [show (3 : Int32) = nI 3 from rfl, rm_mul, nI_add]
theorem rm_x60 (m i : Nat) : nI m * 60 + nI i = nI (60 * m + i) := by
  rw [show (60 : Int32) = nI 60 from rfl, rm_mul, nI_add, Nat.mul_comm]
theorem rm_y60 (m i : Nat) : 60 * nI m + nI i = nI (60 * m + i) := by
  rw [show (60 : Int32) = nI 60 from rfl, rm_mul, nI_add]
theorem rm_y60z (m : Nat) : 60 * nI m = nI (60 * m) := by
  rw [show (60 : Int32) = nI 60 from rfl, rm_mul]
theorem rm_m1 {n : Nat} (h : 0 < n) : nI n - 1 = nI (n - 1) := by
  obtain ⟨m, rfl⟩ : ∃ m, n = m + 1 := ⟨n - 1, by omega⟩
  exact nI_pred m
theorem rm_eq0 {a : Nat} (h : a < 2 ^ 31) : nI a = 0 ↔ a = 0 := by
  rw [← nI_0, nI_eq h (by omega)]
theorem rm_n1lt : (-1 : Int32) < 0 := by decide
theorem rm_ne1 {a : Nat} (h : a < 2 ^ 31) : ¬ nI a = -1 := by
  intro e
  have := nI_pos (n := a) h
  rw [e] at this
  exact this rm_n1lt
theorem rm_im {a b : Nat} (h : nI a = nI b) (ha : a < 2 ^ 31) (hb : b < 2 ^ 31) : a = b := (nI_eq ha hb).mp h
theorem rm_vb0 : vp_nar .boolean 0 = 0 := by decide
theorem rm_vb1 : vp_nar .boolean 1 = 1 := by decide
theorem rm_ix (x : Int32) {n : Nat} (hn : n < 2 ^ 31) : x < 0 ∨ (¬ x < 0 ∧ nI n ≤ x) ∨ ∃ j : Nat, j < n ∧ x = nI j := by
  by_cases h : x < 0
  · exact Or.inl h
  · obtain ⟨j, hj, rfl⟩ := nI_of h
    by_cases h2 : j < n
    · exact Or.inr (Or.inr ⟨j, h2, rfl⟩)
    · exact Or.inr (Or.inl ⟨h, nI_le (by omega) hj⟩)

theorem pk_sub {a b : Nat} (h : b ≤ a) : nI a - nI b = nI (a - b) := by
  obtain ⟨c, rfl⟩ : ∃ c, a = c + b := ⟨a - b, by omega⟩
  rw [← nI_add, Int32.add_sub_cancel, Nat.add_sub_cancel]
theorem pk_mul (a b : Nat) : nI a * nI b = nI (a * b) := (Int32.ofNat_mul a b).symm
theorem pk_div {a d : Nat} (ha : a < 2 ^ 31) (h0 : 0 < d) (hd : d < 2 ^ 31) : nI a / nI d = nI (a / d) := by
  apply Int32.toInt_inj.mp
  rw [lg_idiv_nonneg (by rw [nI_toInt ha]; omega) (by rw [nI_toInt hd]; omega), nI_toInt ha, nI_toInt hd, nI_toInt (Nat.lt_of_le_of_lt (Nat.div_le_self a d) ha)]
  first | rfl | exact (Int.natCast_ediv _ _).symm
theorem pk_rem {a d : Nat} (ha : a < 2 ^ 31) (h0 : 0 < d) (hd : d < 2 ^ 31) : nI a - nI a / nI d * nI d = nI (a % d) := by
  rw [pk_div ha h0 hd, pk_mul, pk_sub (Nat.div_mul_le_self a d)]
  exact congrArg nI (by have := Nat.div_add_mod' a d; omega)
theorem rm_rem {a : Nat} (ha : a < 2 ^ 31) : nI a - nI a / 60 * 60 = nI (a % 60) := pk_rem ha (d := 60) (by decide) (by decide)

/-! counts of cells that aren't 0 -/
def rm_cn (g : Nat → Int32) (b : Nat) : Nat → Nat
  | 0 => 0
  | n + 1 => rm_cn g b n + (if g (b + n) = 0 then 0 else 1)
theorem rm_cn_s (g : Nat → Int32) (b n : Nat) : rm_cn g b (n + 1) = rm_cn g b n + (if g (b + n) = 0 then 0 else 1) := rfl
theorem rm_cn_le (g : Nat → Int32) (b : Nat) : ∀ n, rm_cn g b n ≤ n := by
  intro n
  induction n with
  | zero => exact Nat.le_refl 0
  | succ n ih => rw [rm_cn_s]; split <;> omega
theorem rm_cn_lt {g : Nat → Int32} {b i : Nat} : ∀ n, i < n → g (b + i) = 0 → rm_cn g b n < n := by
  intro n
  induction n with
  | zero => intro h; omega
  | succ n ih =>
    intro h z
    rw [rm_cn_s]
    by_cases e : i = n
    · subst e
      rw [if_pos z]
      have := rm_cn_le g b i
      omega
    · have := ih (by omega) z
      split <;> omega
theorem rm_cn_pos {g : Nat → Int32} {b i : Nat} : ∀ n, i < n → ¬ g (b + i) = 0 → 0 < rm_cn g b n := by
  intro n
  induction n with
  | zero => intro h; omega
  | succ n ih =>
    intro h z
    rw [rm_cn_s]
    by_cases e : i = n
    · subst e
      rw [if_neg z]
      omega
    · have := ih (by omega) z
      omega
theorem rm_cn_ext {g h : Nat → Int32} {b : Nat} : ∀ n, (∀ i, i < n → g (b + i) = h (b + i)) → rm_cn g b n = rm_cn h b n := by
  intro n
  induction n with
  | zero => intro _; rfl
  | succ n ih =>
    intro H
    rw [rm_cn_s, rm_cn_s, ih (fun i hi => H i (by omega)), H n (by omega)]
theorem rm_cn_set {g h : Nat → Int32} {b i : Nat} : ∀ n, i < n → (∀ j, j < n → j ≠ i → g (b + j) = h (b + j)) → g (b + i) = 0 → ¬ h (b + i) = 0 → rm_cn h b n = rm_cn g b n + 1 := by
  intro n
  induction n with
  | zero => intro h; omega
  | succ n ih =>
    intro hi H z nz
    rw [rm_cn_s, rm_cn_s]
    by_cases e : i = n
    · subst e
      rw [if_pos z, if_neg nz, rm_cn_ext i (fun j hj => H j (by omega) (by omega))]
    · rw [H n (by omega) (fun x => e x.symm), ih (by omega) (fun j hj hn => H j (by omega) hn) z nz]
      omega

/-! the scan for the earliest -/
abbrev rm_er (c m c' m' : Int32) : Prop := c < c' ∨ (c = c' ∧ m < m')
def rm_bs (un sC sM : Nat → Int32) (b : Nat) : Nat → Int32
  | 0 => -1
  | i + 1 => if ¬ un (b + i) = 0 ∧ (rm_bs un sC sM b i = -1 ∨ rm_er (sC i) (sM i) (sC (rm_bs un sC sM b i).toNatClampNeg) (sM (rm_bs un sC sM b i).toNatClampNeg)) then nI i else rm_bs un sC sM b i
theorem rm_bs_s (un sC sM : Nat → Int32) (b i : Nat) : rm_bs un sC sM b (i + 1) = if ¬ un (b + i) = 0 ∧ (rm_bs un sC sM b i = -1 ∨ rm_er (sC i) (sM i) (sC (rm_bs un sC sM b i).toNatClampNeg) (sM (rm_bs un sC sM b i).toNatClampNeg)) then nI i else rm_bs un sC sM b i := rfl
theorem rm_bs_in (un sC sM : Nat → Int32) (b : Nat) : ∀ n, rm_bs un sC sM b n = -1 ∨ ∃ m, m < n ∧ rm_bs un sC sM b n = nI m ∧ ¬ un (b + m) = 0 := by
  intro n
  induction n with
  | zero => exact Or.inl rfl
  | succ n ih =>
    rw [rm_bs_s]
    by_cases c : ¬ un (b + n) = 0 ∧ (rm_bs un sC sM b n = -1 ∨ rm_er (sC n) (sM n) (sC (rm_bs un sC sM b n).toNatClampNeg) (sM (rm_bs un sC sM b n).toNatClampNeg))
    · rw [if_pos c]
      exact Or.inr ⟨n, by omega, rfl, c.1⟩
    · rw [if_neg c]
      rcases ih with h | ⟨m, hm, e, z⟩
      · exact Or.inl h
      · exact Or.inr ⟨m, by omega, e, z⟩
theorem rm_bs_up {un sC sM : Nat → Int32} {b w : Nat} : ∀ d, (∀ i, w ≤ i → i < w + d → un (b + i) = 0) → rm_bs un sC sM b (w + d) = rm_bs un sC sM b w := by
  intro d
  induction d with
  | zero => intro _; rfl
  | succ d ih =>
    intro H
    have z : un (b + (w + d)) = 0 := H _ (by omega) (by omega)
    rw [show w + (d + 1) = (w + d) + 1 from rfl, rm_bs_s, if_neg (fun c => c.1 z)]
    exact ih (fun i h1 h2 => H i h1 (by omega))
end RM1
end
section
section RM2
/-! what lies on the ways: the component's rings against the reference's rows -/
def rm_R (ln fs qC qM yC yM : Nat → Int32) (l n f : Nat) : Prop :=
  ln l = nI n ∧ fs l = nI f ∧ f < 60 ∧ n ≤ 60 ∧ ∀ p, p < n → qC (60 * l + (f + p) % 60) = yC (60 * l + p) ∧ qM (60 * l + (f + p) % 60) = yM (60 * l + p)
def rm_M (w : Nat) (ha sM yM : Nat → Int32) (a b n : Nat) : Prop :=
  (∀ p, p < n → yM (60 * (3 * a + b) + p) = -1 ∨ ∃ m, m < w ∧ yM (60 * (3 * a + b) + p) = nI m ∧ ha (40 * b + m) = 0 ∧ sM m = nI a) ∧
  (∀ p q, p < q → q < n → yM (60 * (3 * a + b) + p) = yM (60 * (3 * a + b) + q) → yM (60 * (3 * a + b) + q) = -1)
def rm_W (w : Nat) (ha sM ln fs qC qM yC yM : Nat → Int32) : Prop :=
  ∀ a b, a < 3 → b < 3 → ∃ n f, rm_R ln fs qC qM yC yM (3 * a + b) n f ∧ rm_M w ha sM yM a b n ∧ (a = b → n = 0)
def rm_B (w : Nat) (ln : Nat → Int32) : Prop := ∀ l, l < 9 → ∃ n, ln l = nI n ∧ n ≤ 20 + w
/-- a member's messages: had, done, unread, counted -/
def rm_P (w : Nat) (un ha dn uc oc : Nat → Int32) : Prop :=
  ∀ m, m < 3 → uc m = nI (rm_cn un (40 * m) w) ∧ oc m = nI (rm_cn dn (40 * m) w) ∧ ∀ i, i < 40 → (un (40 * m + i) = 0 ↔ (ha (40 * m + i) = 0 ∨ ¬ dn (40 * m + i) = 0)) ∧ (w ≤ i → ha (40 * m + i) = 0) ∧ (¬ dn (40 * m + i) = 0 → ¬ ha (40 * m + i) = 0)

theorem rm_R_send {ln fs qC qM yC yM : Nat → Int32} {l n f : Nat} {c x : Int32} (h : rm_R ln fs qC qM yC yM l n f) (hn : n < 60) :
    rm_R (upd ln l (nI (n + 1))) fs (upd qC (60 * l + (f + n) % 60) c) (upd qM (60 * l + (f + n) % 60) x) (upd yC (60 * l + n) c) (upd yM (60 * l + n) x) l (n + 1) f := by
  obtain ⟨h1, h2, h3, h4, h5⟩ := h
  refine ⟨rm_us, h2, h3, by omega, fun p hp => ?_⟩
  by_cases e : p = n
  · subst e
    rw [rm_us, rm_us, rm_us, rm_us]
    exact ⟨rfl, rfl⟩
  · have a1 : 60 * l + (f + p) % 60 ≠ 60 * l + (f + n) % 60 := by omega
    have a2 : 60 * l + p ≠ 60 * l + n := by omega
    rw [rm_un a1, rm_un a1, rm_un a2, rm_un a2]
    exact h5 p (by omega)
theorem rm_R_oth {ln fs qC qM yC yM : Nat → Int32} {l n f l' k s : Nat} {c x z : Int32} (h : rm_R ln fs qC qM yC yM l n f) (hl : l ≠ l') (hk : k < 60) (hs : s < 60) :
    rm_R (upd ln l' z) fs (upd qC (60 * l' + s) c) (upd qM (60 * l' + s) x) (upd yC (60 * l' + k) c) (upd yM (60 * l' + k) x) l n f := by
  obtain ⟨h1, h2, h3, h4, h5⟩ := h
  refine ⟨(rm_un hl).trans h1, h2, h3, h4, fun p hp => ?_⟩
  have a1 : 60 * l + (f + p) % 60 ≠ 60 * l' + s := by omega
  have a2 : 60 * l + p ≠ 60 * l' + k := by omega
  rw [rm_un a1, rm_un a1, rm_un a2, rm_un a2]
  exact h5 p hp
theorem rm_M_send {w : Nat} {ha sM yM : Nat → Int32} {a b n : Nat} {x : Int32} (h : rm_M w ha sM yM a b n)
    (hx : x = -1 ∨ ∃ m, m < w ∧ x = nI m ∧ ha (40 * b + m) = 0 ∧ sM m = nI a ∧ ∀ p, p < n → yM (60 * (3 * a + b) + p) ≠ nI m) :
    rm_M w ha sM (upd yM (60 * (3 * a + b) + n) x) a b (n + 1) := by
  obtain ⟨h1, h2⟩ := h
  refine ⟨fun p hp => ?_, fun p q hpq hq => ?_⟩
  · by_cases e : p = n
    · subst e
      rw [rm_us]
      rcases hx with hx | ⟨m, m1, m2, m3, m4, _⟩
      · exact Or.inl hx
      · exact Or.inr ⟨m, m1, m2, m3, m4⟩
    · rw [rm_un (show 60 * (3 * a + b) + p ≠ 60 * (3 * a + b) + n by omega)]
      exact h1 p (by omega)
  · rw [rm_un (show 60 * (3 * a + b) + p ≠ 60 * (3 * a + b) + n by omega)]
    by_cases e : q = n
    · subst e
      rw [rm_us]
      intro E
      rcases hx with hx | ⟨m, m1, m2, m3, m4, m5⟩
      · exact hx
      · exact absurd (E.trans m2) (m5 p (by omega))
    · rw [rm_un (show 60 * (3 * a + b) + q ≠ 60 * (3 * a + b) + n by omega)]
      exact h2 p q hpq (by omega)
theorem rm_M_oth {w : Nat} {ha sM yM : Nat → Int32} {a b n l k : Nat} {x : Int32} (h : rm_M w ha sM yM a b n) (hn : n ≤ 60) (hl : 3 * a + b ≠ l) (hk : k < 60) :
    rm_M w ha sM (upd yM (60 * l + k) x) a b n := by
  obtain ⟨h1, h2⟩ := h
  have key : ∀ p, p < n → upd yM (60 * l + k) x (60 * (3 * a + b) + p) = yM (60 * (3 * a + b) + p) := fun p hp =>
    rm_un (show 60 * (3 * a + b) + p ≠ 60 * l + k by omega)
  refine ⟨fun p hp => ?_, fun p q hpq hq => ?_⟩
  · rw [key p hp]; exact h1 p hp
  · rw [key p (by omega), key q hq]; exact h2 p q hpq hq
theorem rm_W_send {w : Nat} {ha sM ln fs qC qM yC yM : Nat → Int32} {a b n f : Nat} {c x : Int32} (H : rm_W w ha sM ln fs qC qM yC yM)
    (ha3 : a < 3) (hb3 : b < 3) (hab : a ≠ b) (hl : ln (3 * a + b) = nI n) (hf : fs (3 * a + b) = nI f) (hf6 : f < 60) (hn : n < 60)
    (hx : x = -1 ∨ ∃ m, m < w ∧ x = nI m ∧ ha (40 * b + m) = 0 ∧ sM m = nI a ∧ ∀ p, p < n → yM (60 * (3 * a + b) + p) ≠ nI m) :
    rm_W w ha sM (upd ln (3 * a + b) (nI (n + 1))) fs (upd qC (60 * (3 * a + b) + (f + n) % 60) c) (upd qM (60 * (3 * a + b) + (f + n) % 60) x) (upd yC (60 * (3 * a + b) + n) c) (upd yM (60 * (3 * a + b) + n) x) := by
  intro a' b' ha' hb'
  obtain ⟨n', f', hR, hM, hz⟩ := H a' b' ha' hb'
  by_cases e : 3 * a' + b' = 3 * a + b
  · have ea : a' = a := by omega
    have eb : b' = b := by omega
    subst ea; subst eb
    have en : n' = n := rm_im (hR.1.symm.trans hl) (by have := hR.2.2.2.1; omega) (by omega)
    have ef : f' = f := rm_im (hR.2.1.symm.trans hf) (by have := hR.2.2.1; omega) (by omega)
    subst en; subst ef
    exact ⟨n' + 1, f', rm_R_send hR hn, rm_M_send hM hx, fun z => absurd z hab⟩
  · exact ⟨n', f', rm_R_oth hR e hn (by omega), rm_M_oth hM hR.2.2.2.1 e hn, hz⟩
/-- the next message's number comes into being: ways and what lies on them stay -/
theorem rm_W_new {w : Nat} {ha sM ln fs qC qM yC yM : Nat → Int32} {j : Nat} {x y : Int32} (H : rm_W w ha sM ln fs qC qM yC yM) (hw : w < 40) :
    rm_W (w + 1) (upd ha (40 * j + w) x) (upd sM w y) ln fs qC qM yC yM := by
  intro a b ha3 hb3
  obtain ⟨n, f, hR, hM, hz⟩ := H a b ha3 hb3
  refine ⟨n, f, hR, ⟨fun p hp => ?_, hM.2⟩, hz⟩
  rcases hM.1 p hp with h | ⟨m, m1, m2, m3, m4⟩
  · exact Or.inl h
  · refine Or.inr ⟨m, by omega, m2, ?_, ?_⟩
    · rw [rm_un (show 40 * b + m ≠ 40 * j + w by omega)]; exact m3
    · rw [rm_un (show m ≠ w by omega)]; exact m4
theorem rm_W_lt {w : Nat} {ha sM ln fs qC qM yC yM : Nat → Int32} (H : rm_W w ha sM ln fs qC qM yC yM) (hw : w < 40) {a b n : Nat} (ha3 : a < 3) (hb3 : b < 3) (hl : ln (3 * a + b) = nI n) (hn : n < 2 ^ 31) :
    ∀ p, p < n → yM (60 * (3 * a + b) + p) ≠ nI w := by
  obtain ⟨n', f, hR, hM, hz⟩ := H a b ha3 hb3
  have en : n' = n := rm_im (hR.1.symm.trans hl) (by have := hR.2.2.2.1; omega) hn
  subst en
  intro p hp E
  rcases hM.1 p hp with h | ⟨m, m1, m2, m3, m4⟩
  · exact rm_ne1 (a := w) (by omega) (E.symm.trans h)
  · have := rm_im (m2.symm.trans E) (by omega) (by omega)
    omega
/-- the row of the reference after one thing has gone -/
def rm_sh (y : Nat → Int32) (l i : Nat) : Nat → Int32 := fun j => if 60 * l ≤ j ∧ j < 60 * l + i then y (j + 1) else y j
theorem rm_sh0 (y : Nat → Int32) (l : Nat) : rm_sh y l 0 = y := by
  funext j
  exact if_neg (by omega)
theorem rm_sh_in {y : Nat → Int32} {l i p : Nat} (h : p < i) : rm_sh y l i (60 * l + p) = y (60 * l + p + 1) := if_pos (by omega)
theorem rm_sh_out {y : Nat → Int32} {l i j : Nat} (h : ¬ (60 * l ≤ j ∧ j < 60 * l + i)) : rm_sh y l i j = y j := if_neg h
theorem rm_sh_s (y : Nat → Int32) (l i : Nat) : upd (rm_sh y l i) (60 * l + i) (y (60 * l + i + 1)) = rm_sh y l (i + 1) := by
  funext j
  by_cases e : j = 60 * l + i
  · subst e
    rw [rm_us, rm_sh_in (by omega)]
  · rw [rm_un e]
    by_cases c : 60 * l ≤ j ∧ j < 60 * l + i
    · rw [rm_sh, rm_sh, if_pos c, if_pos (by omega)]
    · rw [rm_sh, rm_sh, if_neg c, if_neg (by omega)]
theorem rm_W_take {w : Nat} {ha sM ln fs qC qM yC yM : Nat → Int32} {a b n f : Nat} (H : rm_W w ha sM ln fs qC qM yC yM)
    (ha3 : a < 3) (hb3 : b < 3) (hl : ln (3 * a + b) = nI (n + 1)) (hf : fs (3 * a + b) = nI f) (hf6 : f < 60) (hn : n + 1 ≤ 60) :
    rm_W w ha sM (upd ln (3 * a + b) (nI n)) (upd fs (3 * a + b) (nI ((f + 1) % 60))) qC qM (rm_sh yC (3 * a + b) n) (rm_sh yM (3 * a + b) n) := by
  intro a' b' ha' hb'
  obtain ⟨n', f', hR, hM, hz⟩ := H a' b' ha' hb'
  by_cases e : 3 * a' + b' = 3 * a + b
  · have ea : a' = a := by omega
    have eb : b' = b := by omega
    subst ea; subst eb
    have en : n' = n + 1 := rm_im (hR.1.symm.trans hl) (by have := hR.2.2.2.1; omega) (by omega)
    have ef : f' = f := rm_im (hR.2.1.symm.trans hf) (by have := hR.2.2.1; omega) (by omega)
    subst en; subst ef
    refine ⟨n, (f' + 1) % 60, ⟨rm_us, rm_us, by omega, by omega, fun p hp => ?_⟩, ⟨fun p hp => ?_, fun p q hpq hq => ?_⟩, fun z => by have := hz z; omega⟩
    · rw [rm_sh_in hp, rm_sh_in hp, show ((f' + 1) % 60 + p) % 60 = (f' + (p + 1)) % 60 by omega]
      exact hR.2.2.2.2 (p + 1) (by omega)
    · rw [rm_sh_in hp]
      exact hM.1 (p + 1) (by omega)
    · rw [rm_sh_in (show p < n by omega), rm_sh_in hq]
      exact hM.2 (p + 1) (q + 1) (by omega) (by omega)
  · have hn' := hR.2.2.2.1
    have key : ∀ (y : Nat → Int32) p, p < n' → rm_sh y (3 * a + b) n (60 * (3 * a' + b') + p) = y (60 * (3 * a' + b') + p) := fun y p hp =>
      rm_sh_out (by omega)
    refine ⟨n', f', ⟨(rm_un e).trans hR.1, (rm_un e).trans hR.2.1, hR.2.2.1, hn', fun p hp => ?_⟩, ⟨fun p hp => ?_, fun p q hpq hq => ?_⟩, hz⟩
    · rw [key yC p hp, key yM p hp]
      exact hR.2.2.2.2 p hp
    · rw [key yM p hp]
      exact hM.1 p hp
    · rw [key yM p (by omega), key yM q hq]
      exact hM.2 p q hpq hq
/-- the message that has gone from the way of a to b is had by b now: no other thing on the ways is that message for b -/
theorem rm_W_had {w : Nat} {ha sM ln fs qC qM yC yM : Nat → Int32} {b m : Nat} {x : Int32} (H : rm_W w ha sM ln fs qC qM yC yM) (hw : w ≤ 40) (hm : m < w)
    (hfr : ∀ a n, a < 3 → ln (3 * a + b) = nI n → n ≤ 60 → ∀ p, p < n → yM (60 * (3 * a + b) + p) ≠ nI m) :
    rm_W w (upd ha (40 * b + m) x) sM ln fs qC qM yC yM := by
  intro a' b' ha' hb'
  obtain ⟨n, f, hR, hM, hz⟩ := H a' b' ha' hb'
  refine ⟨n, f, hR, ⟨fun p hp => ?_, hM.2⟩, hz⟩
  rcases hM.1 p hp with h | ⟨m', m1, m2, m3, m4⟩
  · exact Or.inl h
  · refine Or.inr ⟨m', m1, m2, ?_, m4⟩
    rw [rm_un]
    · exact m3
    · intro E
      have eb : b' = b := by omega
      subst eb
      have em : m' = m := by omega
      subst em
      exact hfr a' n ha' hR.1 hR.2.2.2.1 p hp m2
theorem rm_take_fr {w : Nat} {ha sM ln fs qC qM yC yM : Nat → Int32} {a b n m : Nat} (H : rm_W w ha sM ln fs qC qM yC yM) (hw : w ≤ 40)
    (ha3 : a < 3) (hb3 : b < 3) (hl : ln (3 * a + b) = nI (n + 1)) (hn : n + 1 ≤ 60) (hm : m < w) (h0 : yM (60 * (3 * a + b)) = nI m) :
    ∀ a' n', a' < 3 → upd ln (3 * a + b) (nI n) (3 * a' + b) = nI n' → n' ≤ 60 → ∀ p, p < n' → rm_sh yM (3 * a + b) n (60 * (3 * a' + b) + p) ≠ nI m := by
  obtain ⟨n0, f0, hR, hM, _⟩ := H a b ha3 hb3
  have en : n0 = n + 1 := rm_im (hR.1.symm.trans hl) (by have := hR.2.2.2.1; omega) (by omega)
  subst en
  intro a' n' ha' hl' hn' p hp E
  by_cases e : a' = a
  · subst e
    rw [rm_us] at hl'
    have en : n = n' := rm_im hl' (by omega) (by omega)
    subst en
    rw [rm_sh_in hp] at E
    have := hM.2 0 (p + 1) (by omega) (by omega) (h0.trans E.symm)
    exact rm_ne1 (a := m) (by omega) (E.symm.trans this)
  · obtain ⟨n1, f1, hR1, hM1, _⟩ := H a' b ha' hb3
    rw [rm_un (show 3 * a' + b ≠ 3 * a + b by omega)] at hl'
    have en : n1 = n' := rm_im (hR1.1.symm.trans hl') (by have := hR1.2.2.2.1; omega) (by omega)
    subst en
    rw [rm_sh_out (by omega)] at E
    have s0 : sM m = nI a := by
      rcases hM.1 0 (by omega) with h | ⟨m', m1, m2, m3, m4⟩
      · exact absurd (h0.symm.trans h) (rm_ne1 (by omega))
      · have := rm_im (h0.symm.trans m2) (by omega) (by omega)
        subst this; exact m4
    have s1 : sM m = nI a' := by
      rcases hM1.1 p hp with h | ⟨m', m1, m2, m3, m4⟩
      · exact absurd (E.symm.trans h) (rm_ne1 (by omega))
      · have := rm_im (E.symm.trans m2) (by omega) (by omega)
        subst this; exact m4
    exact e (rm_im (s1.symm.trans s0) (by omega) (by omega))

/-! the members -/
theorem rm_P_up {w : Nat} {un ha dn uc oc : Nat → Int32} (H : rm_P w un ha dn uc oc) (hw : w < 40) : rm_P (w + 1) un ha dn uc oc := by
  intro m hm
  obtain ⟨h1, h2, h3⟩ := H m hm
  obtain ⟨k1, k2, k3⟩ := h3 w hw
  have hz : ha (40 * m + w) = 0 := k2 (Nat.le_refl w)
  have uz : un (40 * m + w) = 0 := k1.mpr (Or.inl hz)
  have dz : dn (40 * m + w) = 0 := by
    by_cases c : dn (40 * m + w) = 0
    · exact c
    · exact absurd hz (k3 c)
  refine ⟨?_, ?_, fun i hi => ⟨(h3 i hi).1, fun hwi => (h3 i hi).2.1 (by omega), (h3 i hi).2.2⟩⟩
  · rw [rm_cn_s, if_pos uz]; exact h1
  · rw [rm_cn_s, if_pos dz]; exact h2
theorem rm_P_recv {w : Nat} {un ha dn uc oc : Nat → Int32} {b m : Nat} (H : rm_P w un ha dn uc oc) (hb : b < 3) (hm : m < w) (hw : w ≤ 40) (hz : ha (40 * b + m) = 0) :
    rm_P w (upd un (40 * b + m) 1) (upd ha (40 * b + m) 1) dn (upd uc b (uc b + 1)) oc := by
  intro m' hm'
  obtain ⟨h1, h2, h3⟩ := H m' hm'
  by_cases e : m' = b
  · subst e
    have uz : un (40 * m' + m) = 0 := (h3 m (by omega)).1.mpr (Or.inl hz)
    have dz : dn (40 * m' + m) = 0 := by
      by_cases c : dn (40 * m' + m) = 0
      · exact c
      · exact absurd hz ((h3 m (by omega)).2.2 c)
    refine ⟨?_, h2, fun i hi => ?_⟩
    · rw [rm_us, h1, nI_1, rm_cn_set (g := un) (h := upd un (40 * m' + m) 1) (i := m) w hm (fun j hj hn => (rm_un (show 40 * m' + j ≠ 40 * m' + m by omega)).symm) uz (by rw [rm_us]; decide)]
    · by_cases ei : i = m
      · subst ei
        rw [rm_us, rm_us]
        refine ⟨⟨fun z => absurd z (by decide), fun z => ?_⟩, fun z => by omega, fun z => by decide⟩
        rcases z with z | z
        · exact absurd z (by decide)
        · exact absurd dz z
      · rw [rm_un (show 40 * m' + i ≠ 40 * m' + m by omega), rm_un (show 40 * m' + i ≠ 40 * m' + m by omega)]
        exact h3 i hi
  · refine ⟨?_, h2, fun i hi => ?_⟩
    · rw [rm_un e, h1, rm_cn_ext (g := un) (h := upd un (40 * b + m) 1) w (fun i hi => (rm_un (show 40 * m' + i ≠ 40 * b + m by omega)).symm)]
    · rw [rm_un (show 40 * m' + i ≠ 40 * b + m by omega), rm_un (show 40 * m' + i ≠ 40 * b + m by omega)]
      exact h3 i hi
theorem rm_P_read {w : Nat} {un ha dn uc oc : Nat → Int32} {b m : Nat} (H : rm_P w un ha dn uc oc) (hb : b < 3) (hm : m < w) (hw : w ≤ 40) (hz : ¬ un (40 * b + m) = 0) :
    rm_P w (upd un (40 * b + m) 0) ha (upd dn (40 * b + m) 1) (upd uc b (uc b - 1)) (upd oc b (oc b + 1)) ∧ rm_cn un (40 * b) w = rm_cn (upd un (40 * b + m) 0) (40 * b) w + 1 ∧ rm_cn dn (40 * b) w < w := by
  have hd : dn (40 * b + m) = 0 := by
    by_cases c : dn (40 * b + m) = 0
    · exact c
    · exact absurd (((H b hb).2.2 m (by omega)).1.mpr (Or.inr c)) hz
  have hh : ¬ ha (40 * b + m) = 0 := fun c => hz (((H b hb).2.2 m (by omega)).1.mpr (Or.inl c))
  have c1 : rm_cn un (40 * b) w = rm_cn (upd un (40 * b + m) 0) (40 * b) w + 1 :=
    rm_cn_set (g := upd un (40 * b + m) 0) (h := un) (i := m) w hm (fun j hj hn => rm_un (show 40 * b + j ≠ 40 * b + m by omega)) rm_us hz
  refine ⟨fun m' hm' => ?_, c1, rm_cn_lt w hm hd⟩
  obtain ⟨h1, h2, h3⟩ := H m' hm'
  by_cases e : m' = b
  · subst e
    refine ⟨?_, ?_, fun i hi => ?_⟩
    · rw [rm_us, h1, c1, nI_pred]
    · rw [rm_us, h2, nI_1, rm_cn_set (g := dn) (h := upd dn (40 * m' + m) 1) (i := m) w hm (fun j hj hn => (rm_un (show 40 * m' + j ≠ 40 * m' + m by omega)).symm) hd (by rw [rm_us]; decide)]
    · by_cases ei : i = m
      · subst ei
        rw [rm_us, rm_us]
        exact ⟨⟨fun _ => Or.inr (by decide), fun _ => rfl⟩, fun z => by omega, fun _ => hh⟩
      · rw [rm_un (show 40 * m' + i ≠ 40 * m' + m by omega), rm_un (show 40 * m' + i ≠ 40 * m' + m by omega)]
        exact h3 i hi
  · refine ⟨?_, ?_, fun i hi => ?_⟩
    · rw [rm_un e, h1, rm_cn_ext (g := un) (h := upd un (40 * b + m) 0) w (fun i hi => (rm_un (show 40 * m' + i ≠ 40 * b + m by omega)).symm)]
    · rw [rm_un e, h2, rm_cn_ext (g := dn) (h := upd dn (40 * b + m) 1) w (fun i hi => (rm_un (show 40 * m' + i ≠ 40 * b + m by omega)).symm)]
    · rw [rm_un (show 40 * m' + i ≠ 40 * b + m by omega), rm_un (show 40 * m' + i ≠ 40 * b + m by omega)]
      exact h3 i hi
end RM2
end
section
section RM3
variable {F G : Int32} {cl sC sM qC qM fs ln hd un uc om oc ha dn yC yM : Nat → Int32}
/-! members and links -/
def rm_bad (x : Int32) : Prop := x < 0 ∨ (¬ x < 0 ∧ nI 3 ≤ x)
theorem rm_3 (x : Int32) : rm_bad x ∨ ∃ j : Nat, j < 3 ∧ x = nI j := by
  rcases rm_ix x (n := 3) (by decide) with h | h | h
  · exact Or.inl (Or.inl h)
  · exact Or.inl (Or.inr h)
  · exact Or.inr h
theorem rm_v3 {j : Nat} (h : j < 3) : vp_in (nI j) 3 := vp_in_nI h (by decide)
theorem rm_v9 {l : Nat} (h : l < 9) : vp_in (nI l) 9 := vp_in_nI h (by decide)
theorem rm_v40 {l : Nat} (h : l < 40) : vp_in (nI l) 40 := vp_in_nI h (by decide)
theorem rm_v120 {l : Nat} (h : l < 120) : vp_in (nI l) 120 := vp_in_nI h (by decide)
theorem rm_v540 {l : Nat} (h : l < 540) : vp_in (nI l) 540 := vp_in_nI h (by decide)
theorem rm_c {n : Nat} (h : n < 1000) : (nI n).toNatClampNeg = n := nI_clamp (by omega)
theorem rm_10 : ¬ (1 : Int32) = 0 := by decide
theorem rm_xm {post : Int32 → Prop} {j : Nat} (hj : j < 3) (h : post 1) : wpX_isMember post (nI j) :=
  br_f (nI_pos (by omega)) (br_f (nI_ge (b := 3) hj (by decide)) h)
theorem rm_xm0 {post : Int32 → Prop} {x : Int32} (hx : rm_bad x) (h : post 0) : wpX_isMember post x := by
  rcases hx with hx | ⟨hx, h3⟩
  · exact br_t hx h
  · exact br_f hx (br_t h3 h)
theorem rm_ym {post : Int32 → Prop} {j : Nat} (hj : j < 3) (h : post 0) : wpY_bad post (nI j) :=
  br_f (nI_pos (by omega)) (br_t (nI_le (b := 2) (by omega) (by decide)) h)
theorem rm_ym0 {post : Int32 → Prop} {x : Int32} (hx : rm_bad x) (h : post 1) : wpY_bad post x := by
  rcases hx with hx | ⟨hx, h3⟩
  · exact br_t hx h
  · have h2 : ¬ x ≤ 2 := fun h2 => nI_ge (a := 2) (b := 3) (by decide) (by decide) (Int32.le_trans h3 h2)
    exact br_f hx (br_f h2 h)
theorem rm_xl1 {post : Int32 → Prop} {x y : Int32} (h1 : rm_bad x) (h : post 0) : wpX_isLink post x y := by
  unfold wpX_isLink
  exact rm_xm0 h1 (br_t rfl h)
theorem rm_xl2 {post : Int32 → Prop} {a : Nat} {y : Int32} (ha3 : a < 3) (h2 : rm_bad y) (h : post 0) : wpX_isLink post (nI a) y := by
  unfold wpX_isLink
  exact rm_xm ha3 (br_f rm_10 (rm_xm0 h2 (br_t rfl h)))
theorem rm_xl3 {post : Int32 → Prop} {a b : Nat} (ha3 : a < 3) (hb3 : b < 3) (e : nI a = nI b) (h : post 0) : wpX_isLink post (nI a) (nI b) := by
  unfold wpX_isLink
  exact rm_xm ha3 (br_f rm_10 (rm_xm hb3 (br_f rm_10 (br_t e h))))
theorem rm_xl4 {post : Int32 → Prop} {a b : Nat} (ha3 : a < 3) (hb3 : b < 3) (e : ¬ nI a = nI b) (h : post 1) : wpX_isLink post (nI a) (nI b) := by
  unfold wpX_isLink
  exact rm_xm ha3 (br_f rm_10 (rm_xm hb3 (br_f rm_10 (br_f e h))))
theorem rm_lo {post : Int32 → Prop} {a b : Nat} (h : post (nI (3 * a + b))) : wpX_linkOf post (nI a) (nI b) := by
  unfold wpX_linkOf
  rw [rm_x3]
  exact h
/-! sending -/
theorem rm_send {post : SX → Prop} {l n f : Nat} {c x : Int32} (hl : l < 9) (hln : ln l = nI n) (hfs : fs l = nI f) (hf : f < 60) (hn : n < 60)
    (h : post (F, cl, sC, sM, upd qC (60 * l + (f + n) % 60) c, upd qM (60 * l + (f + n) % 60) x, fs, upd ln l (nI (n + 1)), hd, un, uc, om, oc)) :
    wpX_send post (F, cl, sC, sM, qC, qM, fs, ln, hd, un, uc, om, oc) (nI l) c x := by
  have cl1 : (nI l).toNatClampNeg = l := rm_c (by omega)
  have e2 : nI l * 60 + ((fs (nI l).toNatClampNeg + ln (nI l).toNatClampNeg) - (fs (nI l).toNatClampNeg + ln (nI l).toNatClampNeg) / 60 * 60) = nI (60 * l + (f + n) % 60) := by
    rw [cl1, hfs, hln, nI_add, rm_rem (by omega), rm_x60]
  have v9 : vp_in (nI l) 9 := rm_v9 hl
  have vs : vp_in (nI (60 * l + (f + n) % 60)) 540 := rm_v540 (by omega)
  have cs : (nI (60 * l + (f + n) % 60)).toNatClampNeg = 60 * l + (f + n) % 60 := rm_c (by omega)
  unfold wpX_send
  dsimp only
  exact ⟨v9, v9, by decide, nm_r e2 ⟨vs, nm_r (by rw [cs]) ⟨vs, nm_r (by rw [cs]) ⟨v9, v9, nm_r (by rw [cl1, hln, nI_1]) h⟩⟩⟩⟩
theorem rm_out_i {w j : Nat} (hj : j < 3) (x : Int32) : ∀ d t, t + d = 3 → ∀ (qC qM ln yC yM : Nat → Int32), rm_W w ha sM ln fs qC qM yC yM →
    (∀ t', t ≤ t' → t' < 3 → t' ≠ j → ∃ n, ln (3 * j + t') = nI n ∧ n < 60) →
    (x = -1 ∨ ∃ m, m < w ∧ x = nI m ∧ sM m = nI j ∧ ∀ t', t ≤ t' → t' < 3 → t' ≠ j → ha (40 * t' + m) = 0 ∧ ∀ n p, ln (3 * j + t') = nI n → n ≤ 60 → p < n → yM (60 * (3 * j + t') + p) ≠ nI m) →
    ∃ qC' qM' ln' yC' yM' : Nat → Int32,
      (∀ post : SX → Prop, post (F, cl, sC, sM, qC', qM', fs, ln', hd, un, uc, om, oc) → wX_sendToOthers_2 post (nI j) x (d + 1) (nI t) F cl sC sM qC qM fs ln hd un uc om oc) ∧
      (∀ post : SY → Prop, post (G, cl, sM, sC, ha, dn, oc, om, hd, ln', yC', yM') → wY_setOut_2 post (nI j) x G (d + 1) (nI t) cl sM sC ha dn oc om hd ln yC yM) ∧
      rm_W w ha sM ln' fs qC' qM' yC' yM' ∧
      ∀ l, l < 9 → ln' l = ln l ∨ ∃ t' n, t ≤ t' ∧ t' < 3 ∧ t' ≠ j ∧ l = 3 * j + t' ∧ ln l = nI n ∧ ln' l = nI (n + 1) := by
  intro d
  induction d with
  | zero =>
    intro t ht qC qM ln yC yM hW _ _
    have e : t = 3 := by omega
    subst e
    have h3 : (3 : Int32) ≤ nI 3 := nI_le (a := 3) (b := 3) (by decide) (by decide)
    exact ⟨qC, qM, ln, yC, yM, fun post h => br_t h3 h, fun post h => br_t h3 h, hW, fun l hl => Or.inl rfl⟩
  | succ d ih =>
    intro t ht qC qM ln yC yM hW hL hx
    have h3 : ¬ (3 : Int32) ≤ nI t := nI_ge (b := 3) (by omega) (by decide)
    by_cases e : t = j
    · subst e
      obtain ⟨qC', qM', ln', yC', yM', hX, hY, hW', hl'⟩ := ih (t + 1) (by omega) qC qM ln yC yM hW (fun t' h1 h2 h3 => hL t' (by omega) h2 h3) (by
        rcases hx with hx | ⟨m, m1, m2, m3, m4⟩
        · exact Or.inl hx
        · exact Or.inr ⟨m, m1, m2, m3, fun t' h1 h2 h3 => m4 t' (by omega) h2 h3⟩)
      refine ⟨qC', qM', ln', yC', yM', fun post h => br_f h3 (br_t rfl (nm_r (nI_1 t) (hX post h))), fun post h => br_f h3 (br_t rfl (nm_r (nI_1 t) (hY post h))), hW', fun l hl => ?_⟩
      rcases hl' l hl with h | ⟨t', n, h1, h2⟩
      · exact Or.inl h
      · exact Or.inr ⟨t', n, by omega, h2⟩
    · have ne : ¬ nI t = nI j := fun z => e (rm_im z (by omega) (by omega))
      obtain ⟨n, hn, hn6⟩ := hL t (Nat.le_refl t) (by omega) e
      obtain ⟨n0, f, hR, hM, _⟩ := hW j t hj (by omega)
      obtain ⟨_, hf, hf6, _, _⟩ := hR
      have hx1 : x = -1 ∨ ∃ m, m < w ∧ x = nI m ∧ ha (40 * t + m) = 0 ∧ sM m = nI j ∧ ∀ p, p < n → yM (60 * (3 * j + t) + p) ≠ nI m := by
        rcases hx with hx | ⟨m, m1, m2, m3, m4⟩
        · exact Or.inl hx
        · exact Or.inr ⟨m, m1, m2, (m4 t (Nat.le_refl t) (by omega) e).1, m3, fun p hp => (m4 t (Nat.le_refl t) (by omega) e).2 n p hn (by omega) hp⟩
      have hW1 := rm_W_send (c := cl (nI j).toNatClampNeg) hW hj (show t < 3 by omega) (fun z => e z.symm) hn hf hf6 hn6 hx1
      obtain ⟨qC', qM', ln', yC', yM', hX, hY, hW', hl'⟩ := ih (t + 1) (by omega) _ _ _ _ _ hW1 (fun t' h1 h2 h3 => by
          rw [rm_un (show 3 * j + t' ≠ 3 * j + t by omega)]
          exact hL t' (by omega) h2 h3) (by
        rcases hx with hx | ⟨m, m1, m2, m3, m4⟩
        · exact Or.inl hx
        · refine Or.inr ⟨m, m1, m2, m3, fun t' h1 h2 h3 => ⟨(m4 t' (by omega) h2 h3).1, fun n' p hn' hn'6 hp => ?_⟩⟩
          rw [rm_un (show 3 * j + t' ≠ 3 * j + t by omega)] at hn'
          rw [rm_un (show 60 * (3 * j + t') + p ≠ 60 * (3 * j + t) + n by omega)]
          exact (m4 t' (by omega) h2 h3).2 n' p hn' hn'6 hp)
      have v9 : vp_in (nI (3 * j + t)) 9 := rm_v9 (by omega)
      have c9 : (nI (3 * j + t)).toNatClampNeg = 3 * j + t := rm_c (by omega)
      have v3 : vp_in (nI j) 3 := rm_v3 hj
      have e5 : 60 * nI (3 * j + t) + ln (nI (3 * j + t)).toNatClampNeg = nI (60 * (3 * j + t) + n) := by rw [c9, hn, rm_y60]
      have c5 : (60 * nI (3 * j + t) + ln (nI (3 * j + t)).toNatClampNeg).toNatClampNeg = 60 * (3 * j + t) + n := by rw [e5]; exact rm_c (by omega)
      have v5 : vp_in (60 * nI (3 * j + t) + ln (nI (3 * j + t)).toNatClampNeg) 540 := by rw [e5]; exact rm_v540 (by omega)
      refine ⟨qC', qM', ln', yC', yM', fun post h => br_f h3 (br_f ne (rm_lo ⟨v3, rm_send (by omega) hn hf hf6 hn6 (nm_r (nI_1 t) (hX post h))⟩)), fun post h => br_f h3 (br_f ne (nm_r (rm_y3 j t) ⟨v9, v3, v5, nm_r (by rw [c5]) ⟨v9, v5, nm_r (by rw [c5]) ⟨v9, v9, nm_r (by rw [c9, hn, nI_1]) (nm_r (nI_1 t) (hY post h))⟩⟩⟩)), hW', fun l hl => ?_⟩
      rcases hl' l hl with h | ⟨t', n', h1, h2, h4, h5, h6, h7⟩
      · by_cases el : l = 3 * j + t
        · subst el
          rw [rm_us] at h
          exact Or.inr ⟨t, n, Nat.le_refl t, by omega, e, rfl, hn, h⟩
        · rw [rm_un el] at h
          exact Or.inl h
      · rw [rm_un (show l ≠ 3 * j + t by omega)] at h6
        exact Or.inr ⟨t', n', by omega, h2, h4, h5, h6, h7⟩
theorem rm_out {w j : Nat} (hj : j < 3) (x : Int32) (hW : rm_W w ha sM ln fs qC qM yC yM)
    (hL : ∀ t', t' < 3 → t' ≠ j → ∃ n, ln (3 * j + t') = nI n ∧ n < 60)
    (hx : x = -1 ∨ ∃ m, m < w ∧ x = nI m ∧ sM m = nI j ∧ ∀ t', t' < 3 → t' ≠ j → ha (40 * t' + m) = 0 ∧ ∀ n p, ln (3 * j + t') = nI n → n ≤ 60 → p < n → yM (60 * (3 * j + t') + p) ≠ nI m) :
    ∃ qC' qM' ln' yC' yM' : Nat → Int32,
      (∀ post : SX → Prop, post (F, cl, sC, sM, qC', qM', fs, ln', hd, un, uc, om, oc) → wpX_sendToOthers post (F, cl, sC, sM, qC, qM, fs, ln, hd, un, uc, om, oc) (nI j) x) ∧
      (∀ post : SY → Prop, post (G, cl, sM, sC, ha, dn, oc, om, hd, ln', yC', yM') → wpY_setOut post (G, cl, sM, sC, ha, dn, oc, om, hd, ln, yC, yM) (nI j) x) ∧
      rm_W w ha sM ln' fs qC' qM' yC' yM' ∧
      ∀ l, l < 9 → ln' l = ln l ∨ ∃ t' n, t' < 3 ∧ t' ≠ j ∧ l = 3 * j + t' ∧ ln l = nI n ∧ ln' l = nI (n + 1) := by
  obtain ⟨qC', qM', ln', yC', yM', hX, hY, hW', hl'⟩ := rm_out_i (F := F) (G := G) (cl := cl) (sC := sC) (hd := hd) (un := un) (uc := uc) (om := om) (oc := oc) (dn := dn) hj x 3 0 rfl qC qM ln yC yM hW (fun t' _ h2 h3 => hL t' h2 h3) (by
    rcases hx with hx | ⟨m, m1, m2, m3, m4⟩
    · exact Or.inl hx
    · exact Or.inr ⟨m, m1, m2, m3, fun t' _ h2 h3 => m4 t' h2 h3⟩)
  rw [nI_0] at hX hY
  refine ⟨qC', qM', ln', yC', yM', fun post h => ⟨4, hX post h⟩, fun post h => ⟨4, hY post h⟩, hW', fun l hl => ?_⟩
  rcases hl' l hl with h | ⟨t', n, _, h2⟩
  · exact Or.inl h
  · exact Or.inr ⟨t', n, h2⟩
/-! receiving, clocks -/
theorem rm_recv {post : SX → Prop} {b m : Nat} (hb : b < 3) (hm : m < 40)
    (h : post (F, cl, sC, sM, qC, qM, fs, ln, hd, upd un (40 * b + m) 1, upd uc b (uc b + 1), om, oc)) : wpX_receive post (F, cl, sC, sM, qC, qM, fs, ln, hd, un, uc, om, oc) (nI b) (nI m) := by
  have e : nI b * 40 + nI m = nI (40 * b + m) := rm_x40 b m
  have c : (nI b * 40 + nI m).toNatClampNeg = 40 * b + m := by rw [e]; exact rm_c (by omega)
  have v : vp_in (nI b * 40 + nI m) 120 := by rw [e]; exact rm_v120 (by omega)
  have cb : (nI b).toNatClampNeg = b := rm_c (by omega)
  unfold wpX_receive
  dsimp only
  exact ⟨v, nm_r (by rw [c, rm_vb1]) ⟨rm_v3 hb, rm_v3 hb, nm_r (by rw [cb]) h⟩⟩
theorem rm_ac {post : SX → Prop} {b : Nat} {c : Int32} (hb : b < 3)
    (h : post (F, upd cl b ((if c ≤ cl b then cl b else c) + 1), sC, sM, qC, qM, fs, ln, hd, un, uc, om, oc)) : wpX_advanceClock post (F, cl, sC, sM, qC, qM, fs, ln, hd, un, uc, om, oc) (nI b) c := by
  have cb : (nI b).toNatClampNeg = b := rm_c (by omega)
  unfold wpX_advanceClock
  dsimp only
  by_cases z : c ≤ cl b
  · rw [if_pos z] at h
    exact ⟨rm_v3 hb, br_t (by rw [cb]; exact z) ⟨rm_v3 hb, rm_v3 hb, nm_r (by rw [cb]) h⟩⟩
  · rw [if_neg z] at h
    exact ⟨rm_v3 hb, br_f (by rw [cb]; exact z) ⟨rm_v3 hb, nm_r (by rw [cb]) ⟨rm_v3 hb, rm_v3 hb, nm_r (by rw [cb, rm_us, rm_uu]) h⟩⟩⟩
/-! crowded -/
theorem rm_full_i {w j : Nat} (hj : j < 3) (hB : rm_B w ln) (hw : w ≤ 40) (hs : ln (3 * j + j) = nI 0) : ∀ d t, t + d = 3 → ∃ r : Int32,
    (∀ post : Int32 → Prop, post r → wX_isCrowded_2 post (nI j) F cl sC sM qC qM fs ln hd un uc om oc (d + 1) (nI t)) ∧
    (∀ post : Int32 → Prop, post r → wY_full_2 post (nI j) G cl sM sC ha dn oc om hd ln yC yM (d + 1) (nI t)) ∧
    (r = 0 → ∀ t', t ≤ t' → t' < 3 → t' ≠ j → ∃ n, ln (3 * j + t') = nI n ∧ n < 20) := by
  intro d
  induction d with
  | zero =>
    intro t ht
    have e : t = 3 := by omega
    subst e
    have h3 : (3 : Int32) ≤ nI 3 := nI_le (a := 3) (b := 3) (by decide) (by decide)
    exact ⟨0, fun post h => br_t h3 h, fun post h => br_t h3 h, fun _ t' h1 h2 => by omega⟩
  | succ d ih =>
    intro t ht
    have h3 : ¬ (3 : Int32) ≤ nI t := nI_ge (b := 3) (by omega) (by decide)
    have v9 : vp_in (nI (3 * j + t)) 9 := rm_v9 (by omega)
    have c9 : (nI (3 * j + t)).toNatClampNeg = 3 * j + t := rm_c (by omega)
    obtain ⟨r, hX, hY, hr⟩ := ih (t + 1) (by omega)
    by_cases e : t = j
    · subst e
      have lt : ln (nI (3 * t + t)).toNatClampNeg < 20 := by
        rw [c9, hs]; exact nI_lt (a := 0) (b := 20) (by decide) (by decide)
      exact ⟨r, fun post h => br_f h3 (rm_lo ⟨v9, br_t lt (nm_r (nI_1 t) (hX post h))⟩), fun post h => br_f h3 (br_t rfl (nm_r (nI_1 t) (hY post h))), fun z t' h1 h2 h4 => hr z t' (by omega) h2 h4⟩
    · have ne : ¬ nI t = nI j := fun z => e (rm_im z (by omega) (by omega))
      obtain ⟨n, hn, hn2⟩ := hB (3 * j + t) (by omega)
      have y9 : vp_in (3 * nI j + nI t) 9 := by rw [rm_y3]; exact v9
      by_cases c : n < 20
      · have lt : ln (nI (3 * j + t)).toNatClampNeg < 20 := by
          rw [c9, hn]; exact nI_lt (a := n) (b := 20) c (by decide)
        have lt' : ln (3 * nI j + nI t).toNatClampNeg < 20 := by rw [rm_y3]; exact lt
        refine ⟨r, fun post h => br_f h3 (rm_lo ⟨v9, br_t lt (nm_r (nI_1 t) (hX post h))⟩), fun post h => br_f h3 (br_f ne ⟨y9, br_t lt' (nm_r (nI_1 t) (hY post h))⟩), fun z t' h1 h2 h4 => ?_⟩
        by_cases e' : t' = t
        · subst e'
          exact ⟨n, hn, c⟩
        · exact hr z t' (by omega) h2 h4
      · have lt : ¬ ln (nI (3 * j + t)).toNatClampNeg < 20 := by
          rw [c9, hn]; exact nI_nlt (a := n) (b := 20) (by omega) (by omega)
        have lt' : ¬ ln (3 * nI j + nI t).toNatClampNeg < 20 := by rw [rm_y3]; exact lt
        exact ⟨1, fun post h => br_f h3 (rm_lo ⟨v9, br_f lt h⟩), fun post h => br_f h3 (br_f ne ⟨y9, br_f lt' h⟩), fun z => absurd z rm_10⟩
end RM3
end
section
section RM4
variable {F G : Int32} {cl sC sM qC qM fs ln hd un uc om oc ha dn yC yM : Nat → Int32}
/-! which stamp is earlier -/
theorem rm_xi {post : Int32 → Prop} {c p x : Int32} (v : vp_in x 40) (h1 : rm_er c p (sC x.toNatClampNeg) (sM x.toNatClampNeg) → post 1)
    (h0 : ¬ rm_er c p (sC x.toNatClampNeg) (sM x.toNatClampNeg) → post 0) : wpX_isEarlier post (F, cl, sC, sM, qC, qM, fs, ln, hd, un, uc, om, oc) c p x := by
  unfold wpX_isEarlier
  dsimp only
  refine ⟨v, br_c (fun a => h1 (Or.inl a)) (fun a => ⟨v, br_c (fun b => ⟨v, br_c (fun d => h0 ?_) (fun d => h1 (Or.inr ⟨b, Int32.not_le.mp d⟩))⟩) (fun b => h0 ?_)⟩)⟩
  · rintro (z | ⟨_, z⟩)
    · exact a z
    · exact Int32.not_le.mpr z d
  · rintro (z | ⟨z, _⟩)
    · exact a z
    · exact b z
theorem rm_yi {post : Int32 → Prop} {c p c' p' : Int32} (h1 : rm_er c p c' p' → post 1)
    (h0 : ¬ rm_er c p c' p' → post 0) : wpY_earlier post (G, cl, sM, sC, ha, dn, oc, om, hd, ln, yC, yM) c p c' p' := by
  unfold wpY_earlier
  dsimp only
  refine br_c (fun a => h1 (Or.inl a)) (fun a => br_c (fun b => br_c (fun d => h0 ?_) (fun d => h1 (Or.inr ⟨b, Int32.not_le.mp d⟩))) (fun b => h0 ?_))
  · rintro (z | ⟨_, z⟩)
    · exact a z
    · exact Int32.not_le.mpr z d
  · rintro (z | ⟨z, _⟩)
    · exact a z
    · exact b z
/-! the scans for the earliest message -/
theorem rm_xe_i {b : Nat} (hb : b < 3) {post : Int32 → Prop} (h : post (rm_bs un sC sM (40 * b) 40)) : ∀ d i, i + d = 40 →
    wX_earliestUnread_4 post (nI b) F cl sC sM qC qM fs ln hd un uc om oc (d + 1) (rm_bs un sC sM (40 * b) i) (nI i) := by
  intro d
  induction d with
  | zero =>
    intro i hi
    have e : i = 40 := by omega
    subst e
    exact br_t (nI_le (a := 40) (b := 40) (by decide) (by decide)) h
  | succ d ih =>
    intro i hi
    have h4 : ¬ (40 : Int32) ≤ nI i := nI_ge (b := 40) (by omega) (by decide)
    have c : (nI b * 40 + nI i).toNatClampNeg = 40 * b + i := by rw [rm_x40]; exact rm_c (by omega)
    have v : vp_in (nI b * 40 + nI i) 120 := by rw [rm_x40]; exact rm_v120 (by omega)
    have ci : (nI i).toNatClampNeg = i := rm_c (by omega)
    have vi : vp_in (nI i) 40 := rm_v40 (by omega)
    have K := ih (i + 1) (by omega)
    rw [rm_bs_s] at K
    refine br_f h4 ⟨v, ?_⟩
    by_cases z : un (40 * b + i) = 0
    · rw [if_neg (fun q => q.1 z)] at K
      exact br_t (by rw [c]; exact z) (nm_r (nI_1 i) K)
    · refine br_f (by rw [c]; exact z) ?_
      by_cases m1 : rm_bs un sC sM (40 * b) i = -1
      · rw [if_pos ⟨z, Or.inl m1⟩] at K
        exact br_t m1 (nm_r (nI_1 i) K)
      · refine br_f m1 ⟨vi, vi, ?_⟩
        have vx : vp_in (rm_bs un sC sM (40 * b) i) 40 := by
          rcases rm_bs_in un sC sM (40 * b) i with q | ⟨m, hm, q, _⟩
          · exact absurd q m1
          · rw [q]; exact rm_v40 (by omega)
        refine rm_xi vx (fun q => br_f rm_10 (nm_r (nI_1 i) ?_)) (fun q => br_t rfl (nm_r (nI_1 i) ?_))
        · rw [ci] at q
          rw [if_pos ⟨z, Or.inr q⟩] at K
          exact K
        · rw [ci] at q
          rw [if_neg (fun y => y.2.elim m1 q)] at K
          exact K
theorem rm_xe {b : Nat} (hb : b < 3) {post : Int32 → Prop} (h : post (rm_bs un sC sM (40 * b) 40)) : wpX_earliestUnread post (F, cl, sC, sM, qC, qM, fs, ln, hd, un, uc, om, oc) (nI b) :=
  ⟨41, rm_xe_i hb h 40 0 rfl⟩
theorem rm_ye_i {b w : Nat} (hb : b < 3) (hw : w ≤ 40) (hu : ∀ i, i < 40 → (un (40 * b + i) = 0 ↔ (ha (40 * b + i) = 0 ∨ ¬ dn (40 * b + i) = 0)))
    {post : Int32 → Prop} (h : post (rm_bs un sC sM (40 * b) w)) : ∀ d i, i + d = w →
    wY_earliest_4 post (nI b) (nI w) cl sM sC ha dn oc om hd ln yC yM (d + 1) (rm_bs un sC sM (40 * b) i) (nI i) := by
  intro d
  induction d with
  | zero =>
    intro i hi
    have e : i = w := by omega
    subst e
    exact br_t (nI_le (Nat.le_refl i) (by omega)) h
  | succ d ih =>
    intro i hi
    have h4 : ¬ nI w ≤ nI i := nI_ge (by omega) (by omega)
    have c : (40 * nI b + nI i).toNatClampNeg = 40 * b + i := by rw [rm_y40]; exact rm_c (by omega)
    have v : vp_in (40 * nI b + nI i) 120 := by rw [rm_y40]; exact rm_v120 (by omega)
    have ci : (nI i).toNatClampNeg = i := rm_c (by omega)
    have vi : vp_in (nI i) 40 := rm_v40 (by omega)
    have K := ih (i + 1) (by omega)
    rw [rm_bs_s] at K
    refine br_f h4 ⟨v, ?_⟩
    have hui := hu i (by omega)
    by_cases z : ha (40 * b + i) = 0
    · rw [if_neg (fun q => q.1 (hui.mpr (Or.inl z)))] at K
      exact br_t (by rw [c]; exact z) (br_t rfl (nm_r (nI_1 i) K))
    · refine br_f (by rw [c]; exact z) ⟨v, ?_⟩
      by_cases y : dn (40 * b + i) = 0
      · refine br_t (by rw [c]; exact y) (br_f rm_10 ?_)
        have zu : ¬ un (40 * b + i) = 0 := fun q => (hui.mp q).elim z (fun q => q y)
        rcases rm_bs_in un sC sM (40 * b) i with m1 | ⟨m, hm, q, _⟩
        · rw [if_pos ⟨zu, Or.inl m1⟩] at K
          exact br_t (by rw [m1]; decide) (nm_r (nI_1 i) K)
        · have m1 : ¬ rm_bs un sC sM (40 * b) i = -1 := by rw [q]; exact rm_ne1 (by omega)
          have vx : vp_in (rm_bs un sC sM (40 * b) i) 40 := by rw [q]; exact rm_v40 (by omega)
          have np : ¬ rm_bs un sC sM (40 * b) i < 0 := by rw [q]; exact nI_pos (by omega)
          refine br_f np ⟨vi, vi, vx, vx, rm_yi (fun q => br_f rm_10 (nm_r (nI_1 i) ?_)) (fun q => br_t rfl (nm_r (nI_1 i) ?_))⟩
          · rw [ci] at q
            rw [if_pos ⟨zu, Or.inr q⟩] at K
            exact K
          · rw [ci] at q
            rw [if_neg (fun y => y.2.elim m1 q)] at K
            exact K
      · rw [if_neg (fun q => q.1 (hui.mpr (Or.inr y)))] at K
        exact br_f (by rw [c]; exact y) (br_t rfl (nm_r (nI_1 i) K))
theorem rm_ye {b w : Nat} (hb : b < 3) (hw : w ≤ 40) (hu : ∀ i, i < 40 → (un (40 * b + i) = 0 ↔ (ha (40 * b + i) = 0 ∨ ¬ dn (40 * b + i) = 0)))
    {post : Int32 → Prop} (h : post (rm_bs un sC sM (40 * b) w)) : wpY_earliest post (nI w, cl, sM, sC, ha, dn, oc, om, hd, ln, yC, yM) (nI b) :=
  ⟨w + 1, rm_ye_i hb hw hu h w 0 (by omega)⟩
/-! ready or not -/
theorem rm_rd_i {b m : Nat} (hb : b < 3) (hm : m < 40) : ∀ d t, t + d = 3 → ∃ r : Int32,
    (∀ post : Int32 → Prop, post r → wX_isReady_2 post (nI b) (nI m) F cl sC sM qC qM fs ln hd un uc om oc (d + 1) (nI t)) ∧
    (∀ post : Int32 → Prop, post r → wY_ready_2 post (nI b) (nI m) G cl sM sC ha dn oc om hd ln yC yM (d + 1) (nI t)) := by
  intro d
  induction d with
  | zero =>
    intro t ht
    have e : t = 3 := by omega
    subst e
    have h3 : (3 : Int32) ≤ nI 3 := nI_le (a := 3) (b := 3) (by decide) (by decide)
    exact ⟨1, fun post h => br_t h3 h, fun post h => br_t h3 h⟩
  | succ d ih =>
    intro t ht
    have h3 : ¬ (3 : Int32) ≤ nI t := nI_ge (b := 3) (by omega) (by decide)
    have v9 : vp_in (nI (3 * t + b)) 9 := rm_v9 (by omega)
    have y9 : vp_in (3 * nI t + nI b) 9 := by rw [rm_y3]; exact v9
    have v4 : vp_in (nI m) 40 := rm_v40 hm
    obtain ⟨r, hX, hY⟩ := ih (t + 1) (by omega)
    by_cases e : nI t = nI b
    · exact ⟨r, fun post h => br_f h3 (br_t e (nm_r (nI_1 t) (hX post h))), fun post h => br_f h3 (br_t e (br_t rfl (nm_r (nI_1 t) (hY post h))))⟩
    · by_cases e2 : nI t = sM (nI m).toNatClampNeg
      · exact ⟨r, fun post h => br_f h3 (br_f e ⟨v4, br_t e2 (nm_r (nI_1 t) (hX post h))⟩), fun post h => br_f h3 (br_f e ⟨v4, br_t e2 (br_t rfl (nm_r (nI_1 t) (hY post h)))⟩)⟩
      · by_cases q : rm_er (hd (nI (3 * t + b)).toNatClampNeg) (nI t) (sC (nI m).toNatClampNeg) (sM (nI m).toNatClampNeg)
        · have q' : rm_er (hd (3 * nI t + nI b).toNatClampNeg) (nI t) (sC (nI m).toNatClampNeg) (sM (nI m).toNatClampNeg) := by rw [rm_y3]; exact q
          exact ⟨0, fun post h => br_f h3 (br_f e ⟨v4, br_f e2 (rm_lo ⟨v9, rm_xi v4 (fun _ => br_f rm_10 h) (fun z => absurd q z)⟩)⟩), fun post h => br_f h3 (br_f e ⟨v4, br_f e2 (br_f rm_10 ⟨y9, v4, v4, rm_yi (fun _ => br_f rm_10 h) (fun z => absurd q' z)⟩)⟩)⟩
        · have q' : ¬ rm_er (hd (3 * nI t + nI b).toNatClampNeg) (nI t) (sC (nI m).toNatClampNeg) (sM (nI m).toNatClampNeg) := by rw [rm_y3]; exact q
          exact ⟨r, fun post h => br_f h3 (br_f e ⟨v4, br_f e2 (rm_lo ⟨v9, rm_xi v4 (fun z => absurd z q) (fun _ => br_t rfl (nm_r (nI_1 t) (hX post h)))⟩)⟩), fun post h => br_f h3 (br_f e ⟨v4, br_f e2 (br_f rm_10 ⟨y9, v4, v4, rm_yi (fun z => absurd z q') (fun _ => br_t rfl (nm_r (nI_1 t) (hY post h)))⟩)⟩)⟩
theorem rm_rd (F G : Int32) (cl sC sM qC qM fs ln hd un uc om oc ha dn yC yM : Nat → Int32) {b m : Nat} (hb : b < 3) (hm : m < 40) : ∃ r : Int32,
    (∀ post : Int32 → Prop, post r → wpX_isReady post (F, cl, sC, sM, qC, qM, fs, ln, hd, un, uc, om, oc) (nI b) (nI m)) ∧
    (∀ post : Int32 → Prop, post r → wpY_ready post (G, cl, sM, sC, ha, dn, oc, om, hd, ln, yC, yM) (nI b) (nI m)) := by
  obtain ⟨r, hX, hY⟩ := rm_rd_i (F := F) (G := G) (cl := cl) (sC := sC) (sM := sM) (qC := qC) (qM := qM) (fs := fs) (ln := ln) (hd := hd) (un := un) (uc := uc) (om := om) (oc := oc) (ha := ha) (dn := dn) (yC := yC) (yM := yM) hb hm 3 0 rfl
  exact ⟨r, fun post h => ⟨4, hX post h⟩, fun post h => ⟨4, hY post h⟩⟩
/-! one message read -/
theorem rm_rn {post : SX → Prop} {b m c : Nat} (hb : b < 3) (hm : m < 40) (hc : oc b = nI c) (hc4 : c < 40)
    (h : post (F, cl, sC, sM, qC, qM, fs, ln, hd, upd un (40 * b + m) 0, upd uc b (uc b - 1), upd om (40 * b + c) (nI m), upd oc b (oc b + 1))) : wpX_readNext post (F, cl, sC, sM, qC, qM, fs, ln, hd, un, uc, om, oc) (nI b) (nI m) := by
  have c1 : (nI b * 40 + nI m).toNatClampNeg = 40 * b + m := by rw [rm_x40]; exact rm_c (by omega)
  have v1 : vp_in (nI b * 40 + nI m) 120 := by rw [rm_x40]; exact rm_v120 (by omega)
  have cb : (nI b).toNatClampNeg = b := rm_c (by omega)
  have c2 : (nI b * 40 + oc (nI b).toNatClampNeg).toNatClampNeg = 40 * b + c := by rw [cb, hc, rm_x40]; exact rm_c (by omega)
  have v2 : vp_in (nI b * 40 + oc (nI b).toNatClampNeg) 120 := by rw [cb, hc, rm_x40]; exact rm_v120 (by omega)
  have v3 := rm_v3 hb
  unfold wpX_readNext
  dsimp only
  exact ⟨v1, nm_r (by rw [c1, rm_vb0]) ⟨v3, v3, nm_r (by rw [cb]) ⟨v3, v2, nm_r (by rw [c2]) ⟨v3, v3, nm_r (by rw [cb]) h⟩⟩⟩⟩
/-! all that is ready is read -/
theorem rm_ra_0 {b w t : Nat} (hb : b < 3) (ht : t ≤ 40) (hz : rm_bs un sC sM (40 * b) 40 = -1) (x2 : Int32) (post : Int32 → SX → Prop) (h : post x2 (F, cl, sC, sM, qC, qM, fs, ln, hd, un, uc, om, oc)) :
    wX_readAllReady_4 post (nI b) 1 x2 (nI t) F cl sC sM qC qM fs ln hd un uc om oc := by
  by_cases e : t = 40
  · subst e
    exact br_t (nI_le (a := 40) (b := 40) (by decide) (by decide)) h
  · refine br_f (nI_ge (b := 40) (by omega) (by decide)) (rm_xe hb ?_)
    exact br_t hz h
theorem rm_ra_i {b w : Nat} (hb : b < 3) (hw : w ≤ 40) : ∀ c t (un uc dn om oc : Nat → Int32) (x2 : Int32), rm_P w un ha dn uc oc → rm_cn un (40 * b) w = c → c + t ≤ 40 →
    ∃ (r : Int32) (un' uc' dn' om' oc' : Nat → Int32), rm_P w un' ha dn' uc' oc' ∧
      (∃ nX, ∀ post : Int32 → SX → Prop, post r (F, cl, sC, sM, qC, qM, fs, ln, hd, un', uc', om', oc') → wX_readAllReady_4 post (nI b) nX x2 (nI t) F cl sC sM qC qM fs ln hd un uc om oc) ∧
      (∃ nY, ∀ post : Int32 → SY → Prop, post r (nI w, cl, sM, sC, ha, dn', oc', om', hd, ln, yC, yM) → wY_readAll_8 post (nI b) (nI w) nY x2 (rm_bs un sC sM (40 * b) w) cl sM sC ha dn oc om hd ln yC yM) := by
  intro c
  induction c with
  | zero =>
    intro t un uc dn om oc x2 hP hc ht
    have e40 : rm_bs un sC sM (40 * b) 40 = rm_bs un sC sM (40 * b) w := by
      have := rm_bs_up (un := un) (sC := sC) (sM := sM) (b := 40 * b) (w := w) (40 - w) (fun i h1 h2 => ((hP b hb).2.2 i (by omega)).1.mpr (Or.inl (((hP b hb).2.2 i (by omega)).2.1 h1)))
      rwa [show w + (40 - w) = 40 by omega] at this
    rcases rm_bs_in un sC sM (40 * b) w with m1 | ⟨m, hm, q, z⟩
    · refine ⟨x2, un, uc, dn, om, oc, hP, ⟨1, fun post h => rm_ra_0 (w := w) hb (by omega) (e40.trans m1) x2 post h⟩, ⟨1, fun post h => ?_⟩⟩
      exact br_t (by rw [m1]; decide) h
    · have := rm_cn_pos (g := un) (b := 40 * b) w hm z
      omega
  | succ c ih =>
    intro t un uc dn om oc x2 hP hc ht
    have e40 : rm_bs un sC sM (40 * b) 40 = rm_bs un sC sM (40 * b) w := by
      have := rm_bs_up (un := un) (sC := sC) (sM := sM) (b := 40 * b) (w := w) (40 - w) (fun i h1 h2 => ((hP b hb).2.2 i (by omega)).1.mpr (Or.inl (((hP b hb).2.2 i (by omega)).2.1 h1)))
      rwa [show w + (40 - w) = 40 by omega] at this
    rcases rm_bs_in un sC sM (40 * b) w with m1 | ⟨m, hm, q, z⟩
    · refine ⟨x2, un, uc, dn, om, oc, hP, ⟨1, fun post h => rm_ra_0 (w := w) hb (by omega) (e40.trans m1) x2 post h⟩, ⟨1, fun post h => ?_⟩⟩
      exact br_t (by rw [m1]; decide) h
    · have h4 : ¬ (40 : Int32) ≤ nI t := nI_ge (b := 40) (by omega) (by decide)
      have ne : ¬ nI m = -1 := rm_ne1 (by omega)
      have np : ¬ nI m < 0 := nI_pos (by omega)
      obtain ⟨r, hX, hY⟩ := rm_rd F (nI w) cl sC sM qC qM fs ln hd un uc om oc ha dn yC yM hb (show m < 40 by omega)
      by_cases r0 : r = 0
      · refine ⟨x2, un, uc, dn, om, oc, hP, ⟨1, fun post h => ?_⟩, ⟨1, fun post h => ?_⟩⟩
        · refine br_f h4 (rm_xe hb ?_)
          rw [e40, q]
          exact br_f ne (hX _ (br_t r0 h))
        · rw [q]
          exact br_f np (hY _ (br_t r0 h))
      · obtain ⟨hP', hcn, hlt⟩ := rm_P_read hP hb hm hw z
        obtain ⟨r', un', uc', dn', om', oc', hP2, ⟨nX, hX'⟩, ⟨nY, hY'⟩⟩ := ih (t + 1) _ _ _ (upd om (40 * b + rm_cn dn (40 * b) w) (nI m)) _ (x2 + 1) hP' (by omega) (by omega)
        have hoc : oc b = nI (rm_cn dn (40 * b) w) := (hP b hb).2.1
        refine ⟨r', un', uc', dn', om', oc', hP2, ⟨nX + 1, fun post h => ?_⟩, ⟨nY + 1, fun post h => ?_⟩⟩
        · refine br_f h4 (rm_xe hb ?_)
          rw [e40, q]
          exact br_f ne (hX _ (br_f r0 (rm_rn hb (by omega) hoc (by omega) (nm_e (nm_r (nI_1 t) (hX' post h))))))
        · rw [q]
          have c1 : (40 * nI b + nI m).toNatClampNeg = 40 * b + m := by rw [rm_y40]; exact rm_c (by omega)
          have v1 : vp_in (40 * nI b + nI m) 120 := by rw [rm_y40]; exact rm_v120 (by omega)
          have cb : (nI b).toNatClampNeg = b := rm_c (by omega)
          have c2 : (40 * nI b + oc (nI b).toNatClampNeg).toNatClampNeg = 40 * b + rm_cn dn (40 * b) w := by rw [cb, hoc, rm_y40]; exact rm_c (by omega)
          have v2 : vp_in (40 * nI b + oc (nI b).toNatClampNeg) 120 := by rw [cb, hoc, rm_y40]; exact rm_v120 (by omega)
          have v3 := rm_v3 hb
          exact br_f np (hY _ (br_f r0 ⟨v1, nm_r (by rw [c1, rm_vb1]) ⟨v3, v2, nm_r (by rw [c2]) ⟨v3, v3, nm_r (by rw [cb]) (nm_e (rm_ye hb hw (fun i hi => ((hP' b hb).2.2 i hi).1) (hY' post h)))⟩⟩⟩))
end RM4
end
section
/-- written, clocks, stamps, writers, heard, lengths, order and counts are the same on both sides; the rings against the rows (rm_W, rm_B), unread against has and done (rm_P) -/
def i_Rel (_ : Nat) (u : SX) (v : SY) : Prop :=
  ∃ (w : Nat) (cl sC sM qC qM fs ln hd un uc om oc ha dn yC yM : Nat → Int32), u = (nI w, cl, sC, sM, qC, qM, fs, ln, hd, un, uc, om, oc) ∧ v = (nI w, cl, sM, sC, ha, dn, oc, om, hd, ln, yC, yM) ∧
    w ≤ 40 ∧ rm_B w ln ∧ rm_W w ha sM ln fs qC qM yC yM ∧ rm_P w un ha dn uc oc
section RM5
variable {F G : Int32} {cl sC sM qC qM fs ln hd un uc om oc ha dn yC yM : Nat → Int32}
/-! the row of the reference moves up by one -/
theorem rm_sh_i {post : Int32 → SY → Prop} {b l n : Nat} {x4 x5 : Int32} (hb : b < 3) (hl : l < 9) (hn : n < 60) (hln : ln l = nI n)
    (h : wY_take_171 post (nI b) (nI l) x4 x5 (if x4 ≤ cl b then cl b else x4) (nI b) G cl sM sC ha dn oc om hd ln (rm_sh yC l n) (rm_sh yM l n)) : ∀ d i, i + d = n →
    wY_take_75 post (nI b) (nI l) x4 x5 G (d + 1) (nI i) cl sM sC ha dn oc om hd ln (rm_sh yC l i) (rm_sh yM l i) := by
  have cl9 : (nI l).toNatClampNeg = l := rm_c (by omega)
  have cb : (nI b).toNatClampNeg = b := rm_c (by omega)
  have v9 : vp_in (nI l) 9 := rm_v9 hl
  have v3 := rm_v3 hb
  intro d
  induction d with
  | zero =>
    intro i hi
    have e : i = n := by omega
    subst e
    refine ⟨v9, br_t (by rw [cl9, hln]; exact nI_le (Nat.le_refl i) (by omega)) ⟨v3, ?_⟩⟩
    by_cases z : x4 ≤ cl b
    · rw [if_pos z] at h
      refine br_t (by rw [cb]; exact z) ⟨v3, ?_⟩
      rw [cb]
      exact h
    · rw [if_neg z] at h
      exact br_f (by rw [cb]; exact z) h
  | succ d ih =>
    intro i hi
    have K := ih (i + 1) (by omega)
    have c1 : (60 * nI l + nI i).toNatClampNeg = 60 * l + i := by rw [rm_y60]; exact rm_c (by omega)
    have v1 : vp_in (60 * nI l + nI i) 540 := by rw [rm_y60]; exact rm_v540 (by omega)
    have c2 : (60 * nI l + nI i + 1).toNatClampNeg = 60 * l + i + 1 := by rw [rm_y60, nI_1]; exact rm_c (by omega)
    have v2 : vp_in (60 * nI l + nI i + 1) 540 := by rw [rm_y60, nI_1]; exact rm_v540 (by omega)
    have eC : ∀ y : Nat → Int32, upd (rm_sh y l i) (60 * nI l + nI i).toNatClampNeg (rm_sh y l i (60 * nI l + nI i + 1).toNatClampNeg) = rm_sh y l (i + 1) := by
      intro y
      rw [c1, c2, rm_sh_out (show ¬ (60 * l ≤ 60 * l + i + 1 ∧ 60 * l + i + 1 < 60 * l + i) by omega), rm_sh_s]
    exact ⟨v9, br_f (by rw [cl9, hln]; exact nI_ge (by omega) (by omega)) ⟨v2, v1, nm_r (eC yC) ⟨v2, v1, nm_r (eC yM) (nm_r (nI_1 i) K)⟩⟩⟩
/-! the end of take: reading, the same on both sides -/
theorem rm_fin {b w : Nat} (hb : b < 3) (hw : w ≤ 40) (hB : rm_B w ln) (hW : rm_W w ha sM ln fs qC qM yC yM) (hP : rm_P w un ha dn uc oc) :
    ∃ (r : Int32) (U : SX) (V : SY), (∀ post : Int32 → SX → Prop, post r U → wX_take_115 post (nI b) (nI w) cl sC sM qC qM fs ln hd un uc om oc) ∧
      (∀ post : Int32 → SY → Prop, post r V → wY_take_200 post (nI b) (nI w) cl sM sC ha dn oc om hd ln yC yM) ∧ ∀ k, i_Rel k U V := by
  obtain ⟨r, un', uc', dn', om', oc', hP', ⟨nX, hX⟩, ⟨nY, hY⟩⟩ := rm_ra_i (F := nI w) (cl := cl) (sC := sC) (sM := sM) (qC := qC) (qM := qM) (fs := fs) (ln := ln) (hd := hd) (ha := ha) (yC := yC) (yM := yM) hb hw _ 0 un uc dn om oc 0 hP rfl (by have := rm_cn_le un (40 * b) w; omega)
  refine ⟨r, _, _, fun post h => ?_, fun post h => ?_, fun k => ⟨w, cl, sC, sM, qC, qM, fs, ln, hd, un', uc', om', oc', ha, dn', yC, yM, rfl, rfl, hw, hB, hW, hP'⟩⟩
  · unfold wX_take_115 wpX_readAllReady
    dsimp only
    exact ⟨nX, hX _ h⟩
  · unfold wY_take_200 wpY_readAll
    dsimp only
    exact rm_ye hb hw (fun i hi => ((hP b hb).2.2 i hi).1) ⟨nY, hY _ h⟩
/-! held: the reference counts -/
theorem rm_hl_i {b w : Nat} (hb : b < 3) (hw : w ≤ 40) (hu : ∀ i, i < 40 → (un (40 * b + i) = 0 ↔ (ha (40 * b + i) = 0 ∨ ¬ dn (40 * b + i) = 0)))
    {post : Int32 → Prop} (h : post (nI (rm_cn un (40 * b) w))) : ∀ d i, i + d = w →
    wY_held_13 post (nI b) (nI w) cl sM sC ha dn oc om hd ln yC yM (d + 1) (nI (rm_cn un (40 * b) i)) (nI i) := by
  intro d
  induction d with
  | zero =>
    intro i hi
    have e : i = w := by omega
    subst e
    exact br_t (nI_le (Nat.le_refl i) (by omega)) h
  | succ d ih =>
    intro i hi
    have h4 : ¬ nI w ≤ nI i := nI_ge (by omega) (by omega)
    have c : (40 * nI b + nI i).toNatClampNeg = 40 * b + i := by rw [rm_y40]; exact rm_c (by omega)
    have v : vp_in (40 * nI b + nI i) 120 := by rw [rm_y40]; exact rm_v120 (by omega)
    have K := ih (i + 1) (by omega)
    rw [rm_cn_s] at K
    refine br_f h4 ⟨v, ?_⟩
    have hui := hu i (by omega)
    by_cases z : ha (40 * b + i) = 0
    · rw [if_pos (hui.mpr (Or.inl z))] at K
      exact br_t (by rw [c]; exact z) (nm_r (nI_1 i) K)
    · refine br_f (by rw [c]; exact z) ⟨v, ?_⟩
      by_cases y : dn (40 * b + i) = 0
      · rw [if_neg (fun q => (hui.mp q).elim z (fun q => q y))] at K
        exact br_t (by rw [c]; exact y) (nm_r (nI_1 _) (nm_r (nI_1 i) K))
      · rw [if_pos (hui.mpr (Or.inr y))] at K
        exact br_f (by rw [c]; exact y) (nm_r (nI_1 i) K)
/-! agree: both compare place by place -/
theorem rm_ag_i {a b c1 c2 s : Nat} (ha3 : a < 3) (hb3 : b < 3) (h1 : oc a = nI c1) (h2 : oc b = nI c2) (hc1 : c1 ≤ 40) (hc2 : c2 ≤ 40) (hs1 : s ≤ c1) (hs2 : s ≤ c2) (hs : s = c1 ∨ s = c2) :
    ∀ d i, i + d = s → ∃ r : Int32, (∀ post : Int32 → Prop, post r → wX_agree_50 post (nI a) (nI b) (nI s) F cl sC sM qC qM fs ln hd un uc om oc (d + 1) (nI i)) ∧
      (∀ post : Int32 → Prop, post r → wY_agree_18 post (nI a) (nI b) G cl sM sC ha dn oc om hd ln yC yM (d + 1) (nI i)) := by
  have va := rm_v3 ha3
  have vb := rm_v3 hb3
  have ca : (nI a).toNatClampNeg = a := rm_c (by omega)
  have cb : (nI b).toNatClampNeg = b := rm_c (by omega)
  intro d
  induction d with
  | zero =>
    intro i hi
    have e : i = s := by omega
    subst e
    refine ⟨1, fun post h => br_t (nI_le (Nat.le_refl i) (by omega)) h, fun post h => ⟨va, ?_⟩⟩
    by_cases z : c1 ≤ i
    · exact br_t (by rw [ca, h1]; exact nI_le z (by omega)) h
    · exact br_f (by rw [ca, h1]; exact nI_ge (by omega) (by omega)) ⟨vb, br_t (by rw [cb, h2]; exact nI_le (by omega) (by omega)) h⟩
  | succ d ih =>
    intro i hi
    have x1 : nI a * 40 + nI i = nI (40 * a + i) := rm_x40 a i
    have x2 : nI b * 40 + nI i = nI (40 * b + i) := rm_x40 b i
    have y1 : 40 * nI a + nI i = nI (40 * a + i) := rm_y40 a i
    have y2 : 40 * nI b + nI i = nI (40 * b + i) := rm_y40 b i
    have v1 : vp_in (nI (40 * a + i)) 120 := rm_v120 (by omega)
    have v2 : vp_in (nI (40 * b + i)) 120 := rm_v120 (by omega)
    have n0 : ¬ nI s ≤ nI i := nI_ge (by omega) (by omega)
    have n1 : ¬ oc (nI a).toNatClampNeg ≤ nI i := by rw [ca, h1]; exact nI_ge (by omega) (by omega)
    have n2 : ¬ oc (nI b).toNatClampNeg ≤ nI i := by rw [cb, h2]; exact nI_ge (by omega) (by omega)
    by_cases z : om (nI (40 * a + i)).toNatClampNeg = om (nI (40 * b + i)).toNatClampNeg
    · obtain ⟨r, hX, hY⟩ := ih (i + 1) (by omega)
      refine ⟨r, fun post h => br_f n0 ⟨by rw [x1]; exact v1, by rw [x2]; exact v2, br_t (by rw [x1, x2]; exact z) (nm_r (nI_1 i) (hX post h))⟩, fun post h => ⟨va, br_f n1 ⟨vb, br_f n2 ⟨by rw [y1]; exact v1, by rw [y2]; exact v2, br_t (by rw [y1, y2]; exact z) (nm_r (nI_1 i) (hY post h))⟩⟩⟩⟩
    · exact ⟨0, fun post h => br_f n0 ⟨by rw [x1]; exact v1, by rw [x2]; exact v2, br_f (by rw [x1, x2]; exact z) h⟩, fun post h => ⟨va, br_f n1 ⟨vb, br_f n2 ⟨by rw [y1]; exact v1, by rw [y2]; exact v2, br_f (by rw [y1, y2]; exact z) h⟩⟩⟩⟩
end RM5
end
section
section RM6
theorem i_up {k : Nat} {u : SX} {v : SY} (h : i_Rel k u v) : i_Rel (k + 3) u v := h
theorem i_vc0 : wpX_init (fun u => wpY_init (fun v => i_Rel 0 u v)) := by
  refine ⟨0, fun _ => 0, fun _ => 0, fun _ => 0, fun _ => 0, fun _ => 0, fun _ => 0, fun _ => 0, fun _ => 0, fun _ => 0, fun _ => 0, fun _ => 0, fun _ => 0, fun _ => 0, fun _ => 0, fun _ => 0, fun _ => 0, rfl, rfl, by omega, fun l hl => ⟨0, rfl, by omega⟩, fun a b h1 h2 => ⟨0, 0, ⟨rfl, rfl, by omega, by omega, fun p hp => by omega⟩, ⟨fun p hp => by omega, fun p q h1 h2 => by omega⟩, fun _ => rfl⟩, fun m hm => ⟨rfl, rfl, fun i hi => ⟨⟨fun _ => Or.inl rfl, fun _ => rfl⟩, fun _ => rfl, fun z => absurd rfl z⟩⟩⟩
theorem i_vc_write {k : Nat} {u : SX} {v : SY} (I : i_Rel k u v) (hk : k + 3 ≤ 1536) (v1 : Int32) : wpX_write (fun r u' => wpY_write (fun r' v' => r' = r ∧ i_Rel (k + 3) u' v') v v1) u v1 := by
  have J : i_Rel (k + 3) u v := I
  obtain ⟨w, cl, sC, sM, qC, qM, fs, ln, hd, un, uc, om, oc, ha, dn, yC, yM, rfl, rfl, hw, hB, hW, hP⟩ := I
  unfold wpX_write wpY_write
  dsimp only
  rcases rm_3 v1 with hb | ⟨j, hj, rfl⟩
  · exact rm_xm0 hb (br_t rfl (rm_ym0 hb (br_f rm_10 ⟨rfl, J⟩)))
  · refine rm_xm hj (br_f rm_10 ?_)
    by_cases w4 : w < 40
    · have v3 := rm_v3 hj
      have vw : vp_in (nI w) 40 := rm_v40 w4
      have cj : (nI j).toNatClampNeg = j := rm_c (by omega)
      have cw : (nI w).toNatClampNeg = w := rm_c (by omega)
      have cy : (40 * nI j + nI w).toNatClampNeg = 40 * j + w := by rw [rm_y40]; exact rm_c (by omega)
      have vy : vp_in (40 * nI j + nI w) 120 := by rw [rm_y40]; exact rm_v120 (by omega)
      have hW1 := rm_W_new (j := j) (x := 1) (y := nI j) hW w4
      obtain ⟨qC', qM', ln', yC', yM', hX, hY, hW', hl'⟩ := rm_out (F := nI (w + 1)) (G := nI w) (cl := upd cl j (cl j + 1)) (sC := upd sC w (cl j + 1)) (hd := hd) (un := un) (uc := uc) (om := om) (oc := oc) (dn := dn) hj (nI w) hW1 (fun t' h1 h2 => by
          obtain ⟨n, hn, hn2⟩ := hB (3 * j + t') (by omega)
          exact ⟨n, hn, by omega⟩) (Or.inr ⟨w, by omega, rfl, rm_us, fun t' h1 h2 => ⟨by
          rw [rm_un (show 40 * t' + w ≠ 40 * j + w by omega)]
          exact ((hP t' h1).2.2 w w4).2.1 (Nat.le_refl w), fun n p hn hn6 hp => rm_W_lt hW w4 hj h1 hn (by omega) p hp⟩⟩)
      have hP1 := rm_P_recv (b := j) (m := w) (rm_P_up hP w4) hj (by omega) (by omega) (((hP j hj).2.2 w w4).2.1 (Nat.le_refl w))
      have hB1 : rm_B (w + 1) ln' := by
        intro l hl
        obtain ⟨n, hn, hn2⟩ := hB l hl
        rcases hl' l hl with h | ⟨t', n', h1, h2, h3, h4, h5⟩
        · exact ⟨n, h.trans hn, by omega⟩
        · exact ⟨n + 1, by rw [h5, ← nI_1, ← nI_1, ← h4, hn], by omega⟩
      refine br_t (nI_lt (b := 40) w4 (by decide)) (nm_r (nI_1 w) ⟨v3, v3, nm_r (by rw [cj]) ⟨v3, vw, nm_r (by rw [cj, cw, rm_us]) ⟨vw, nm_r (by rw [cw]) (hX _ (rm_recv hj w4 ?_))⟩⟩⟩)
      refine rm_ym hj (br_t rfl (br_f (fun z => absurd (rm_im (b := 40) z (by omega) (by decide)) (by omega)) ⟨v3, v3, nm_r (by rw [cj]) ⟨vw, nm_r (by rw [cw]) ⟨v3, vw, nm_r (by rw [cj, cw, rm_us]) ⟨vy, nm_r (by rw [cy, rm_vb1]) (hY _ (nm_r (nI_1 w) ⟨nI_pred w, ?_⟩))⟩⟩⟩⟩))
      exact ⟨w + 1, _, _, _, _, _, _, _, _, _, _, _, _, _, _, _, _, rfl, rfl, by omega, hB1, hW', hP1⟩
    · have e : w = 40 := by omega
      subst e
      exact br_f (nI_nlt (b := 40) (by omega) (by decide)) (rm_ym hj (br_t rfl (br_t rfl ⟨rfl, J⟩)))
theorem i_vc_tick {k : Nat} {u : SX} {v : SY} (I : i_Rel k u v) (hk : k + 3 ≤ 1536) (v1 : Int32) : wpX_tick (fun r u' => wpY_tick (fun r' v' => r' = r ∧ i_Rel (k + 3) u' v') v v1) u v1 := by
  have J : i_Rel (k + 3) u v := I
  obtain ⟨w, cl, sC, sM, qC, qM, fs, ln, hd, un, uc, om, oc, ha, dn, yC, yM, rfl, rfl, hw, hB, hW, hP⟩ := I
  unfold wpX_tick wpY_tick
  dsimp only
  rcases rm_3 v1 with hb | ⟨j, hj, rfl⟩
  · exact rm_xm0 hb (br_t rfl (rm_ym0 hb (br_f rm_10 ⟨rfl, J⟩)))
  · have hs : ln (3 * j + j) = nI 0 := by
      obtain ⟨n, f, hR, _, hz⟩ := hW j j hj hj
      rw [hR.1, hz rfl]
    obtain ⟨r, hXc, hYc, hr⟩ := rm_full_i (F := nI w) (G := nI w) (cl := cl) (sC := sC) (sM := sM) (qC := qC) (qM := qM) (fs := fs) (hd := hd) (un := un) (uc := uc) (om := om) (oc := oc) (ha := ha) (dn := dn) (yC := yC) (yM := yM) hj hB hw hs 3 0 rfl
    refine rm_xm hj (br_f rm_10 ⟨4, hXc _ ?_⟩)
    by_cases r0 : r = 0
    · have v3 := rm_v3 hj
      have cj : (nI j).toNatClampNeg = j := rm_c (by omega)
      have hr' := hr r0
      obtain ⟨qC', qM', ln', yC', yM', hX, hY, hW', hl'⟩ := rm_out (F := nI w) (G := nI w) (cl := upd cl j (cl j + 1)) (sC := sC) (hd := hd) (un := un) (uc := uc) (om := om) (oc := oc) (dn := dn) hj (-1) hW (fun t' h1 h2 => by
          obtain ⟨n, hn, hn2⟩ := hr' t' (by omega) h1 h2
          exact ⟨n, hn, by omega⟩) (Or.inl rfl)
      have hB1 : rm_B w ln' := by
        intro l hl
        rcases hl' l hl with h | ⟨t', n', h1, h2, h3, h4, h5⟩
        · obtain ⟨n, hn, hn2⟩ := hB l hl
          exact ⟨n, h.trans hn, hn2⟩
        · obtain ⟨n, hn, hn2⟩ := hr' t' (by omega) h1 h2
          subst h3
          refine ⟨n + 1, ?_, by omega⟩
          rw [h5, ← nI_1, ← nI_1, ← h4, hn]
      refine br_t r0 ⟨v3, v3, nm_r (by rw [cj]) (hX _ ⟨v3, ?_⟩)⟩
      refine rm_ym hj (br_t rfl ⟨4, hYc _ (br_t r0 ⟨v3, v3, nm_r (by rw [cj]) (hY _ ⟨v3, rfl, ?_⟩)⟩)⟩)
      exact ⟨w, _, _, _, _, _, _, _, _, _, _, _, _, _, _, _, _, rfl, rfl, hw, hB1, hW', hP⟩
    · exact br_f r0 (rm_ym hj (br_t rfl ⟨4, hYc _ (br_f r0 ⟨rfl, J⟩)⟩))
theorem i_vc_take {k : Nat} {u : SX} {v : SY} (I : i_Rel k u v) (hk : k + 3 ≤ 1536) (v1 : Int32) (v2 : Int32) : wpX_take (fun r u' => wpY_take (fun r' v' => r' = r ∧ i_Rel (k + 3) u' v') v v1 v2) u v1 v2 := by
  have J : i_Rel (k + 3) u v := I
  obtain ⟨w, cl, sC, sM, qC, qM, fs, ln, hd, un, uc, om, oc, ha, dn, yC, yM, rfl, rfl, hw, hB, hW, hP⟩ := I
  unfold wpX_take wpY_take
  dsimp only
  rcases rm_3 v1 with h1 | ⟨a, ha3, rfl⟩
  · exact rm_xl1 h1 (br_t rfl (rm_ym0 h1 (br_f rm_10 ⟨rfl, J⟩)))
  rcases rm_3 v2 with h2 | ⟨b, hb3, rfl⟩
  · exact rm_xl2 ha3 h2 (br_t rfl (rm_ym ha3 (br_t rfl (rm_ym0 h2 (br_f rm_10 ⟨rfl, J⟩)))))
  by_cases e : nI a = nI b
  · exact rm_xl3 ha3 hb3 e (br_t rfl (rm_ym ha3 (br_t rfl (rm_ym hb3 (br_t rfl (br_t e ⟨rfl, J⟩))))))
  have v9 : vp_in (nI (3 * a + b)) 9 := rm_v9 (by omega)
  have c9 : (nI (3 * a + b)).toNatClampNeg = 3 * a + b := rm_c (by omega)
  have y9 : vp_in (3 * nI a + nI b) 9 := by rw [rm_y3]; exact v9
  have d9 : (3 * nI a + nI b).toNatClampNeg = 3 * a + b := by rw [rm_y3]; exact c9
  have v3 := rm_v3 hb3
  have cb : (nI b).toNatClampNeg = b := rm_c (by omega)
  obtain ⟨n0, f, hR, hM, hz⟩ := hW a b ha3 hb3
  obtain ⟨hln, hfs, hf6, hn6, hq⟩ := hR
  refine rm_xl4 ha3 hb3 e (br_f rm_10 (rm_lo ⟨v9, ?_⟩))
  by_cases z0 : n0 = 0
  · subst z0
    exact br_t (by rw [c9, hln]; exact nI_0) (rm_ym ha3 (br_t rfl (rm_ym hb3 (br_t rfl (br_f e ⟨y9, br_t (by rw [d9, hln]; exact nI_0) ⟨rfl, J⟩⟩)))))
  obtain ⟨n, rfl⟩ : ∃ n, n0 = n + 1 := ⟨n0 - 1, by omega⟩
  have x0 : ¬ ln (nI (3 * a + b)).toNatClampNeg = 0 := by rw [c9, hln]; exact nI_ne0 (by omega) (by omega)
  have y0 : ¬ ln (3 * nI a + nI b).toNatClampNeg = 0 := by rw [d9, hln]; exact nI_ne0 (by omega) (by omega)
  have es : nI (3 * a + b) * 60 + fs (nI (3 * a + b)).toNatClampNeg = nI (60 * (3 * a + b) + f) := by rw [c9, hfs, rm_x60]
  have vs : vp_in (nI (60 * (3 * a + b) + f)) 540 := rm_v540 (by omega)
  have cs : (nI (60 * (3 * a + b) + f)).toNatClampNeg = 60 * (3 * a + b) + f := rm_c (by omega)
  have hq0 := hq 0 (by omega)
  rw [show (f + 0) % 60 = f by omega, Nat.add_zero] at hq0
  obtain ⟨hq1, hq2⟩ := hq0
  have w5 : vp_in (60 * nI (3 * a + b)) 540 := by rw [rm_y60z]; exact rm_v540 (by omega)
  have d5 : (60 * nI (3 * a + b)).toNatClampNeg = 60 * (3 * a + b) := by rw [rm_y60z]; exact rm_c (by omega)
  have hW1 := rm_W_take hW ha3 hb3 hln hfs hf6 hn6
  have hB1 : rm_B w (upd ln (3 * a + b) (nI n)) := by
    intro l hl
    by_cases el : l = 3 * a + b
    · subst el
      obtain ⟨n1, hn1, hn2⟩ := hB _ hl
      have := rm_im (hln.symm.trans hn1) (by omega) (by omega)
      exact ⟨n, rm_us, by omega⟩
    · rw [rm_un el]
      exact hB l hl
  have ef : (fs (nI (3 * a + b)).toNatClampNeg + 1) - (fs (nI (3 * a + b)).toNatClampNeg + 1) / 60 * 60 = nI ((f + 1) % 60) := by
    rw [c9, hfs, nI_1, rm_rem (by omega)]
  refine br_f x0 ⟨v9, nm_r es ⟨v9, by decide, v9, nm_r (by rw [ef, c9]) ⟨v9, v9, nm_r (by rw [c9, hln, nI_pred]) ⟨vs, v9, nm_r (by rw [c9, cs, hq1]) ⟨vs, rm_ac (b := b) hb3 ⟨vs, ?_⟩⟩⟩⟩⟩⟩
  dsimp only
  rw [cs, hq1, hq2]
  have hm0 := hM.1 0 (by omega)
  rw [Nat.add_zero] at hm0
  generalize hx : yM (60 * (3 * a + b)) = x at hm0 ⊢
  generalize hc : yC (60 * (3 * a + b)) = c
  rcases hm0 with rfl | ⟨m, hm, rfl, m3, m4⟩
  · obtain ⟨r, U, V, hX, hY, hRel⟩ := rm_fin (cl := upd cl b ((if c ≤ cl b then cl b else c) + 1)) (sC := sC) (hd := upd hd (3 * a + b) c) (om := om) hb3 hw hB1 hW1 hP
    refine br_t rfl (hX _ ?_)
    refine rm_ym ha3 (br_t rfl (rm_ym hb3 (br_t rfl (br_f e ⟨y9, br_f y0 (nm_r (rm_y3 a b) ⟨w5, nm_r (by rw [d5, hc]) ⟨w5, nm_r (by rw [d5, hx]) ⟨v9, v9, nm_r (by rw [c9, hln, nI_pred]) ⟨n + 1, ?_⟩⟩⟩⟩)⟩))))
    have K := rm_sh_i (post := fun r' v' => r' = r ∧ i_Rel (k + 3) U v') (G := nI w) (cl := cl) (sM := sM) (sC := sC) (ha := ha) (dn := dn) (oc := oc) (om := om) (hd := hd) (ln := upd ln (3 * a + b) (nI n)) (yC := yC) (yM := yM) (x4 := c) (x5 := -1) (l := 3 * a + b) (n := n) hb3 (by omega) (by omega) rm_us ⟨v3, nm_r (by rw [cb]) ⟨v9, nm_r (by rw [c9]) (br_t (by decide) (hY _ ⟨rfl, hRel _⟩))⟩⟩ n 0 (by omega)
    rw [rm_sh0, rm_sh0] at K
    exact K
  · have hm4 : m < 40 := by omega
    have cm : (40 * nI b + nI m).toNatClampNeg = 40 * b + m := by rw [rm_y40]; exact rm_c (by omega)
    have vm : vp_in (40 * nI b + nI m) 120 := by rw [rm_y40]; exact rm_v120 (by omega)
    have hW2 := rm_W_had (b := b) (m := m) (x := 1) hW1 hw hm (rm_take_fr hW hw ha3 hb3 hln hn6 hm hx)
    have hP2 := rm_P_recv hP hb3 hm hw m3
    obtain ⟨r, U, V, hX, hY, hRel⟩ := rm_fin (cl := upd cl b ((if c ≤ cl b then cl b else c) + 1)) (sC := sC) (hd := upd hd (3 * a + b) c) (om := om) hb3 hw hB1 hW2 hP2
    refine br_f (rm_ne1 (by omega)) ⟨vs, rm_recv hb3 hm4 (hX _ ?_)⟩
    refine rm_ym ha3 (br_t rfl (rm_ym hb3 (br_t rfl (br_f e ⟨y9, br_f y0 (nm_r (rm_y3 a b) ⟨w5, nm_r (by rw [d5, hc]) ⟨w5, nm_r (by rw [d5, hx]) ⟨v9, v9, nm_r (by rw [c9, hln, nI_pred]) ⟨n + 1, ?_⟩⟩⟩⟩)⟩))))
    have K := rm_sh_i (post := fun r' v' => r' = r ∧ i_Rel (k + 3) U v') (G := nI w) (cl := cl) (sM := sM) (sC := sC) (ha := ha) (dn := dn) (oc := oc) (om := om) (hd := hd) (ln := upd ln (3 * a + b) (nI n)) (yC := yC) (yM := yM) (x4 := c) (x5 := nI m) (l := 3 * a + b) (n := n) hb3 (by omega) (by omega) rm_us ⟨v3, nm_r (by rw [cb]) ⟨v9, nm_r (by rw [c9]) (br_f (nI_pos (by omega)) ⟨vm, nm_r (by rw [cm, rm_vb1]) (hY _ ⟨rfl, hRel _⟩)⟩)⟩⟩ n 0 (by omega)
    rw [rm_sh0, rm_sh0] at K
    exact K
theorem i_vc_waiting {k : Nat} {u : SX} {v : SY} (I : i_Rel k u v) (hk : k + 3 ≤ 1536) (v1 : Int32) (v2 : Int32) : wpX_waiting (fun r => wpY_waiting (fun r' => r' = r ∧ i_Rel (k + 3) u v) v v1 v2) u v1 v2 := by
  have J : i_Rel (k + 3) u v := I
  obtain ⟨w, cl, sC, sM, qC, qM, fs, ln, hd, un, uc, om, oc, ha, dn, yC, yM, rfl, rfl, hw, hB, hW, hP⟩ := I
  unfold wpX_waiting wpY_waiting
  dsimp only
  rcases rm_3 v1 with h1 | ⟨a, ha3, rfl⟩
  · exact rm_xl1 h1 (br_t rfl (rm_ym0 h1 (br_f rm_10 ⟨rfl, J⟩)))
  rcases rm_3 v2 with h2 | ⟨b, hb3, rfl⟩
  · exact rm_xl2 ha3 h2 (br_t rfl (rm_ym ha3 (br_t rfl (rm_ym0 h2 (br_f rm_10 ⟨rfl, J⟩)))))
  by_cases e : nI a = nI b
  · exact rm_xl3 ha3 hb3 e (br_t rfl (rm_ym ha3 (br_t rfl (rm_ym hb3 (br_t rfl (br_t e ⟨rfl, J⟩))))))
  have v9 : vp_in (nI (3 * a + b)) 9 := rm_v9 (by omega)
  have y9 : vp_in (3 * nI a + nI b) 9 := by rw [rm_y3]; exact v9
  exact rm_xl4 ha3 hb3 e (br_f rm_10 (rm_lo ⟨v9, rm_ym ha3 (br_t rfl (rm_ym hb3 (br_t rfl (br_f e ⟨y9, by rw [rm_y3], J⟩))))⟩))
theorem i_vc_clock {k : Nat} {u : SX} {v : SY} (I : i_Rel k u v) (hk : k + 3 ≤ 1536) (v1 : Int32) : wpX_clock (fun r => wpY_clock (fun r' => r' = r ∧ i_Rel (k + 3) u v) v v1) u v1 := by
  have J : i_Rel (k + 3) u v := I
  obtain ⟨w, cl, sC, sM, qC, qM, fs, ln, hd, un, uc, om, oc, ha, dn, yC, yM, rfl, rfl, hw, hB, hW, hP⟩ := I
  unfold wpX_clock wpY_clock
  dsimp only
  rcases rm_3 v1 with hb | ⟨j, hj, rfl⟩
  · exact rm_xm0 hb (br_t rfl (rm_ym0 hb (br_f rm_10 ⟨rfl, J⟩)))
  · exact rm_xm hj (br_f rm_10 ⟨rm_v3 hj, rm_ym hj (br_t rfl ⟨rm_v3 hj, rfl, J⟩)⟩)
theorem i_vc_count {k : Nat} {u : SX} {v : SY} (I : i_Rel k u v) (hk : k + 3 ≤ 1536) (v1 : Int32) : wpX_count (fun r => wpY_count (fun r' => r' = r ∧ i_Rel (k + 3) u v) v v1) u v1 := by
  have J : i_Rel (k + 3) u v := I
  obtain ⟨w, cl, sC, sM, qC, qM, fs, ln, hd, un, uc, om, oc, ha, dn, yC, yM, rfl, rfl, hw, hB, hW, hP⟩ := I
  unfold wpX_count wpY_count
  dsimp only
  rcases rm_3 v1 with hb | ⟨j, hj, rfl⟩
  · exact rm_xm0 hb (br_t rfl (rm_ym0 hb (br_f rm_10 ⟨rfl, J⟩)))
  · exact rm_xm hj (br_f rm_10 ⟨rm_v3 hj, rm_ym hj (br_t rfl ⟨rm_v3 hj, rfl, J⟩)⟩)
theorem i_vc_read {k : Nat} {u : SX} {v : SY} (I : i_Rel k u v) (hk : k + 3 ≤ 1536) (v1 : Int32) (v2 : Int32) : wpX_read (fun r => wpY_read (fun r' => r' = r ∧ i_Rel (k + 3) u v) v v1 v2) u v1 v2 := by
  have J : i_Rel (k + 3) u v := I
  obtain ⟨w, cl, sC, sM, qC, qM, fs, ln, hd, un, uc, om, oc, ha, dn, yC, yM, rfl, rfl, hw, hB, hW, hP⟩ := I
  unfold wpX_read wpY_read
  dsimp only
  rcases rm_3 v1 with hb | ⟨j, hj, rfl⟩
  · exact rm_xm0 hb (br_t rfl (rm_ym0 hb (br_f rm_10 ⟨rfl, J⟩)))
  refine rm_xm hj (br_f rm_10 ?_)
  by_cases h0 : v2 < 0
  · exact br_t h0 (rm_ym hj (br_t rfl (br_t h0 ⟨rfl, J⟩)))
  refine br_f h0 ⟨rm_v3 hj, ?_⟩
  by_cases hc : v2 < oc (nI j).toNatClampNeg
  · obtain ⟨p, hp, rfl⟩ := nI_of h0
    have cj : (nI j).toNatClampNeg = j := rm_c (by omega)
    have hoc : oc j = nI (rm_cn dn (40 * j) w) := (hP j hj).2.1
    have hle := rm_cn_le dn (40 * j) w
    have hpc : p < rm_cn dn (40 * j) w := by
      rw [cj, hoc, nI_ltI hp (by omega)] at hc
      exact hc
    have v1 : vp_in (nI (40 * j + p)) 120 := rm_v120 (by omega)
    exact br_t hc ⟨by rw [rm_x40]; exact v1, rm_ym hj (br_t rfl (br_f h0 ⟨rm_v3 hj, br_t hc ⟨by rw [rm_y40]; exact v1, by rw [rm_x40, rm_y40], J⟩⟩))⟩
  · exact br_f hc (rm_ym hj (br_t rfl (br_f h0 ⟨rm_v3 hj, br_f hc ⟨rfl, J⟩⟩)))
theorem i_vc_held {k : Nat} {u : SX} {v : SY} (I : i_Rel k u v) (hk : k + 3 ≤ 1536) (v1 : Int32) : wpX_held (fun r => wpY_held (fun r' => r' = r ∧ i_Rel (k + 3) u v) v v1) u v1 := by
  have J : i_Rel (k + 3) u v := I
  obtain ⟨w, cl, sC, sM, qC, qM, fs, ln, hd, un, uc, om, oc, ha, dn, yC, yM, rfl, rfl, hw, hB, hW, hP⟩ := I
  unfold wpX_held wpY_held
  dsimp only
  rcases rm_3 v1 with hb | ⟨j, hj, rfl⟩
  · exact rm_xm0 hb (br_t rfl (rm_ym0 hb (br_f rm_10 ⟨rfl, J⟩)))
  · have cj : (nI j).toNatClampNeg = j := rm_c (by omega)
    exact rm_xm hj (br_f rm_10 ⟨rm_v3 hj, rm_ym hj (br_t rfl ⟨w + 1, rm_hl_i (un := un) hj hw (fun i hi => ((hP j hj).2.2 i hi).1) ⟨by rw [cj]; exact (hP j hj).1.symm, J⟩ w 0 (by omega)⟩)⟩)
theorem i_vc_agree {k : Nat} {u : SX} {v : SY} (I : i_Rel k u v) (hk : k + 3 ≤ 1536) (v1 : Int32) (v2 : Int32) : wpX_agree (fun r => wpY_agree (fun r' => r' = r ∧ i_Rel (k + 3) u v) v v1 v2) u v1 v2 := by
  have J : i_Rel (k + 3) u v := I
  obtain ⟨w, cl, sC, sM, qC, qM, fs, ln, hd, un, uc, om, oc, ha, dn, yC, yM, rfl, rfl, hw, hB, hW, hP⟩ := I
  unfold wpX_agree wpY_agree
  dsimp only
  rcases rm_3 v1 with h1 | ⟨a, ha3, rfl⟩
  · exact rm_xm0 h1 (br_t rfl (rm_ym0 h1 (br_f rm_10 ⟨rfl, J⟩)))
  rcases rm_3 v2 with h2 | ⟨b, hb3, rfl⟩
  · exact rm_xm ha3 (br_f rm_10 (rm_xm0 h2 (br_t rfl (rm_ym ha3 (br_t rfl (rm_ym0 h2 (br_f rm_10 ⟨rfl, J⟩)))))))
  have ca : (nI a).toNatClampNeg = a := rm_c (by omega)
  have cb : (nI b).toNatClampNeg = b := rm_c (by omega)
  have va := rm_v3 ha3
  have vb := rm_v3 hb3
  have h1 : oc a = nI (rm_cn dn (40 * a) w) := (hP a ha3).2.1
  have h2 : oc b = nI (rm_cn dn (40 * b) w) := (hP b hb3).2.1
  have l1 := rm_cn_le dn (40 * a) w
  have l2 := rm_cn_le dn (40 * b) w
  refine rm_xm ha3 (br_f rm_10 (rm_xm hb3 (br_f rm_10 ⟨va, vb, ?_⟩)))
  by_cases z : rm_cn dn (40 * b) w ≤ rm_cn dn (40 * a) w
  · obtain ⟨r, hX, hY⟩ := rm_ag_i (F := nI w) (G := nI w) (cl := cl) (sC := sC) (sM := sM) (qC := qC) (qM := qM) (fs := fs) (ln := ln) (hd := hd) (un := un) (uc := uc) (om := om) (oc := oc) (ha := ha) (dn := dn) (yC := yC) (yM := yM) (s := rm_cn dn (40 * b) w) ha3 hb3 h1 h2 (by omega) (by omega) z (Nat.le_refl _) (Or.inr rfl) _ 0 (Nat.zero_add _)
    exact br_t (by rw [ca, cb, h1, h2]; exact nI_le z (by omega)) ⟨vb, nm_r (by rw [cb, h2]) ⟨_, hX _ (rm_ym ha3 (br_t rfl (rm_ym hb3 (br_t rfl ⟨_, hY _ ⟨rfl, J⟩⟩))))⟩⟩
  · obtain ⟨r, hX, hY⟩ := rm_ag_i (F := nI w) (G := nI w) (cl := cl) (sC := sC) (sM := sM) (qC := qC) (qM := qM) (fs := fs) (ln := ln) (hd := hd) (un := un) (uc := uc) (om := om) (oc := oc) (ha := ha) (dn := dn) (yC := yC) (yM := yM) (s := rm_cn dn (40 * a) w) ha3 hb3 h1 h2 (by omega) (by omega) (Nat.le_refl _) (by omega) (Or.inl rfl) _ 0 (Nat.zero_add _)
    exact br_f (by rw [ca, cb, h1, h2]; exact nI_ge (by omega) (by omega)) ⟨va, nm_r (by rw [ca, h1]) ⟨_, hX _ (rm_ym ha3 (br_t rfl (rm_ym hb3 (br_t rfl ⟨_, hY _ ⟨rfl, J⟩⟩))))⟩⟩
end RM6
end
