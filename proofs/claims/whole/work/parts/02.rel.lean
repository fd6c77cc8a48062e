section RM2
/-! what lies on the ways: the component's rings against the reference's rows -/
def rm_R (ln fs qC qM yC yM : Nat → Int32) (l n f : Nat) : Prop :=
  ln l = nI n ∧ fs l = nI f ∧ f < 60 ∧ n ≤ 60 ∧ ∀ p, p < n → qC (60 * l + (f + p) % 60) = yC (60 * l + p) ∧ qM (60 * l + (f + p) % 60) = yM (60 * l + p)
def rm_M (w : Nat) (ha sM yM : Nat → Int32) (a b n : Nat) : Prop :=
  (∀ p, p < n → yM (60 * (3 * a + b) + p) = -1 ∨ ∃ m, m < w ∧ yM (60 * (3 * a + b) + p) = nI m ∧ ha (40 * b + m) = 0 ∧ sM m = nI a) ∧
  (∀ p q, p < q → q < n → yM (60 * (3 * a + b) + p) = yM (60 * (3 * a + b) + q) → yM (60 * (3 * a + b) + q) = -1)
def rm_W (w : Nat) (ha sM ln fs qC qM yC yM : Nat → Int32) : Prop :=
  ∀ a b, a < 3 → b < 3 → ∃ n f, rm_R ln fs qC qM yC yM (3 * a + b) n f ∧ rm_M w ha sM yM a b n ∧ (a = b → n = 0)
def rm_B (w : Nat) (ln : Nat → Int32) : Prop := ∀ l, l < 9 → ∃ n, ln l = nI n ∧ n ≤ 20 + w
/-- a member's messages: had, done, unread, counted -/
def rm_P (w : Nat) (un ha dn uc oc : Nat → Int32) : Prop :=
  ∀ m, m < 3 → uc m = nI (rm_cn un (40 * m) w) ∧ oc m = nI (rm_cn dn (40 * m) w) ∧ ∀ i, i < 40 → (un (40 * m + i) = 0 ↔ (ha (40 * m + i) = 0 ∨ ¬ dn (40 * m + i) = 0)) ∧ (w ≤ i → ha (40 * m + i) = 0) ∧ (¬ dn (40 * m + i) = 0 → ¬ ha (40 * m + i) = 0)

theorem rm_R_send {ln fs qC qM yC yM : Nat → Int32} {l n f : Nat} {c x : Int32} (h : rm_R ln fs qC qM yC yM l n f) (hn : n < 60) :
    rm_R (upd ln l (nI (n + 1))) fs (upd qC (60 * l + (f + n) % 60) c) (upd qM (60 * l + (f + n) % 60) x) (upd yC (60 * l + n) c) (upd yM (60 * l + n) x) l (n + 1) f := by
  obtain ⟨h1, h2, h3, h4, h5⟩ := h
  refine ⟨rm_us, h2, h3, by omega, fun p hp => ?_⟩
  by_cases e : p = n
  · subst e
    rw [rm_us, rm_us, rm_us, rm_us]
    exact ⟨rfl, rfl⟩
  · have a1 : 60 * l + (f + p) % 60 ≠ 60 * l + (f + n) % 60 := by omega
    have a2 : 60 * l + p ≠ 60 * l + n := by omega
    rw [rm_un a1, rm_un a1, rm_un a2, rm_un a2]
    exact h5 p (by omega)
theorem rm_R_oth {ln fs qC qM yC yM : Nat → Int32} {l n f l' k s : Nat} {c x z : Int32} (h : rm_R ln fs qC qM yC yM l n f) (hl : l ≠ l') (hk : k < 60) (hs : s < 60) :
    rm_R (upd ln l' z) fs (upd qC (60 * l' + s) c) (upd qM (60 * l' + s) x) (upd yC (60 * l' + k) c) (upd yM (60 * l' + k) x) l n f := by
  obtain ⟨h1, h2, h3, h4, h5⟩ := h
  refine ⟨(rm_un hl).trans h1, h2, h3, h4, fun p hp => ?_⟩
  have a1 : 60 * l + (f + p) % 60 ≠ 60 * l' + s := by omega
  have a2 : 60 * l + p ≠ 60 * l' + k := by omega
  rw [rm_un a1, rm_un a1, rm_un a2, rm_un a2]
  exact h5 p hp
theorem rm_M_send {w : Nat} {ha sM yM : Nat → Int32} {a b n : Nat} {x : Int32} (h : rm_M w ha sM yM a b n)
    (hx : x = -1 ∨ ∃ m, m < w ∧ x = nI m ∧ ha (40 * b + m) = 0 ∧ sM m = nI a ∧ ∀ p, p < n → yM (60 * (3 * a + b) + p) ≠ nI m) :
    rm_M w ha sM (upd yM (60 * (3 * a + b) + n) x) a b (n + 1) := by
  obtain ⟨h1, h2⟩ := h
  refine ⟨fun p hp => ?_, fun p q hpq hq => ?_⟩
  · by_cases e : p = n
    · subst e
      rw [rm_us]
      rcases hx with hx | ⟨m, m1, m2, m3, m4, _⟩
      · exact Or.inl hx
      · exact Or.inr ⟨m, m1, m2, m3, m4⟩
    · rw [rm_un (show 60 * (3 * a + b) + p ≠ 60 * (3 * a + b) + n by omega)]
      exact h1 p (by omega)
  · rw [rm_un (show 60 * (3 * a + b) + p ≠ 60 * (3 * a + b) + n by omega)]
    by_cases e : q = n
    · subst e
      rw [rm_us]
      intro E
      rcases hx with hx | ⟨m, m1, m2, m3, m4, m5⟩
      · exact hx
      · exact absurd (E.trans m2) (m5 p (by omega))
    · rw [rm_un (show 60 * (3 * a + b) + q ≠ 60 * (3 * a + b) + n by omega)]
      exact h2 p q hpq (by omega)
theorem rm_M_oth {w : Nat} {ha sM yM : Nat → Int32} {a b n l k : Nat} {x : Int32} (h : rm_M w ha sM yM a b n) (hn : n ≤ 60) (hl : 3 * a + b ≠ l) (hk : k < 60) :
    rm_M w ha sM (upd yM (60 * l + k) x) a b n := by
  obtain ⟨h1, h2⟩ := h
  have key : ∀ p, p < n → upd yM (60 * l + k) x (60 * (3 * a + b) + p) = yM (60 * (3 * a + b) + p) := fun p hp =>
    rm_un (show 60 * (3 * a + b) + p ≠ 60 * l + k by omega)
  refine ⟨fun p hp => ?_, fun p q hpq hq => ?_⟩
  · rw [key p hp]; exact h1 p hp
  · rw [key p (by omega), key q hq]; exact h2 p q hpq hq
theorem rm_W_send {w : Nat} {ha sM ln fs qC qM yC yM : Nat → Int32} {a b n f : Nat} {c x : Int32} (H : rm_W w ha sM ln fs qC qM yC yM)
    (ha3 : a < 3) (hb3 : b < 3) (hab : a ≠ b) (hl : ln (3 * a + b) = nI n) (hf : fs (3 * a + b) = nI f) (hf6 : f < 60) (hn : n < 60)
    (hx : x = -1 ∨ ∃ m, m < w ∧ x = nI m ∧ ha (40 * b + m) = 0 ∧ sM m = nI a ∧ ∀ p, p < n → yM (60 * (3 * a + b) + p) ≠ nI m) :
    rm_W w ha sM (upd ln (3 * a + b) (nI (n + 1))) fs (upd qC (60 * (3 * a + b) + (f + n) % 60) c) (upd qM (60 * (3 * a + b) + (f + n) % 60) x) (upd yC (60 * (3 * a + b) + n) c) (upd yM (60 * (3 * a + b) + n) x) := by
  intro a' b' ha' hb'
  obtain ⟨n', f', hR, hM, hz⟩ := H a' b' ha' hb'
  by_cases e : 3 * a' + b' = 3 * a + b
  · have ea : a' = a := by omega
    have eb : b' = b := by omega
    subst ea; subst eb
    have en : n' = n := rm_im (hR.1.symm.trans hl) (by have := hR.2.2.2.1; omega) (by omega)
    have ef : f' = f := rm_im (hR.2.1.symm.trans hf) (by have := hR.2.2.1; omega) (by omega)
    subst en; subst ef
    exact ⟨n' + 1, f', rm_R_send hR hn, rm_M_send hM hx, fun z => absurd z hab⟩
  · exact ⟨n', f', rm_R_oth hR e hn (by omega), rm_M_oth hM hR.2.2.2.1 e hn, hz⟩
/-- the next message's number comes into being: ways and what lies on them stay -/
theorem rm_W_new {w : Nat} {ha sM ln fs qC qM yC yM : Nat → Int32} {j : Nat} {x y : Int32} (H : rm_W w ha sM ln fs qC qM yC yM) (hw : w < 40) :
    rm_W (w + 1) (upd ha (40 * j + w) x) (upd sM w y) ln fs qC qM yC yM := by
  intro a b ha3 hb3
  obtain ⟨n, f, hR, hM, hz⟩ := H a b ha3 hb3
  refine ⟨n, f, hR, ⟨fun p hp => ?_, hM.2⟩, hz⟩
  rcases hM.1 p hp with h | ⟨m, m1, m2, m3, m4⟩
  · exact Or.inl h
  · refine Or.inr ⟨m, by omega, m2, ?_, ?_⟩
    · rw [rm_un (show 40 * b + m ≠ 40 * j + w by omega)]; exact m3
    · rw [rm_un (show m ≠ w by omega)]; exact m4
theorem rm_W_lt {w : Nat} {ha sM ln fs qC qM yC yM : Nat → Int32} (H : rm_W w ha sM ln fs qC qM yC yM) (hw : w < 40) {a b n : Nat} (ha3 : a < 3) (hb3 : b < 3) (hl : ln (3 * a + b) = nI n) (hn : n < 2 ^ 31) :
    ∀ p, p < n → yM (60 * (3 * a + b) + p) ≠ nI w := by
  obtain ⟨n', f, hR, hM, hz⟩ := H a b ha3 hb3
  have en : n' = n := rm_im (hR.1.symm.trans hl) (by have := hR.2.2.2.1; omega) hn
  subst en
  intro p hp E
  rcases hM.1 p hp with h | ⟨m, m1, m2, m3, m4⟩
  · exact rm_ne1 (a := w) (by omega) (E.symm.trans h)
  · have := rm_im (m2.symm.trans E) (by omega) (by omega)
    omega
/-- the row of the reference after one thing has gone -/
def rm_sh (y : Nat → Int32) (l i : Nat) : Nat → Int32 := fun j => if 60 * l ≤ j ∧ j < 60 * l + i then y (j + 1) else y j
theorem rm_sh0 (y : Nat → Int32) (l : Nat) : rm_sh y l 0 = y := by
  funext j
  exact if_neg (by omega)
theorem rm_sh_in {y : Nat → Int32} {l i p : Nat} (h : p < i) : rm_sh y l i (60 * l + p) = y (60 * l + p + 1) := if_pos (by omega)
theorem rm_sh_out {y : Nat → Int32} {l i j : Nat} (h : ¬ (60 * l ≤ j ∧ j < 60 * l + i)) : rm_sh y l i j = y j := if_neg h
theorem rm_sh_s (y : Nat → Int32) (l i : Nat) : upd (rm_sh y l i) (60 * l + i) (y (60 * l + i + 1)) = rm_sh y l (i + 1) := by
  funext j
  by_cases e : j = 60 * l + i
  · subst e
    rw [rm_us, rm_sh_in (by omega)]
  · rw [rm_un e]
    by_cases c : 60 * l ≤ j ∧ j < 60 * l + i
    · rw [rm_sh, rm_sh, if_pos c, if_pos (by omega)]
    · rw [rm_sh, rm_sh, if_neg c, if_neg (by omega)]
theorem rm_W_take {w : Nat} {ha sM ln fs qC qM yC yM : Nat → Int32} {a b n f : Nat} (H : rm_W w ha sM ln fs qC qM yC yM)
    (ha3 : a < 3) (hb3 : b < 3) (hl : ln (3 * a + b) = nI (n + 1)) (hf : fs (3 * a + b) = nI f) (hf6 : f < 60) (hn : n + 1 ≤ 60) :
    rm_W w ha sM (upd ln (3 * a + b) (nI n)) (upd fs (3 * a + b) (nI ((f + 1) % 60))) qC qM (rm_sh yC (3 * a + b) n) (rm_sh yM (3 * a + b) n) := by
  intro a' b' ha' hb'
  obtain ⟨n', f', hR, hM, hz⟩ := H a' b' ha' hb'
  by_cases e : 3 * a' + b' = 3 * a + b
  · have ea : a' = a := by omega
    have eb : b' = b := by omega
    subst ea; subst eb
    have en : n' = n + 1 := rm_im (hR.1.symm.trans hl) (by have := hR.2.2.2.1; omega) (by omega)
    have ef : f' = f := rm_im (hR.2.1.symm.trans hf) (by have := hR.2.2.1; omega) (by omega)
    subst en; subst ef
    refine ⟨n, (f' + 1) % 60, ⟨rm_us, rm_us, by omega, by omega, fun p hp => ?_⟩, ⟨fun p hp => ?_, fun p q hpq hq => ?_⟩, fun z => by have := hz z; omega⟩
    · rw [rm_sh_in hp, rm_sh_in hp, show ((f' + 1) % 60 + p) % 60 = (f' + (p + 1)) % 60 by omega]
      exact hR.2.2.2.2 (p + 1) (by omega)
    · rw [rm_sh_in hp]
      exact hM.1 (p + 1) (by omega)
    · rw [rm_sh_in (show p < n by omega), rm_sh_in hq]
      exact hM.2 (p + 1) (q + 1) (by omega) (by omega)
  · have hn' := hR.2.2.2.1
    have key : ∀ (y : Nat → Int32) p, p < n' → rm_sh y (3 * a + b) n (60 * (3 * a' + b') + p) = y (60 * (3 * a' + b') + p) := fun y p hp =>
      rm_sh_out (by omega)
    refine ⟨n', f', ⟨(rm_un e).trans hR.1, (rm_un e).trans hR.2.1, hR.2.2.1, hn', fun p hp => ?_⟩, ⟨fun p hp => ?_, fun p q hpq hq => ?_⟩, hz⟩
    · rw [key yC p hp, key yM p hp]
      exact hR.2.2.2.2 p hp
    · rw [key yM p hp]
      exact hM.1 p hp
    · rw [key yM p (by omega), key yM q hq]
      exact hM.2 p q hpq hq
/-- the message that has gone from the way of a to b is had by b now: no other thing on the ways is that message for b -/
theorem rm_W_had {w : Nat} {ha sM ln fs qC qM yC yM : Nat → Int32} {b m : Nat} {x : Int32} (H : rm_W w ha sM ln fs qC qM yC yM) (hw : w ≤ 40) (hm : m < w)
    (hfr : ∀ a n, a < 3 → ln (3 * a + b) = nI n → n ≤ 60 → ∀ p, p < n → yM (60 * (3 * a + b) + p) ≠ nI m) :
    rm_W w (upd ha (40 * b + m) x) sM ln fs qC qM yC yM := by
  intro a' b' ha' hb'
  obtain ⟨n, f, hR, hM, hz⟩ := H a' b' ha' hb'
  refine ⟨n, f, hR, ⟨fun p hp => ?_, hM.2⟩, hz⟩
  rcases hM.1 p hp with h | ⟨m', m1, m2, m3, m4⟩
  · exact Or.inl h
  · refine Or.inr ⟨m', m1, m2, ?_, m4⟩
    rw [rm_un]
    · exact m3
    · intro E
      have eb : b' = b := by omega
      subst eb
      have em : m' = m := by omega
      subst em
      exact hfr a' n ha' hR.1 hR.2.2.2.1 p hp m2
theorem rm_take_fr {w : Nat} {ha sM ln fs qC qM yC yM : Nat → Int32} {a b n m : Nat} (H : rm_W w ha sM ln fs qC qM yC yM) (hw : w ≤ 40)
    (ha3 : a < 3) (hb3 : b < 3) (hl : ln (3 * a + b) = nI (n + 1)) (hn : n + 1 ≤ 60) (hm : m < w) (h0 : yM (60 * (3 * a + b)) = nI m) :
    ∀ a' n', a' < 3 → upd ln (3 * a + b) (nI n) (3 * a' + b) = nI n' → n' ≤ 60 → ∀ p, p < n' → rm_sh yM (3 * a + b) n (60 * (3 * a' + b) + p) ≠ nI m := by
  obtain ⟨n0, f0, hR, hM, _⟩ := H a b ha3 hb3
  have en : n0 = n + 1 := rm_im (hR.1.symm.trans hl) (by have := hR.2.2.2.1; omega) (by omega)
  subst en
  intro a' n' ha' hl' hn' p hp E
  by_cases e : a' = a
  · subst e
    rw [rm_us] at hl'
    have en : n = n' := rm_im hl' (by omega) (by omega)
    subst en
    rw [rm_sh_in hp] at E
    have := hM.2 0 (p + 1) (by omega) (by omega) (h0.trans E.symm)
    exact rm_ne1 (a := m) (by omega) (E.symm.trans this)
  · obtain ⟨n1, f1, hR1, hM1, _⟩ := H a' b ha' hb3
    rw [rm_un (show 3 * a' + b ≠ 3 * a + b by omega)] at hl'
    have en : n1 = n' := rm_im (hR1.1.symm.trans hl') (by have := hR1.2.2.2.1; omega) (by omega)
    subst en
    rw [rm_sh_out (by omega)] at E
    have s0 : sM m = nI a := by
      rcases hM.1 0 (by omega) with h | ⟨m', m1, m2, m3, m4⟩
      · exact absurd (h0.symm.trans h) (rm_ne1 (by omega))
      · have := rm_im (h0.symm.trans m2) (by omega) (by omega)
        subst this; exact m4
    have s1 : sM m = nI a' := by
      rcases hM1.1 p hp with h | ⟨m', m1, m2, m3, m4⟩
      · exact absurd (E.symm.trans h) (rm_ne1 (by omega))
      · have := rm_im (E.symm.trans m2) (by omega) (by omega)
        subst this; exact m4
    exact e (rm_im (s1.symm.trans s0) (by omega) (by omega))

/-! the members -/
theorem rm_P_up {w : Nat} {un ha dn uc oc : Nat → Int32} (H : rm_P w un ha dn uc oc) (hw : w < 40) : rm_P (w + 1) un ha dn uc oc := by
  intro m hm
  obtain ⟨h1, h2, h3⟩ := H m hm
  obtain ⟨k1, k2, k3⟩ := h3 w hw
  have hz : ha (40 * m + w) = 0 := k2 (Nat.le_refl w)
  have uz : un (40 * m + w) = 0 := k1.mpr (Or.inl hz)
  have dz : dn (40 * m + w) = 0 := by
    by_cases c : dn (40 * m + w) = 0
    · exact c
    · exact absurd hz (k3 c)
  refine ⟨?_, ?_, fun i hi => ⟨(h3 i hi).1, fun hwi => (h3 i hi).2.1 (by omega), (h3 i hi).2.2⟩⟩
  · rw [rm_cn_s, if_pos uz]; exact h1
  · rw [rm_cn_s, if_pos dz]; exact h2
theorem rm_P_recv {w : Nat} {un ha dn uc oc : Nat → Int32} {b m : Nat} (H : rm_P w un ha dn uc oc) (hb : b < 3) (hm : m < w) (hw : w ≤ 40) (hz : ha (40 * b + m) = 0) :
    rm_P w (upd un (40 * b + m) 1) (upd ha (40 * b + m) 1) dn (upd uc b (uc b + 1)) oc := by
  intro m' hm'
  obtain ⟨h1, h2, h3⟩ := H m' hm'
  by_cases e : m' = b
  · subst e
    have uz : un (40 * m' + m) = 0 := (h3 m (by omega)).1.mpr (Or.inl hz)
    have dz : dn (40 * m' + m) = 0 := by
      by_cases c : dn (40 * m' + m) = 0
      · exact c
      · exact absurd hz ((h3 m (by omega)).2.2 c)
    refine ⟨?_, h2, fun i hi => ?_⟩
    · rw [rm_us, h1, nI_1, rm_cn_set (g := un) (h := upd un (40 * m' + m) 1) (i := m) w hm (fun j hj hn => (rm_un (show 40 * m' + j ≠ 40 * m' + m by omega)).symm) uz (by rw [rm_us]; decide)]
    · by_cases ei : i = m
      · subst ei
        rw [rm_us, rm_us]
        refine ⟨⟨fun z => absurd z (by decide), fun z => ?_⟩, fun z => by omega, fun z => by decide⟩
        rcases z with z | z
        · exact absurd z (by decide)
        · exact absurd dz z
      · rw [rm_un (show 40 * m' + i ≠ 40 * m' + m by omega), rm_un (show 40 * m' + i ≠ 40 * m' + m by omega)]
        exact h3 i hi
  · refine ⟨?_, h2, fun i hi => ?_⟩
    · rw [rm_un e, h1, rm_cn_ext (g := un) (h := upd un (40 * b + m) 1) w (fun i hi => (rm_un (show 40 * m' + i ≠ 40 * b + m by omega)).symm)]
    · rw [rm_un (show 40 * m' + i ≠ 40 * b + m by omega), rm_un (show 40 * m' + i ≠ 40 * b + m by omega)]
      exact h3 i hi
theorem rm_P_read {w : Nat} {un ha dn uc oc : Nat → Int32} {b m : Nat} (H : rm_P w un ha dn uc oc) (hb : b < 3) (hm : m < w) (hw : w ≤ 40) (hz : ¬ un (40 * b + m) = 0) :
    rm_P w (upd un (40 * b + m) 0) ha (upd dn (40 * b + m) 1) (upd uc b (uc b - 1)) (upd oc b (oc b + 1)) ∧ rm_cn un (40 * b) w = rm_cn (upd un (40 * b + m) 0) (40 * b) w + 1 ∧ rm_cn dn (40 * b) w < w := by
  have hd : dn (40 * b + m) = 0 := by
    by_cases c : dn (40 * b + m) = 0
    · exact c
    · exact absurd (((H b hb).2.2 m (by omega)).1.mpr (Or.inr c)) hz
  have hh : ¬ ha (40 * b + m) = 0 := fun c => hz (((H b hb).2.2 m (by omega)).1.mpr (Or.inl c))
  have c1 : rm_cn un (40 * b) w = rm_cn (upd un (40 * b + m) 0) (40 * b) w + 1 :=
    rm_cn_set (g := upd un (40 * b + m) 0) (h := un) (i := m) w hm (fun j hj hn => rm_un (show 40 * b + j ≠ 40 * b + m by omega)) rm_us hz
  refine ⟨fun m' hm' => ?_, c1, rm_cn_lt w hm hd⟩
  obtain ⟨h1, h2, h3⟩ := H m' hm'
  by_cases e : m' = b
  · subst e
    refine ⟨?_, ?_, fun i hi => ?_⟩
    · rw [rm_us, h1, c1, nI_pred]
    · rw [rm_us, h2, nI_1, rm_cn_set (g := dn) (h := upd dn (40 * m' + m) 1) (i := m) w hm (fun j hj hn => (rm_un (show 40 * m' + j ≠ 40 * m' + m by omega)).symm) hd (by rw [rm_us]; decide)]
    · by_cases ei : i = m
      · subst ei
        rw [rm_us, rm_us]
        exact ⟨⟨fun _ => Or.inr (by decide), fun _ => rfl⟩, fun z => by omega, fun _ => hh⟩
      · rw [rm_un (show 40 * m' + i ≠ 40 * m' + m by omega), rm_un (show 40 * m' + i ≠ 40 * m' + m by omega)]
        exact h3 i hi
  · refine ⟨?_, ?_, fun i hi => ?_⟩
    · rw [rm_un e, h1, rm_cn_ext (g := un) (h := upd un (40 * b + m) 0) w (fun i hi => (rm_un (show 40 * m' + i ≠ 40 * b + m by omega)).symm)]
    · rw [rm_un e, h2, rm_cn_ext (g := dn) (h := upd dn (40 * b + m) 1) w (fun i hi => (rm_un (show 40 * m' + i ≠ 40 * b + m by omega)).symm)]
    · rw [rm_un (show 40 * m' + i ≠ 40 * b + m by omega), rm_un (show 40 * m' + i ≠ 40 * b + m by omega)]
      exact h3 i hi
end RM2
