section RM3
variable {F G : Int32} {cl sC sM qC qM fs ln hd un uc om oc ha dn yC yM : Nat → Int32}
/-! members and links -/
def rm_bad (x : Int32) : Prop := x < 0 ∨ (¬ x < 0 ∧ nI 3 ≤ x)
theorem rm_3 (x : Int32) : rm_bad x ∨ ∃ j : Nat, j < 3 ∧ x = nI j := by
  rcases rm_ix x (n := 3) (by decide) with h | h | h
  · exact Or.inl (Or.inl h)
  · exact Or.inl (Or.inr h)
  · exact Or.inr h
theorem rm_v3 {j : Nat} (h : j < 3) : vp_in (nI j) 3 := vp_in_nI h (by decide)
theorem rm_v9 {l : Nat} (h : l < 9) : vp_in (nI l) 9 := vp_in_nI h (by decide)
theorem rm_v40 {l : Nat} (h : l < 40) : vp_in (nI l) 40 := vp_in_nI h (by decide)
theorem rm_v120 {l : Nat} (h : l < 120) : vp_in (nI l) 120 := vp_in_nI h (by decide)
theorem rm_v540 {l : Nat} (h : l < 540) : vp_in (nI l) 540 := vp_in_nI h (by decide)
theorem rm_c {n : Nat} (h : n < 1000) : (nI n).toNatClampNeg = n := nI_clamp (by omega)
theorem rm_10 : ¬ (1 : Int32) = 0 := by decide
theorem rm_xm {post : Int32 → Prop} {j : Nat} (hj : j < 3) (h : post 1) : wpX_isMember post (nI j) :=
  br_f (nI_pos (by omega)) (br_f (nI_ge (b := 3) hj (by decide)) h)
theorem rm_xm0 {post : Int32 → Prop} {x : Int32} (hx : rm_bad x) (h : post 0) : wpX_isMember post x := by
  rcases hx with hx | ⟨hx, h3⟩
  · exact br_t hx h
  · exact br_f hx (br_t h3 h)
theorem rm_ym {post : Int32 → Prop} {j : Nat} (hj : j < 3) (h : post 0) : wpY_bad post (nI j) :=
  br_f (nI_pos (by omega)) (br_t (nI_le (b := 2) (by omega) (by decide)) h)
theorem rm_ym0 {post : Int32 → Prop} {x : Int32} (hx : rm_bad x) (h : post 1) : wpY_bad post x := by
  rcases hx with hx | ⟨hx, h3⟩
  · exact br_t hx h
  · have h2 : ¬ x ≤ 2 := fun h2 => nI_ge (a := 2) (b := 3) (by decide) (by decide) (Int32.le_trans h3 h2)
    exact br_f hx (br_f h2 h)
theorem rm_xl1 {post : Int32 → Prop} {x y : Int32} (h1 : rm_bad x) (h : post 0) : wpX_isLink post x y := by
  unfold wpX_isLink
  exact rm_xm0 h1 (br_t rfl h)
theorem rm_xl2 {post : Int32 → Prop} {a : Nat} {y : Int32} (ha3 : a < 3) (h2 : rm_bad y) (h : post 0) : wpX_isLink post (nI a) y := by
  unfold wpX_isLink
  exact rm_xm ha3 (br_f rm_10 (rm_xm0 h2 (br_t rfl h)))
theorem rm_xl3 {post : Int32 → Prop} {a b : Nat} (ha3 : a < 3) (hb3 : b < 3) (e : nI a = nI b) (h : post 0) : wpX_isLink post (nI a) (nI b) := by
  unfold wpX_isLink
  exact rm_xm ha3 (br_f rm_10 (rm_xm hb3 (br_f rm_10 (br_t e h))))
theorem rm_xl4 {post : Int32 → Prop} {a b : Nat} (ha3 : a < 3) (hb3 : b < 3) (e : ¬ nI a = nI b) (h : post 1) : wpX_isLink post (nI a) (nI b) := by
  unfold wpX_isLink
  exact rm_xm ha3 (br_f rm_10 (rm_xm hb3 (br_f rm_10 (br_f e h))))
theorem rm_lo {post : Int32 → Prop} {a b : Nat} (h : post (nI (3 * a + b))) : wpX_linkOf post (nI a) (nI b) := by
  unfold wpX_linkOf
  rw [rm_x3]
  exact h
/-! sending -/
theorem rm_send {post : SX → Prop} {l n f : Nat} {c x : Int32} (hl : l < 9) (hln : ln l = nI n) (hfs : fs l = nI f) (hf : f < 60) (hn : n < 60)
    (h : post (F, cl, sC, sM, upd qC (60 * l + (f + n) % 60) c, upd qM (60 * l + (f + n) % 60) x, fs, upd ln l (nI (n + 1)), hd, un, uc, om, oc)) :
    wpX_send post (F, cl, sC, sM, qC, qM, fs, ln, hd, un, uc, om, oc) (nI l) c x := by
  have cl1 : (nI l).toNatClampNeg = l := rm_c (by omega)
  have e2 : nI l * 60 + ((fs (nI l).toNatClampNeg + ln (nI l).toNatClampNeg) - (fs (nI l).toNatClampNeg + ln (nI l).toNatClampNeg) / 60 * 60) = nI (60 * l + (f + n) % 60) := by
    rw [cl1, hfs, hln, nI_add, rm_rem (by omega), rm_x60]
  have v9 : vp_in (nI l) 9 := rm_v9 hl
  have vs : vp_in (nI (60 * l + (f + n) % 60)) 540 := rm_v540 (by omega)
  have cs : (nI (60 * l + (f + n) % 60)).toNatClampNeg = 60 * l + (f + n) % 60 := rm_c (by omega)
  unfold wpX_send
  dsimp only
  exact ⟨v9, v9, by decide, nm_r e2 ⟨vs, nm_r (by rw [cs]) ⟨vs, nm_r (by rw [cs]) ⟨v9, v9, nm_r (by rw [cl1, hln, nI_1]) h⟩⟩⟩⟩
theorem rm_out_i {w j : Nat} (hj : j < 3) (x : Int32) : ∀ d t, t + d = 3 → ∀ (qC qM ln yC yM : Nat → Int32), rm_W w ha sM ln fs qC qM yC yM →
    (∀ t', t ≤ t' → t' < 3 → t' ≠ j → ∃ n, ln (3 * j + t') = nI n ∧ n < 60) →
    (x = -1 ∨ ∃ m, m < w ∧ x = nI m ∧ sM m = nI j ∧ ∀ t', t ≤ t' → t' < 3 → t' ≠ j → ha (40 * t' + m) = 0 ∧ ∀ n p, ln (3 * j + t') = nI n → n ≤ 60 → p < n → yM (60 * (3 * j + t') + p) ≠ nI m) →
    ∃ qC' qM' ln' yC' yM' : Nat → Int32,
      (∀ post : SX → Prop, post (F, cl, sC, sM, qC', qM', fs, ln', hd, un, uc, om, oc) → wX_sendToOthers_2 post (nI j) x (d + 1) (nI t) F cl sC sM qC qM fs ln hd un uc om oc) ∧
      (∀ post : SY → Prop, post (G, cl, sM, sC, ha, dn, oc, om, hd, ln', yC', yM') → wY_setOut_2 post (nI j) x G (d + 1) (nI t) cl sM sC ha dn oc om hd ln yC yM) ∧
      rm_W w ha sM ln' fs qC' qM' yC' yM' ∧
      ∀ l, l < 9 → ln' l = ln l ∨ ∃ t' n, t ≤ t' ∧ t' < 3 ∧ t' ≠ j ∧ l = 3 * j + t' ∧ ln l = nI n ∧ ln' l = nI (n + 1) := by
  intro d
  induction d with
  | zero =>
    intro t ht qC qM ln yC yM hW _ _
    have e : t = 3 := by omega
    subst e
    have h3 : (3 : Int32) ≤ nI 3 := nI_le (a := 3) (b := 3) (by decide) (by decide)
    exact ⟨qC, qM, ln, yC, yM, fun post h => br_t h3 h, fun post h => br_t h3 h, hW, fun l hl => Or.inl rfl⟩
  | succ d ih =>
    intro t ht qC qM ln yC yM hW hL hx
    have h3 : ¬ (3 : Int32) ≤ nI t := nI_ge (b := 3) (by omega) (by decide)
    by_cases e : t = j
    · subst e
      obtain ⟨qC', qM', ln', yC', yM', hX, hY, hW', hl'⟩ := ih (t + 1) (by omega) qC qM ln yC yM hW (fun t' h1 h2 h3 => hL t' (by omega) h2 h3) (by
        rcases hx with hx | ⟨m, m1, m2, m3, m4⟩
        · exact Or.inl hx
        · exact Or.inr ⟨m, m1, m2, m3, fun t' h1 h2 h3 => m4 t' (by omega) h2 h3⟩)
      refine ⟨qC', qM', ln', yC', yM', fun post h => br_f h3 (br_t rfl (nm_r (nI_1 t) (hX post h))), fun post h => br_f h3 (br_t rfl (nm_r (nI_1 t) (hY post h))), hW', fun l hl => ?_⟩
      rcases hl' l hl with h | ⟨t', n, h1, h2⟩
      · exact Or.inl h
      · exact Or.inr ⟨t', n, by omega, h2⟩
    · have ne : ¬ nI t = nI j := fun z => e (rm_im z (by omega) (by omega))
      obtain ⟨n, hn, hn6⟩ := hL t (Nat.le_refl t) (by omega) e
      obtain ⟨n0, f, hR, hM, _⟩ := hW j t hj (by omega)
      obtain ⟨_, hf, hf6, _, _⟩ := hR
      have hx1 : x = -1 ∨ ∃ m, m < w ∧ x = nI m ∧ ha (40 * t + m) = 0 ∧ sM m = nI j ∧ ∀ p, p < n → yM (60 * (3 * j + t) + p) ≠ nI m := by
        rcases hx with hx | ⟨m, m1, m2, m3, m4⟩
        · exact Or.inl hx
        · exact Or.inr ⟨m, m1, m2, (m4 t (Nat.le_refl t) (by omega) e).1, m3, fun p hp => (m4 t (Nat.le_refl t) (by omega) e).2 n p hn (by omega) hp⟩
      have hW1 := rm_W_send (c := cl (nI j).toNatClampNeg) hW hj (show t < 3 by omega) (fun z => e z.symm) hn hf hf6 hn6 hx1
      obtain ⟨qC', qM', ln', yC', yM', hX, hY, hW', hl'⟩ := ih (t + 1) (by omega) _ _ _ _ _ hW1 (fun t' h1 h2 h3 => by
          rw [rm_un (show 3 * j + t' ≠ 3 * j + t by omega)]
          exact hL t' (by omega) h2 h3) (by
        rcases hx with hx | ⟨m, m1, m2, m3, m4⟩
        · exact Or.inl hx
        · refine Or.inr ⟨m, m1, m2, m3, fun t' h1 h2 h3 => ⟨(m4 t' (by omega) h2 h3).1, fun n' p hn' hn'6 hp => ?_⟩⟩
          rw [rm_un (show 3 * j + t' ≠ 3 * j + t by omega)] at hn'
          rw [rm_un (show 60 * (3 * j + t') + p ≠ 60 * (3 * j + t) + n by omega)]
          exact (m4 t' (by omega) h2 h3).2 n' p hn' hn'6 hp)
      have v9 : vp_in (nI (3 * j + t)) 9 := rm_v9 (by omega)
      have c9 : (nI (3 * j + t)).toNatClampNeg = 3 * j + t := rm_c (by omega)
      have v3 : vp_in (nI j) 3 := rm_v3 hj
      have e5 : 60 * nI (3 * j + t) + ln (nI (3 * j + t)).toNatClampNeg = nI (60 * (3 * j + t) + n) := by rw [c9, hn, rm_y60]
      have c5 : (60 * nI (3 * j + t) + ln (nI (3 * j + t)).toNatClampNeg).toNatClampNeg = 60 * (3 * j + t) + n := by rw [e5]; exact rm_c (by omega)
      have v5 : vp_in (60 * nI (3 * j + t) + ln (nI (3 * j + t)).toNatClampNeg) 540 := by rw [e5]; exact rm_v540 (by omega)
      refine ⟨qC', qM', ln', yC', yM', fun post h => br_f h3 (br_f ne (rm_lo ⟨v3, rm_send (by omega) hn hf hf6 hn6 (nm_r (nI_1 t) (hX post h))⟩)), fun post h => br_f h3 (br_f ne (nm_r (rm_y3 j t) ⟨v9, v3, v5, nm_r (by rw [c5]) ⟨v9, v5, nm_r (by rw [c5]) ⟨v9, v9, nm_r (by rw [c9, hn, nI_1]) (nm_r (nI_1 t) (hY post h))⟩⟩⟩)), hW', fun l hl => ?_⟩
      rcases hl' l hl with h | ⟨t', n', h1, h2, h4, h5, h6, h7⟩
      · by_cases el : l = 3 * j + t
        · subst el
          rw [rm_us] at h
          exact Or.inr ⟨t, n, Nat.le_refl t, by omega, e, rfl, hn, h⟩
        · rw [rm_un el] at h
          exact Or.inl h
      · rw [rm_un (show l ≠ 3 * j + t by omega)] at h6
        exact Or.inr ⟨t', n', by omega, h2, h4, h5, h6, h7⟩
theorem rm_out {w j : Nat} (hj : j < 3) (x : Int32) (hW : rm_W w ha sM ln fs qC qM yC yM)
    (hL : ∀ t', t' < 3 → t' ≠ j → ∃ n, ln (3 * j + t') = nI n ∧ n < 60)
    (hx : x = -1 ∨ ∃ m, m < w ∧ x = nI m ∧ sM m = nI j ∧ ∀ t', t' < 3 → t' ≠ j → ha (40 * t' + m) = 0 ∧ ∀ n p, ln (3 * j + t') = nI n → n ≤ 60 → p < n → yM (60 * (3 * j + t') + p) ≠ nI m) :
    ∃ qC' qM' ln' yC' yM' : Nat → Int32,
      (∀ post : SX → Prop, post (F, cl, sC, sM, qC', qM', fs, ln', hd, un, uc, om, oc) → wpX_sendToOthers post (F, cl, sC, sM, qC, qM, fs, ln, hd, un, uc, om, oc) (nI j) x) ∧
      (∀ post : SY → Prop, post (G, cl, sM, sC, ha, dn, oc, om, hd, ln', yC', yM') → wpY_setOut post (G, cl, sM, sC, ha, dn, oc, om, hd, ln, yC, yM) (nI j) x) ∧
      rm_W w ha sM ln' fs qC' qM' yC' yM' ∧
      ∀ l, l < 9 → ln' l = ln l ∨ ∃ t' n, t' < 3 ∧ t' ≠ j ∧ l = 3 * j + t' ∧ ln l = nI n ∧ ln' l = nI (n + 1) := by
  obtain ⟨qC', qM', ln', yC', yM', hX, hY, hW', hl'⟩ := rm_out_i (F := F) (G := G) (cl := cl) (sC := sC) (hd := hd) (un := un) (uc := uc) (om := om) (oc := oc) (dn := dn) hj x 3 0 rfl qC qM ln yC yM hW (fun t' _ h2 h3 => hL t' h2 h3) (by
    rcases hx with hx | ⟨m, m1, m2, m3, m4⟩
    · exact Or.inl hx
    · exact Or.inr ⟨m, m1, m2, m3, fun t' _ h2 h3 => m4 t' h2 h3⟩)
  rw [nI_0] at hX hY
  refine ⟨qC', qM', ln', yC', yM', fun post h => ⟨4, hX post h⟩, fun post h => ⟨4, hY post h⟩, hW', fun l hl => ?_⟩
  rcases hl' l hl with h | ⟨t', n, _, h2⟩
  · exact Or.inl h
  · exact Or.inr ⟨t', n, h2⟩
/-! receiving, clocks -/
theorem rm_recv {post : SX → Prop} {b m : Nat} (hb : b < 3) (hm : m < 40)
    (h : post (F, cl, sC, sM, qC, qM, fs, ln, hd, upd un (40 * b + m) 1, upd uc b (uc b + 1), om, oc)) : wpX_receive post (F, cl, sC, sM, qC, qM, fs, ln, hd, un, uc, om, oc) (nI b) (nI m) := by
  have e : nI b * 40 + nI m = nI (40 * b + m) := rm_x40 b m
  have c : (nI b * 40 + nI m).toNatClampNeg = 40 * b + m := by rw [e]; exact rm_c (by omega)
  have v : vp_in (nI b * 40 + nI m) 120 := by rw [e]; exact rm_v120 (by omega)
  have cb : (nI b).toNatClampNeg = b := rm_c (by omega)
  unfold wpX_receive
  dsimp only
  exact ⟨v, nm_r (by rw [c, rm_vb1]) ⟨rm_v3 hb, rm_v3 hb, nm_r (by rw [cb]) h⟩⟩
theorem rm_ac {post : SX → Prop} {b : Nat} {c : Int32} (hb : b < 3)
    (h : post (F, upd cl b ((if c ≤ cl b then cl b else c) + 1), sC, sM, qC, qM, fs, ln, hd, un, uc, om, oc)) : wpX_advanceClock post (F, cl, sC, sM, qC, qM, fs, ln, hd, un, uc, om, oc) (nI b) c := by
  have cb : (nI b).toNatClampNeg = b := rm_c (by omega)
  unfold wpX_advanceClock
  dsimp only
  by_cases z : c ≤ cl b
  · rw [if_pos z] at h
    exact ⟨rm_v3 hb, br_t (by rw [cb]; exact z) ⟨rm_v3 hb, rm_v3 hb, nm_r (by rw [cb]) h⟩⟩
  · rw [if_neg z] at h
    exact ⟨rm_v3 hb, br_f (by rw [cb]; exact z) ⟨rm_v3 hb, nm_r (by rw [cb]) ⟨rm_v3 hb, rm_v3 hb, nm_r (by rw [cb, rm_us, rm_uu]) h⟩⟩⟩
/-! crowded -/
theorem rm_full_i {w j : Nat} (hj : j < 3) (hB : rm_B w ln) (hw : w ≤ 40) (hs : ln (3 * j + j) = nI 0) : ∀ d t, t + d = 3 → ∃ r : Int32,
    (∀ post : Int32 → Prop, post r → wX_isCrowded_2 post (nI j) F cl sC sM qC qM fs ln hd un uc om oc (d + 1) (nI t)) ∧
    (∀ post : Int32 → Prop, post r → wY_full_2 post (nI j) G cl sM sC ha dn oc om hd ln yC yM (d + 1) (nI t)) ∧
    (r = 0 → ∀ t', t ≤ t' → t' < 3 → t' ≠ j → ∃ n, ln (3 * j + t') = nI n ∧ n < 20) := by
  intro d
  induction d with
  | zero =>
    intro t ht
    have e : t = 3 := by omega
    subst e
    have h3 : (3 : Int32) ≤ nI 3 := nI_le (a := 3) (b := 3) (by decide) (by decide)
    exact ⟨0, fun post h => br_t h3 h, fun post h => br_t h3 h, fun _ t' h1 h2 => by omega⟩
  | succ d ih =>
    intro t ht
    have h3 : ¬ (3 : Int32) ≤ nI t := nI_ge (b := 3) (by omega) (by decide)
    have v9 : vp_in (nI (3 * j + t)) 9 := rm_v9 (by omega)
    have c9 : (nI (3 * j + t)).toNatClampNeg = 3 * j + t := rm_c (by omega)
    obtain ⟨r, hX, hY, hr⟩ := ih (t + 1) (by omega)
    by_cases e : t = j
    · subst e
      have lt : ln (nI (3 * t + t)).toNatClampNeg < 20 := by
        rw [c9, hs]; exact nI_lt (a := 0) (b := 20) (by decide) (by decide)
      exact ⟨r, fun post h => br_f h3 (rm_lo ⟨v9, br_t lt (nm_r (nI_1 t) (hX post h))⟩), fun post h => br_f h3 (br_t rfl (nm_r (nI_1 t) (hY post h))), fun z t' h1 h2 h4 => hr z t' (by omega) h2 h4⟩
    · have ne : ¬ nI t = nI j := fun z => e (rm_im z (by omega) (by omega))
      obtain ⟨n, hn, hn2⟩ := hB (3 * j + t) (by omega)
      have y9 : vp_in (3 * nI j + nI t) 9 := by rw [rm_y3]; exact v9
      by_cases c : n < 20
      · have lt : ln (nI (3 * j + t)).toNatClampNeg < 20 := by
          rw [c9, hn]; exact nI_lt (a := n) (b := 20) c (by decide)
        have lt' : ln (3 * nI j + nI t).toNatClampNeg < 20 := by rw [rm_y3]; exact lt
        refine ⟨r, fun post h => br_f h3 (rm_lo ⟨v9, br_t lt (nm_r (nI_1 t) (hX post h))⟩), fun post h => br_f h3 (br_f ne ⟨y9, br_t lt' (nm_r (nI_1 t) (hY post h))⟩), fun z t' h1 h2 h4 => ?_⟩
        by_cases e' : t' = t
        · subst e'
          exact ⟨n, hn, c⟩
        · exact hr z t' (by omega) h2 h4
      · have lt : ¬ ln (nI (3 * j + t)).toNatClampNeg < 20 := by
          rw [c9, hn]; exact nI_nlt (a := n) (b := 20) (by omega) (by omega)
        have lt' : ¬ ln (3 * nI j + nI t).toNatClampNeg < 20 := by rw [rm_y3]; exact lt
        exact ⟨1, fun post h => br_f h3 (rm_lo ⟨v9, br_f lt h⟩), fun post h => br_f h3 (br_f ne ⟨y9, br_f lt' h⟩), fun z => absurd z rm_10⟩
end RM3
