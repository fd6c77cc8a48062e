/-- written, clocks, stamps, writers, heard, lengths, order and counts are the same on both sides; the rings against the rows (rm_W, rm_B), unread against has and done (rm_P) -/
def i_Rel (_ : Nat) (u : SX) (v : SY) : Prop :=
  ∃ (w : Nat) (cl sC sM qC qM fs ln hd un uc om oc ha dn yC yM : Nat → Int32), u = (nI w, cl, sC, sM, qC, qM, fs, ln, hd, un, uc, om, oc) ∧ v = (nI w, cl, sM, sC, ha, dn, oc, om, hd, ln, yC, yM) ∧
    w ≤ 40 ∧ rm_B w ln ∧ rm_W w ha sM ln fs qC qM yC yM ∧ rm_P w un ha dn uc oc
section RM5
variable {F G : Int32} {cl sC sM qC qM fs ln hd un uc om oc ha dn yC yM : Nat → Int32}
/-! the row of the reference moves up by one -/
theorem rm_sh_i {post : Int32 → SY → Prop} {b l n : Nat} {x4 x5 : Int32} (hb : b < 3) (hl : l < 9) (hn : n < 60) (hln : ln l = nI n)
    (h : wY_take_171 post (nI b) (nI l) x4 x5 (if x4 ≤ cl b then cl b else x4) (nI b) G cl sM sC ha dn oc om hd ln (rm_sh yC l n) (rm_sh yM l n)) : ∀ d i, i + d = n →
    wY_take_75 post (nI b) (nI l) x4 x5 G (d + 1) (nI i) cl sM sC ha dn oc om hd ln (rm_sh yC l i) (rm_sh yM l i) := by
  have cl9 : (nI l).toNatClampNeg = l := rm_c (by omega)
  have cb : (nI b).toNatClampNeg = b := rm_c (by omega)
  have v9 : vp_in (nI l) 9 := rm_v9 hl
  have v3 := rm_v3 hb
  intro d
  induction d with
  | zero =>
    intro i hi
    have e : i = n := by omega
    subst e
    refine ⟨v9, br_t (by rw [cl9, hln]; exact nI_le (Nat.le_refl i) (by omega)) ⟨v3, ?_⟩⟩
    by_cases z : x4 ≤ cl b
    · rw [if_pos z] at h
      refine br_t (by rw [cb]; exact z) ⟨v3, ?_⟩
      rw [cb]
      exact h
    · rw [if_neg z] at h
      exact br_f (by rw [cb]; exact z) h
  | succ d ih =>
    intro i hi
    have K := ih (i + 1) (by omega)
    have c1 : (60 * nI l + nI i).toNatClampNeg = 60 * l + i := by rw [rm_y60]; exact rm_c (by omega)
    have v1 : vp_in (60 * nI l + nI i) 540 := by rw [rm_y60]; exact rm_v540 (by omega)
    have c2 : (60 * nI l + nI i + 1).toNatClampNeg = 60 * l + i + 1 := by rw [rm_y60, nI_1]; exact rm_c (by omega)
    have v2 : vp_in (60 * nI l + nI i + 1) 540 := by rw [rm_y60, nI_1]; exact rm_v540 (by omega)
    have eC : ∀ y : Nat → Int32, upd (rm_sh y l i) (60 * nI l + nI i).toNatClampNeg (rm_sh y l i (60 * nI l + nI i + 1).toNatClampNeg) = rm_sh y l (i + 1) := by
      intro y
      rw [c1, c2, rm_sh_out (show ¬ (60 * l ≤ 60 * l + i + 1 ∧ 60 * l + i + 1 < 60 * l + i) by omega), rm_sh_s]
    exact ⟨v9, br_f (by rw [cl9, hln]; exact nI_ge (by omega) (by omega)) ⟨v2, v1, nm_r (eC yC) ⟨v2, v1, nm_r (eC yM) (nm_r (nI_1 i) K)⟩⟩⟩
/-! the end of take: reading, the same on both sides -/
theorem rm_fin {b w : Nat} (hb : b < 3) (hw : w ≤ 40) (hB : rm_B w ln) (hW : rm_W w ha sM ln fs qC qM yC yM) (hP : rm_P w un ha dn uc oc) :
    ∃ (r : Int32) (U : SX) (V : SY), (∀ post : Int32 → SX → Prop, post r U → wX_take_115 post (nI b) (nI w) cl sC sM qC qM fs ln hd un uc om oc) ∧
      (∀ post : Int32 → SY → Prop, post r V → wY_take_200 post (nI b) (nI w) cl sM sC ha dn oc om hd ln yC yM) ∧ ∀ k, i_Rel k U V := by
  obtain ⟨r, un', uc', dn', om', oc', hP', ⟨nX, hX⟩, ⟨nY, hY⟩⟩ := rm_ra_i (F := nI w) (cl := cl) (sC := sC) (sM := sM) (qC := qC) (qM := qM) (fs := fs) (ln := ln) (hd := hd) (ha := ha) (yC := yC) (yM := yM) hb hw _ 0 un uc dn om oc 0 hP rfl (by have := rm_cn_le un (40 * b) w; omega)
  refine ⟨r, _, _, fun post h => ?_, fun post h => ?_, fun k => ⟨w, cl, sC, sM, qC, qM, fs, ln, hd, un', uc', om', oc', ha, dn', yC, yM, rfl, rfl, hw, hB, hW, hP'⟩⟩
  · unfold wX_take_115 wpX_readAllReady
    dsimp only
    exact ⟨nX, hX _ h⟩
  · unfold wY_take_200 wpY_readAll
    dsimp only
    exact rm_ye hb hw (fun i hi => ((hP b hb).2.2 i hi).1) ⟨nY, hY _ h⟩
/-! held: the reference counts -/
theorem rm_hl_i {b w : Nat} (hb : b < 3) (hw : w ≤ 40) (hu : ∀ i, i < 40 → (un (40 * b + i) = 0 ↔ (ha (40 * b + i) = 0 ∨ ¬ dn (40 * b + i) = 0)))
    {post : Int32 → Prop} (h : post (nI (rm_cn un (40 * b) w))) : ∀ d i, i + d = w →
    wY_held_13 post (nI b) (nI w) cl sM sC ha dn oc om hd ln yC yM (d + 1) (nI (rm_cn un (40 * b) i)) (nI i) := by
  intro d
  induction d with
  | zero =>
    intro i hi
    have e : i = w := by omega
    subst e
    exact br_t (nI_le (Nat.le_refl i) (by omega)) h
  | succ d ih =>
    intro i hi
    have h4 : ¬ nI w ≤ nI i := nI_ge (by omega) (by omega)
    have c : (40 * nI b + nI i).toNatClampNeg = 40 * b + i := by rw [rm_y40]; exact rm_c (by omega)
    have v : vp_in (40 * nI b + nI i) 120 := by rw [rm_y40]; exact rm_v120 (by omega)
    have K := ih (i + 1) (by omega)
    rw [rm_cn_s] at K
    refine br_f h4 ⟨v, ?_⟩
    have hui := hu i (by omega)
    by_cases z : ha (40 * b + i) = 0
    · rw [if_pos (hui.mpr (Or.inl z))] at K
      exact br_t (by rw [c]; exact z) (nm_r (nI_1 i) K)
    · refine br_f (by rw [c]; exact z) ⟨v, ?_⟩
      by_cases y : dn (40 * b + i) = 0
      · rw [if_neg (fun q => (hui.mp q).elim z (fun q => q y))] at K
        exact br_t (by rw [c]; exact y) (nm_r (nI_1 _) (nm_r (nI_1 i) K))
      · rw [if_pos (hui.mpr (Or.inr y))] at K
        exact br_f (by rw [c]; exact y) (nm_r (nI_1 i) K)
/-! agree: both compare place by place -/
theorem rm_ag_i {a b c1 c2 s : Nat} (ha3 : a < 3) (hb3 : b < 3) (h1 : oc a = nI c1) (h2 : oc b = nI c2) (hc1 : c1 ≤ 40) (hc2 : c2 ≤ 40) (hs1 : s ≤ c1) (hs2 : s ≤ c2) (hs : s = c1 ∨ s = c2) :
    ∀ d i, i + d = s → ∃ r : Int32, (∀ post : Int32 → Prop, post r → wX_agree_50 post (nI a) (nI b) (nI s) F cl sC sM qC qM fs ln hd un uc om oc (d + 1) (nI i)) ∧
      (∀ post : Int32 → Prop, post r → wY_agree_18 post (nI a) (nI b) G cl sM sC ha dn oc om hd ln yC yM (d + 1) (nI i)) := by
  have va := rm_v3 ha3
  have vb := rm_v3 hb3
  have ca : (nI a).toNatClampNeg = a := rm_c (by omega)
  have cb : (nI b).toNatClampNeg = b := rm_c (by omega)
  intro d
  induction d with
  | zero =>
    intro i hi
    have e : i = s := by omega
    subst e
    refine ⟨1, fun post h => br_t (nI_le (Nat.le_refl i) (by omega)) h, fun post h => ⟨va, ?_⟩⟩
    by_cases z : c1 ≤ i
    · exact br_t (by rw [ca, h1]; exact nI_le z (by omega)) h
    · exact br_f (by rw [ca, h1]; exact nI_ge (by omega) (by omega)) ⟨vb, br_t (by rw [cb, h2]; exact nI_le (by omega) (by omega)) h⟩
  | succ d ih =>
    intro i hi
    have x1 : nI a * 40 + nI i = nI (40 * a + i) := rm_x40 a i
    have x2 : nI b * 40 + nI i = nI (40 * b + i) := rm_x40 b i
    have y1 : 40 * nI a + nI i = nI (40 * a + i) := rm_y40 a i
    have y2 : 40 * nI b + nI i = nI (40 * b + i) := rm_y40 b i
    have v1 : vp_in (nI (40 * a + i)) 120 := rm_v120 (by omega)
    have v2 : vp_in (nI (40 * b + i)) 120 := rm_v120 (by omega)
    have n0 : ¬ nI s ≤ nI i := nI_ge (by omega) (by omega)
    have n1 : ¬ oc (nI a).toNatClampNeg ≤ nI i := by rw [ca, h1]; exact nI_ge (by omega) (by omega)
    have n2 : ¬ oc (nI b).toNatClampNeg ≤ nI i := by rw [cb, h2]; exact nI_ge (by omega) (by omega)
    by_cases z : om (nI (40 * a + i)).toNatClampNeg = om (nI (40 * b + i)).toNatClampNeg
    · obtain ⟨r, hX, hY⟩ := ih (i + 1) (by omega)
      refine ⟨r, fun post h => br_f n0 ⟨by rw [x1]; exact v1, by rw [x2]; exact v2, br_t (by rw [x1, x2]; exact z) (nm_r (nI_1 i) (hX post h))⟩, fun post h => ⟨va, br_f n1 ⟨vb, br_f n2 ⟨by rw [y1]; exact v1, by rw [y2]; exact v2, br_t (by rw [y1, y2]; exact z) (nm_r (nI_1 i) (hY post h))⟩⟩⟩⟩
    · exact ⟨0, fun post h => br_f n0 ⟨by rw [x1]; exact v1, by rw [x2]; exact v2, br_f (by rw [x1, x2]; exact z) h⟩, fun post h => ⟨va, br_f n1 ⟨vb, br_f n2 ⟨by rw [y1]; exact v1, by rw [y2]; exact v2, br_f (by rw [y1, y2]; exact z) h⟩⟩⟩⟩
end RM5
