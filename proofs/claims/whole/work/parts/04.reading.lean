section RM4
variable {F G : Int32} {cl sC sM qC qM fs ln hd un uc om oc ha dn yC yM : Nat → Int32}
/-! which stamp is earlier -/
theorem rm_xi {post : Int32 → Prop} {c p x : Int32} (v : vp_in x 40) (h1 : rm_er c p (sC x.toNatClampNeg) (sM x.toNatClampNeg) → post 1)
    (h0 : ¬ rm_er c p (sC x.toNatClampNeg) (sM x.toNatClampNeg) → post 0) : wpX_isEarlier post (F, cl, sC, sM, qC, qM, fs, ln, hd, un, uc, om, oc) c p x := by
  unfold wpX_isEarlier
  dsimp only
  refine ⟨v, br_c (fun a => h1 (Or.inl a)) (fun a => ⟨v, br_c (fun b => ⟨v, br_c (fun d => h0 ?_) (fun d => h1 (Or.inr ⟨b, Int32.not_le.mp d⟩))⟩) (fun b => h0 ?_)⟩)⟩
  · rintro (z | ⟨_, z⟩)
    · exact a z
    · exact Int32.not_le.mpr z d
  · rintro (z | ⟨z, _⟩)
    · exact a z
    · exact b z
theorem rm_yi {post : Int32 → Prop} {c p c' p' : Int32} (h1 : rm_er c p c' p' → post 1)
    (h0 : ¬ rm_er c p c' p' → post 0) : wpY_earlier post (G, cl, sM, sC, ha, dn, oc, om, hd, ln, yC, yM) c p c' p' := by
  unfold wpY_earlier
  dsimp only
  refine br_c (fun a => h1 (Or.inl a)) (fun a => br_c (fun b => br_c (fun d => h0 ?_) (fun d => h1 (Or.inr ⟨b, Int32.not_le.mp d⟩))) (fun b => h0 ?_))
  · rintro (z | ⟨_, z⟩)
    · exact a z
    · exact Int32.not_le.mpr z d
  · rintro (z | ⟨z, _⟩)
    · exact a z
    · exact b z
/-! the scans for the earliest message -/
theorem rm_xe_i {b : Nat} (hb : b < 3) {post : Int32 → Prop} (h : post (rm_bs un sC sM (40 * b) 40)) : ∀ d i, i + d = 40 →
    wX_earliestUnread_4 post (nI b) F cl sC sM qC qM fs ln hd un uc om oc (d + 1) (rm_bs un sC sM (40 * b) i) (nI i) := by
  intro d
  induction d with
  | zero =>
    intro i hi
    have e : i = 40 := by omega
    subst e
    exact br_t (nI_le (a := 40) (b := 40) (by decide) (by decide)) h
  | succ d ih =>
    intro i hi
    have h4 : ¬ (40 : Int32) ≤ nI i := nI_ge (b := 40) (by omega) (by decide)
    have c : (nI b * 40 + nI i).toNatClampNeg = 40 * b + i := by rw [rm_x40]; exact rm_c (by omega)
    have v : vp_in (nI b * 40 + nI i) 120 := by rw [rm_x40]; exact rm_v120 (by omega)
    have ci : (nI i).toNatClampNeg = i := rm_c (by omega)
    have vi : vp_in (nI i) 40 := rm_v40 (by omega)
    have K := ih (i + 1) (by omega)
    rw [rm_bs_s] at K
    refine br_f h4 ⟨v, ?_⟩
    by_cases z : un (40 * b + i) = 0
    · rw [if_neg (fun q => q.1 z)] at K
      exact br_t (by rw [c]; exact z) (nm_r (nI_1 i) K)
    · refine br_f (by rw [c]; exact z) ?_
      by_cases m1 : rm_bs un sC sM (40 * b) i = -1
      · rw [if_pos ⟨z, Or.inl m1⟩] at K
        exact br_t m1 (nm_r (nI_1 i) K)
      · refine br_f m1 ⟨vi, vi, ?_⟩
        have vx : vp_in (rm_bs un sC sM (40 * b) i) 40 := by
          rcases rm_bs_in un sC sM (40 * b) i with q | ⟨m, hm, q, _⟩
          · exact absurd q m1
          · rw [q]; exact rm_v40 (by omega)
        refine rm_xi vx (fun q => br_f rm_10 (nm_r (nI_1 i) ?_)) (fun q => br_t rfl (nm_r (nI_1 i) ?_))
        · rw [ci] at q
          rw [if_pos ⟨z, Or.inr q⟩] at K
          exact K
        · rw [ci] at q
          rw [if_neg (fun y => y.2.elim m1 q)] at K
          exact K
theorem rm_xe {b : Nat} (hb : b < 3) {post : Int32 → Prop} (h : post (rm_bs un sC sM (40 * b) 40)) : wpX_earliestUnread post (F, cl, sC, sM, qC, qM, fs, ln, hd, un, uc, om, oc) (nI b) :=
  ⟨41, rm_xe_i hb h 40 0 rfl⟩
theorem rm_ye_i {b w : Nat} (hb : b < 3) (hw : w ≤ 40) (hu : ∀ i, i < 40 → (un (40 * b + i) = 0 ↔ (ha (40 * b + i) = 0 ∨ ¬ dn (40 * b + i) = 0)))
    {post : Int32 → Prop} (h : post (rm_bs un sC sM (40 * b) w)) : ∀ d i, i + d = w →
    wY_earliest_4 post (nI b) (nI w) cl sM sC ha dn oc om hd ln yC yM (d + 1) (rm_bs un sC sM (40 * b) i) (nI i) := by
  intro d
  induction d with
  | zero =>
    intro i hi
    have e : i = w := by omega
    subst e
    exact br_t (nI_le (Nat.le_refl i) (by omega)) h
  | succ d ih =>
    intro i hi
    have h4 : ¬ nI w ≤ nI i := nI_ge (by omega) (by omega)
    have c : (40 * nI b + nI i).toNatClampNeg = 40 * b + i := by rw [rm_y40]; exact rm_c (by omega)
    have v : vp_in (40 * nI b + nI i) 120 := by rw [rm_y40]; exact rm_v120 (by omega)
    have ci : (nI i).toNatClampNeg = i := rm_c (by omega)
    have vi : vp_in (nI i) 40 := rm_v40 (by omega)
    have K := ih (i + 1) (by omega)
    rw [rm_bs_s] at K
    refine br_f h4 ⟨v, ?_⟩
    have hui := hu i (by omega)
    by_cases z : ha (40 * b + i) = 0
    · rw [if_neg (fun q => q.1 (hui.mpr (Or.inl z)))] at K
      exact br_t (by rw [c]; exact z) (br_t rfl (nm_r (nI_1 i) K))
    · refine br_f (by rw [c]; exact z) ⟨v, ?_⟩
      by_cases y : dn (40 * b + i) = 0
      · refine br_t (by rw [c]; exact y) (br_f rm_10 ?_)
        have zu : ¬ un (40 * b + i) = 0 := fun q => (hui.mp q).elim z (fun q => q y)
        rcases rm_bs_in un sC sM (40 * b) i with m1 | ⟨m, hm, q, _⟩
        · rw [if_pos ⟨zu, Or.inl m1⟩] at K
          exact br_t (by rw [m1]; decide) (nm_r (nI_1 i) K)
        · have m1 : ¬ rm_bs un sC sM (40 * b) i = -1 := by rw [q]; exact rm_ne1 (by omega)
          have vx : vp_in (rm_bs un sC sM (40 * b) i) 40 := by rw [q]; exact rm_v40 (by omega)
          have np : ¬ rm_bs un sC sM (40 * b) i < 0 := by rw [q]; exact nI_pos (by omega)
          refine br_f np ⟨vi, vi, vx, vx, rm_yi (fun q => br_f rm_10 (nm_r (nI_1 i) ?_)) (fun q => br_t rfl (nm_r (nI_1 i) ?_))⟩
          · rw [ci] at q
            rw [if_pos ⟨zu, Or.inr q⟩] at K
            exact K
          · rw [ci] at q
            rw [if_neg (fun y => y.2.elim m1 q)] at K
            exact K
      · rw [if_neg (fun q => q.1 (hui.mpr (Or.inr y)))] at K
        exact br_f (by rw [c]; exact y) (br_t rfl (nm_r (nI_1 i) K))
theorem rm_ye {b w : Nat} (hb : b < 3) (hw : w ≤ 40) (hu : ∀ i, i < 40 → (un (40 * b + i) = 0 ↔ (ha (40 * b + i) = 0 ∨ ¬ dn (40 * b + i) = 0)))
    {post : Int32 → Prop} (h : post (rm_bs un sC sM (40 * b) w)) : wpY_earliest post (nI w, cl, sM, sC, ha, dn, oc, om, hd, ln, yC, yM) (nI b) :=
  ⟨w + 1, rm_ye_i hb hw hu h w 0 (by omega)⟩
/-! ready or not -/
theorem rm_rd_i {b m : Nat} (hb : b < 3) (hm : m < 40) : ∀ d t, t + d = 3 → ∃ r : Int32,
    (∀ post : Int32 → Prop, post r → wX_isReady_2 post (nI b) (nI m) F cl sC sM qC qM fs ln hd un uc om oc (d + 1) (nI t)) ∧
    (∀ post : Int32 → Prop, post r → wY_ready_2 post (nI b) (nI m) G cl sM sC ha dn oc om hd ln yC yM (d + 1) (nI t)) := by
  intro d
  induction d with
  | zero =>
    intro t ht
    have e : t = 3 := by omega
    subst e
    have h3 : (3 : Int32) ≤ nI 3 := nI_le (a := 3) (b := 3) (by decide) (by decide)
    exact ⟨1, fun post h => br_t h3 h, fun post h => br_t h3 h⟩
  | succ d ih =>
    intro t ht
    have h3 : ¬ (3 : Int32) ≤ nI t := nI_ge (b := 3) (by omega) (by decide)
    have v9 : vp_in (nI (3 * t + b)) 9 := rm_v9 (by omega)
    have y9 : vp_in (3 * nI t + nI b) 9 := by rw [rm_y3]; exact v9
    have v4 : vp_in (nI m) 40 := rm_v40 hm
    obtain ⟨r, hX, hY⟩ := ih (t + 1) (by omega)
    by_cases e : nI t = nI b
    · exact ⟨r, fun post h => br_f h3 (br_t e (nm_r (nI_1 t) (hX post h))), fun post h => br_f h3 (br_t e (br_t rfl (nm_r (nI_1 t) (hY post h))))⟩
    · by_cases e2 : nI t = sM (nI m).toNatClampNeg
      · exact ⟨r, fun post h => br_f h3 (br_f e ⟨v4, br_t e2 (nm_r (nI_1 t) (hX post h))⟩), fun post h => br_f h3 (br_f e ⟨v4, br_t e2 (br_t rfl (nm_r (nI_1 t) (hY post h)))⟩)⟩
      · by_cases q : rm_er (hd (nI (3 * t + b)).toNatClampNeg) (nI t) (sC (nI m).toNatClampNeg) (sM (nI m).toNatClampNeg)
        · have q' : rm_er (hd (3 * nI t + nI b).toNatClampNeg) (nI t) (sC (nI m).toNatClampNeg) (sM (nI m).toNatClampNeg) := by rw [rm_y3]; exact q
          exact ⟨0, fun post h => br_f h3 (br_f e ⟨v4, br_f e2 (rm_lo ⟨v9, rm_xi v4 (fun _ => br_f rm_10 h) (fun z => absurd q z)⟩)⟩), fun post h => br_f h3 (br_f e ⟨v4, br_f e2 (br_f rm_10 ⟨y9, v4, v4, rm_yi (fun _ => br_f rm_10 h) (fun z => absurd q' z)⟩)⟩)⟩
        · have q' : ¬ rm_er (hd (3 * nI t + nI b).toNatClampNeg) (nI t) (sC (nI m).toNatClampNeg) (sM (nI m).toNatClampNeg) := by rw [rm_y3]; exact q
          exact ⟨r, fun post h => br_f h3 (br_f e ⟨v4, br_f e2 (rm_lo ⟨v9, rm_xi v4 (fun z => absurd z q) (fun _ => br_t rfl (nm_r (nI_1 t) (hX post h)))⟩)⟩), fun post h => br_f h3 (br_f e ⟨v4, br_f e2 (br_f rm_10 ⟨y9, v4, v4, rm_yi (fun z => absurd z q') (fun _ => br_t rfl (nm_r (nI_1 t) (hY post h)))⟩)⟩)⟩
theorem rm_rd (F G : Int32) (cl sC sM qC qM fs ln hd un uc om oc ha dn yC yM : Nat → Int32) {b m : Nat} (hb : b < 3) (hm : m < 40) : ∃ r : Int32,
    (∀ post : Int32 → Prop, post r → wpX_isReady post (F, cl, sC, sM, qC, qM, fs, ln, hd, un, uc, om, oc) (nI b) (nI m)) ∧
    (∀ post : Int32 → Prop, post r → wpY_ready post (G, cl, sM, sC, ha, dn, oc, om, hd, ln, yC, yM) (nI b) (nI m)) := by
  obtain ⟨r, hX, hY⟩ := rm_rd_i (F := F) (G := G) (cl := cl) (sC := sC) (sM := sM) (qC := qC) (qM := qM) (fs := fs) (ln := ln) (hd := hd) (un := un) (uc := uc) (om := om) (oc := oc) (ha := ha) (dn := dn) (yC := yC) (yM := yM) hb hm 3 0 rfl
  exact ⟨r, fun post h => ⟨4, hX post h⟩, fun post h => ⟨4, hY post h⟩⟩
/-! one message read -/
theorem rm_rn {post : SX → Prop} {b m c : Nat} (hb : b < 3) (hm : m < 40) (hc : oc b = nI c) (hc4 : c < 40)
    (h : post (F, cl, sC, sM, qC, qM, fs, ln, hd, upd un (40 * b + m) 0, upd uc b (uc b - 1), upd om (40 * b + c) (nI m), upd oc b (oc b + 1))) : wpX_readNext post (F, cl, sC, sM, qC, qM, fs, ln, hd, un, uc, om, oc) (nI b) (nI m) := by
  have c1 : (nI b * 40 + nI m).toNatClampNeg = 40 * b + m := by rw [rm_x40]; exact rm_c (by omega)
  have v1 : vp_in (nI b * 40 + nI m) 120 := by rw [rm_x40]; exact rm_v120 (by omega)
  have cb : (nI b).toNatClampNeg = b := rm_c (by omega)
  have c2 : (nI b * 40 + oc (nI b).toNatClampNeg).toNatClampNeg = 40 * b + c := by rw [cb, hc, rm_x40]; exact rm_c (by omega)
  have v2 : vp_in (nI b * 40 + oc (nI b).toNatClampNeg) 120 := by rw [cb, hc, rm_x40]; exact rm_v120 (by omega)
  have v3 := rm_v3 hb
  unfold wpX_readNext
  dsimp only
  exact ⟨v1, nm_r (by rw [c1, rm_vb0]) ⟨v3, v3, nm_r (by rw [cb]) ⟨v3, v2, nm_r (by rw [c2]) ⟨v3, v3, nm_r (by rw [cb]) h⟩⟩⟩⟩
/-! all that is ready is read -/
theorem rm_ra_0 {b w t : Nat} (hb : b < 3) (ht : t ≤ 40) (hz : rm_bs un sC sM (40 * b) 40 = -1) (x2 : Int32) (post : Int32 → SX → Prop) (h : post x2 (F, cl, sC, sM, qC, qM, fs, ln, hd, un, uc, om, oc)) :
    wX_readAllReady_4 post (nI b) 1 x2 (nI t) F cl sC sM qC qM fs ln hd un uc om oc := by
  by_cases e : t = 40
  · subst e
    exact br_t (nI_le (a := 40) (b := 40) (by decide) (by decide)) h
  · refine br_f (nI_ge (b := 40) (by omega) (by decide)) (rm_xe hb ?_)
    exact br_t hz h
theorem rm_ra_i {b w : Nat} (hb : b < 3) (hw : w ≤ 40) : ∀ c t (un uc dn om oc : Nat → Int32) (x2 : Int32), rm_P w un ha dn uc oc → rm_cn un (40 * b) w = c → c + t ≤ 40 →
    ∃ (r : Int32) (un' uc' dn' om' oc' : Nat → Int32), rm_P w un' ha dn' uc' oc' ∧
      (∃ nX, ∀ post : Int32 → SX → Prop, post r (F, cl, sC, sM, qC, qM, fs, ln, hd, un', uc', om', oc') → wX_readAllReady_4 post (nI b) nX x2 (nI t) F cl sC sM qC qM fs ln hd un uc om oc) ∧
      (∃ nY, ∀ post : Int32 → SY → Prop, post r (nI w, cl, sM, sC, ha, dn', oc', om', hd, ln, yC, yM) → wY_readAll_8 post (nI b) (nI w) nY x2 (rm_bs un sC sM (40 * b) w) cl sM sC ha dn oc om hd ln yC yM) := by
  intro c
  induction c with
  | zero =>
    intro t un uc dn om oc x2 hP hc ht
    have e40 : rm_bs un sC sM (40 * b) 40 = rm_bs un sC sM (40 * b) w := by
      have := rm_bs_up (un := un) (sC := sC) (sM := sM) (b := 40 * b) (w := w) (40 - w) (fun i h1 h2 => ((hP b hb).2.2 i (by omega)).1.mpr (Or.inl (((hP b hb).2.2 i (by omega)).2.1 h1)))
      rwa [show w + (40 - w) = 40 by omega] at this
    rcases rm_bs_in un sC sM (40 * b) w with m1 | ⟨m, hm, q, z⟩
    · refine ⟨x2, un, uc, dn, om, oc, hP, ⟨1, fun post h => rm_ra_0 (w := w) hb (by omega) (e40.trans m1) x2 post h⟩, ⟨1, fun post h => ?_⟩⟩
      exact br_t (by rw [m1]; decide) h
    · have := rm_cn_pos (g := un) (b := 40 * b) w hm z
      omega
  | succ c ih =>
    intro t un uc dn om oc x2 hP hc ht
    have e40 : rm_bs un sC sM (40 * b) 40 = rm_bs un sC sM (40 * b) w := by
      have := rm_bs_up (un := un) (sC := sC) (sM := sM) (b := 40 * b) (w := w) (40 - w) (fun i h1 h2 => ((hP b hb).2.2 i (by omega)).1.mpr (Or.inl (((hP b hb).2.2 i (by omega)).2.1 h1)))
      rwa [show w + (40 - w) = 40 by omega] at this
    rcases rm_bs_in un sC sM (40 * b) w with m1 | ⟨m, hm, q, z⟩
    · refine ⟨x2, un, uc, dn, om, oc, hP, ⟨1, fun post h => rm_ra_0 (w := w) hb (by omega) (e40.trans m1) x2 post h⟩, ⟨1, fun post h => ?_⟩⟩
      exact br_t (by rw [m1]; decide) h
    · have h4 : ¬ (40 : Int32) ≤ nI t := nI_ge (b := 40) (by omega) (by decide)
      have ne : ¬ nI m = -1 := rm_ne1 (by omega)
      have np : ¬ nI m < 0 := nI_pos (by omega)
      obtain ⟨r, hX, hY⟩ := rm_rd F (nI w) cl sC sM qC qM fs ln hd un uc om oc ha dn yC yM hb (show m < 40 by omega)
      by_cases r0 : r = 0
      · refine ⟨x2, un, uc, dn, om, oc, hP, ⟨1, fun post h => ?_⟩, ⟨1, fun post h => ?_⟩⟩
        · refine br_f h4 (rm_xe hb ?_)
          rw [e40, q]
          exact br_f ne (hX _ (br_t r0 h))
        · rw [q]
          exact br_f np (hY _ (br_t r0 h))
      · obtain ⟨hP', hcn, hlt⟩ := rm_P_read hP hb hm hw z
        obtain ⟨r', un', uc', dn', om', oc', hP2, ⟨nX, hX'⟩, ⟨nY, hY'⟩⟩ := ih (t + 1) _ _ _ (upd om (40 * b + rm_cn dn (40 * b) w) (nI m)) _ (x2 + 1) hP' (by omega) (by omega)
        have hoc : oc b = nI (rm_cn dn (40 * b) w) := (hP b hb).2.1
        refine ⟨r', un', uc', dn', om', oc', hP2, ⟨nX + 1, fun post h => ?_⟩, ⟨nY + 1, fun post h => ?_⟩⟩
        · refine br_f h4 (rm_xe hb ?_)
          rw [e40, q]
          exact br_f ne (hX _ (br_f r0 (rm_rn hb (by omega) hoc (by omega) (nm_e (nm_r (nI_1 t) (hX' post h))))))
        · rw [q]
          have c1 : (40 * nI b + nI m).toNatClampNeg = 40 * b + m := by rw [rm_y40]; exact rm_c (by omega)
          have v1 : vp_in (40 * nI b + nI m) 120 := by rw [rm_y40]; exact rm_v120 (by omega)
          have cb : (nI b).toNatClampNeg = b := rm_c (by omega)
          have c2 : (40 * nI b + oc (nI b).toNatClampNeg).toNatClampNeg = 40 * b + rm_cn dn (40 * b) w := by rw [cb, hoc, rm_y40]; exact rm_c (by omega)
          have v2 : vp_in (40 * nI b + oc (nI b).toNatClampNeg) 120 := by rw [cb, hoc, rm_y40]; exact rm_v120 (by omega)
          have v3 := rm_v3 hb
          exact br_f np (hY _ (br_f r0 ⟨v1, nm_r (by rw [c1, rm_vb1]) ⟨v3, v2, nm_r (by rw [c2]) ⟨v3, v3, nm_r (by rw [cb]) (nm_e (rm_ye hb hw (fun i hi => ((hP' b hb).2.2 i hi).1) (hY' post h)))⟩⟩⟩))
end RM4
