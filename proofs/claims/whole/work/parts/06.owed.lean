section RM6
theorem i_up {k : Nat} {u : SX} {v : SY} (h : i_Rel k u v) : i_Rel (k + 3) u v := h
theorem i_vc0 : wpX_init (fun u => wpY_init (fun v => i_Rel 0 u v)) := by
  refine ⟨0, fun _ => 0, fun _ => 0, fun _ => 0, fun _ => 0, fun _ => 0, fun _ => 0, fun _ => 0, fun _ => 0, fun _ => 0, fun _ => 0, fun _ => 0, fun _ => 0, fun _ => 0, fun _ => 0, fun _ => 0, fun _ => 0, rfl, rfl, by omega, fun l hl => ⟨0, rfl, by omega⟩, fun a b h1 h2 => ⟨0, 0, ⟨rfl, rfl, by omega, by omega, fun p hp => by omega⟩, ⟨fun p hp => by omega, fun p q h1 h2 => by omega⟩, fun _ => rfl⟩, fun m hm => ⟨rfl, rfl, fun i hi => ⟨⟨fun _ => Or.inl rfl, fun _ => rfl⟩, fun _ => rfl, fun z => absurd rfl z⟩⟩⟩
theorem i_vc_write {k : Nat} {u : SX} {v : SY} (I : i_Rel k u v) (hk : k + 3 ≤ 1536) (v1 : Int32) : wpX_write (fun r u' => wpY_write (fun r' v' => r' = r ∧ i_Rel (k + 3) u' v') v v1) u v1 := by
  have J : i_Rel (k + 3) u v := I
  obtain ⟨w, cl, sC, sM, qC, qM, fs, ln, hd, un, uc, om, oc, ha, dn, yC, yM, rfl, rfl, hw, hB, hW, hP⟩ := I
  unfold wpX_write wpY_write
  dsimp only
  rcases rm_3 v1 with hb | ⟨j, hj, rfl⟩
  · exact rm_xm0 hb (br_t rfl (rm_ym0 hb (br_f rm_10 ⟨rfl, J⟩)))
  · refine rm_xm hj (br_f rm_10 ?_)
    by_cases w4 : w < 40
    · have v3 := rm_v3 hj
      have vw : vp_in (nI w) 40 := rm_v40 w4
      have cj : (nI j).toNatClampNeg = j := rm_c (by omega)
      have cw : (nI w).toNatClampNeg = w := rm_c (by omega)
      have cy : (40 * nI j + nI w).toNatClampNeg = 40 * j + w := by rw [rm_y40]; exact rm_c (by omega)
      have vy : vp_in (40 * nI j + nI w) 120 := by rw [rm_y40]; exact rm_v120 (by omega)
      have hW1 := rm_W_new (j := j) (x := 1) (y := nI j) hW w4
      obtain ⟨qC', qM', ln', yC', yM', hX, hY, hW', hl'⟩ := rm_out (F := nI (w + 1)) (G := nI w) (cl := upd cl j (cl j + 1)) (sC := upd sC w (cl j + 1)) (hd := hd) (un := un) (uc := uc) (om := om) (oc := oc) (dn := dn) hj (nI w) hW1 (fun t' h1 h2 => by
          obtain ⟨n, hn, hn2⟩ := hB (3 * j + t') (by omega)
          exact ⟨n, hn, by omega⟩) (Or.inr ⟨w, by omega, rfl, rm_us, fun t' h1 h2 => ⟨by
          rw [rm_un (show 40 * t' + w ≠ 40 * j + w by omega)]
          exact ((hP t' h1).2.2 w w4).2.1 (Nat.le_refl w), fun n p hn hn6 hp => rm_W_lt hW w4 hj h1 hn (by omega) p hp⟩⟩)
      have hP1 := rm_P_recv (b := j) (m := w) (rm_P_up hP w4) hj (by omega) (by omega) (((hP j hj).2.2 w w4).2.1 (Nat.le_refl w))
      have hB1 : rm_B (w + 1) ln' := by
        intro l hl
        obtain ⟨n, hn, hn2⟩ := hB l hl
        rcases hl' l hl with h | ⟨t', n', h1, h2, h3, h4, h5⟩
        · exact ⟨n, h.trans hn, by omega⟩
        · exact ⟨n + 1, by rw [h5, ← nI_1, ← nI_1, ← h4, hn], by omega⟩
      refine br_t (nI_lt (b := 40) w4 (by decide)) (nm_r (nI_1 w) ⟨v3, v3, nm_r (by rw [cj]) ⟨v3, vw, nm_r (by rw [cj, cw, rm_us]) ⟨vw, nm_r (by rw [cw]) (hX _ (rm_recv hj w4 ?_))⟩⟩⟩)
      refine rm_ym hj (br_t rfl (br_f (fun z => absurd (rm_im (b := 40) z (by omega) (by decide)) (by omega)) ⟨v3, v3, nm_r (by rw [cj]) ⟨vw, nm_r (by rw [cw]) ⟨v3, vw, nm_r (by rw [cj, cw, rm_us]) ⟨vy, nm_r (by rw [cy, rm_vb1]) (hY _ (nm_r (nI_1 w) ⟨nI_pred w, ?_⟩))⟩⟩⟩⟩))
      exact ⟨w + 1, _, _, _, _, _, _, _, _, _, _, _, _, _, _, _, _, rfl, rfl, by omega, hB1, hW', hP1⟩
    · have e : w = 40 := by omega
      subst e
      exact br_f (nI_nlt (b := 40) (by omega) (by decide)) (rm_ym hj (br_t rfl (br_t rfl ⟨rfl, J⟩)))
theorem i_vc_tick {k : Nat} {u : SX} {v : SY} (I : i_Rel k u v) (hk : k + 3 ≤ 1536) (v1 : Int32) : wpX_tick (fun r u' => wpY_tick (fun r' v' => r' = r ∧ i_Rel (k + 3) u' v') v v1) u v1 := by
  have J : i_Rel (k + 3) u v := I
  obtain ⟨w, cl, sC, sM, qC, qM, fs, ln, hd, un, uc, om, oc, ha, dn, yC, yM, rfl, rfl, hw, hB, hW, hP⟩ := I
  unfold wpX_tick wpY_tick
  dsimp only
  rcases rm_3 v1 with hb | ⟨j, hj, rfl⟩
  · exact rm_xm0 hb (br_t rfl (rm_ym0 hb (br_f rm_10 ⟨rfl, J⟩)))
  · have hs : ln (3 * j + j) = nI 0 := by
      obtain ⟨n, f, hR, _, hz⟩ := hW j j hj hj
      rw [hR.1, hz rfl]
    obtain ⟨r, hXc, hYc, hr⟩ := rm_full_i (F := nI w) (G := nI w) (cl := cl) (sC := sC) (sM := sM) (qC := qC) (qM := qM) (fs := fs) (hd := hd) (un := un) (uc := uc) (om := om) (oc := oc) (ha := ha) (dn := dn) (yC := yC) (yM := yM) hj hB hw hs 3 0 rfl
    refine rm_xm hj (br_f rm_10 ⟨4, hXc _ ?_⟩)
    by_cases r0 : r = 0
    · have v3 := rm_v3 hj
      have cj : (nI j).toNatClampNeg = j := rm_c (by omega)
      have hr' := hr r0
      obtain ⟨qC', qM', ln', yC', yM', hX, hY, hW', hl'⟩ := rm_out (F := nI w) (G := nI w) (cl := upd cl j (cl j + 1)) (sC := sC) (hd := hd) (un := un) (uc := uc) (om := om) (oc := oc) (dn := dn) hj (-1) hW (fun t' h1 h2 => by
          obtain ⟨n, hn, hn2⟩ := hr' t' (by omega) h1 h2
          exact ⟨n, hn, by omega⟩) (Or.inl rfl)
      have hB1 : rm_B w ln' := by
        intro l hl
        rcases hl' l hl with h | ⟨t', n', h1, h2, h3, h4, h5⟩
        · obtain ⟨n, hn, hn2⟩ := hB l hl
          exact ⟨n, h.trans hn, hn2⟩
        · obtain ⟨n, hn, hn2⟩ := hr' t' (by omega) h1 h2
          subst h3
          refine ⟨n + 1, ?_, by omega⟩
          rw [h5, ← nI_1, ← nI_1, ← h4, hn]
      refine br_t r0 ⟨v3, v3, nm_r (by rw [cj]) (hX _ ⟨v3, ?_⟩)⟩
      refine rm_ym hj (br_t rfl ⟨4, hYc _ (br_t r0 ⟨v3, v3, nm_r (by rw [cj]) (hY _ ⟨v3, rfl, ?_⟩)⟩)⟩)
      exact ⟨w, _, _, _, _, _, _, _, _, _, _, _, _, _, _, _, _, rfl, rfl, hw, hB1, hW', hP⟩
    · exact br_f r0 (rm_ym hj (br_t rfl ⟨4, hYc _ (br_f r0 ⟨rfl, J⟩)⟩))
theorem i_vc_take {k : Nat} {u : SX} {v : SY} (I : i_Rel k u v) (hk : k + 3 ≤ 1536) (v1 : Int32) (v2 : Int32) : wpX_take (fun r u' => wpY_take (fun r' v' => r' = r ∧ i_Rel (k + 3) u' v') v v1 v2) u v1 v2 := by
  have J : i_Rel (k + 3) u v := I
  obtain ⟨w, cl, sC, sM, qC, qM, fs, ln, hd, un, uc, om, oc, ha, dn, yC, yM, rfl, rfl, hw, hB, hW, hP⟩ := I
  unfold wpX_take wpY_take
  dsimp only
  rcases rm_3 v1 with h1 | ⟨a, ha3, rfl⟩
  · exact rm_xl1 h1 (br_t rfl (rm_ym0 h1 (br_f rm_10 ⟨rfl, J⟩)))
  rcases rm_3 v2 with h2 | ⟨b, hb3, rfl⟩
  · exact rm_xl2 ha3 h2 (br_t rfl (rm_ym ha3 (br_t rfl (rm_ym0 h2 (br_f rm_10 ⟨rfl, J⟩)))))
  by_cases e : nI a = nI b
  · exact rm_xl3 ha3 hb3 e (br_t rfl (rm_ym ha3 (br_t rfl (rm_ym hb3 (br_t rfl (br_t e ⟨rfl, J⟩))))))
  have v9 : vp_in (nI (3 * a + b)) 9 := rm_v9 (by omega)
  have c9 : (nI (3 * a + b)).toNatClampNeg = 3 * a + b := rm_c (by omega)
  have y9 : vp_in (3 * nI a + nI b) 9 := by rw [rm_y3]; exact v9
  have d9 : (3 * nI a + nI b).toNatClampNeg = 3 * a + b := by rw [rm_y3]; exact c9
  have v3 := rm_v3 hb3
  have cb : (nI b).toNatClampNeg = b := rm_c (by omega)
  obtain ⟨n0, f, hR, hM, hz⟩ := hW a b ha3 hb3
  obtain ⟨hln, hfs, hf6, hn6, hq⟩ := hR
  refine rm_xl4 ha3 hb3 e (br_f rm_10 (rm_lo ⟨v9, ?_⟩))
  by_cases z0 : n0 = 0
  · subst z0
    exact br_t (by rw [c9, hln]; exact nI_0) (rm_ym ha3 (br_t rfl (rm_ym hb3 (br_t rfl (br_f e ⟨y9, br_t (by rw [d9, hln]; exact nI_0) ⟨rfl, J⟩⟩)))))
  obtain ⟨n, rfl⟩ : ∃ n, n0 = n + 1 := ⟨n0 - 1, by omega⟩
  have x0 : ¬ ln (nI (3 * a + b)).toNatClampNeg = 0 := by rw [c9, hln]; exact nI_ne0 (by omega) (by omega)
  have y0 : ¬ ln (3 * nI a + nI b).toNatClampNeg = 0 := by rw [d9, hln]; exact nI_ne0 (by omega) (by omega)
  have es : nI (3 * a + b) * 60 + fs (nI (3 * a + b)).toNatClampNeg = nI (60 * (3 * a + b) + f) := by rw [c9, hfs, rm_x60]
  have vs : vp_in (nI (60 * (3 * a + b) + f)) 540 := rm_v540 (by omega)
  have cs : (nI (60 * (3 * a + b) + f)).toNatClampNeg = 60 * (3 * a + b) + f := rm_c (by omega)
  have hq0 := hq 0 (by omega)
  rw [show (f + 0) % 60 = f by omega, Nat.add_zero] at hq0
  obtain ⟨hq1, hq2⟩ := hq0
  have w5 : vp_in (60 * nI (3 * a + b)) 540 := by rw [rm_y60z]; exact rm_v540 (by omega)
  have d5 : (60 * nI (3 * a + b)).toNatClampNeg = 60 * (3 * a + b) := by rw [rm_y60z]; exact rm_c (by omega)
  have hW1 := rm_W_take hW ha3 hb3 hln hfs hf6 hn6
  have hB1 : rm_B w (upd ln (3 * a + b) (nI n)) := by
    intro l hl
    by_cases el : l = 3 * a + b
    · subst el
      obtain ⟨n1, hn1, hn2⟩ := hB _ hl
      have := rm_im (hln.symm.trans hn1) (by omega) (by omega)
      exact ⟨n, rm_us, by omega⟩
    · rw [rm_un el]
      exact hB l hl
  have ef : (fs (nI (3 * a + b)).toNatClampNeg + 1) - (fs (nI (3 * a + b)).toNatClampNeg + 1) / 60 * 60 = nI ((f + 1) % 60) := by
    rw [c9, hfs, nI_1, rm_rem (by omega)]
  refine br_f x0 ⟨v9, nm_r es ⟨v9, by decide, v9, nm_r (by rw [ef, c9]) ⟨v9, v9, nm_r (by rw [c9, hln, nI_pred]) ⟨vs, v9, nm_r (by rw [c9, cs, hq1]) ⟨vs, rm_ac (b := b) hb3 ⟨vs, ?_⟩⟩⟩⟩⟩⟩
  dsimp only
  rw [cs, hq1, hq2]
  have hm0 := hM.1 0 (by omega)
  rw [Nat.add_zero] at hm0
  generalize hx : yM (60 * (3 * a + b)) = x at hm0 ⊢
  generalize hc : yC (60 * (3 * a + b)) = c
  rcases hm0 with rfl | ⟨m, hm, rfl, m3, m4⟩
  · obtain ⟨r, U, V, hX, hY, hRel⟩ := rm_fin (cl := upd cl b ((if c ≤ cl b then cl b else c) + 1)) (sC := sC) (hd := upd hd (3 * a + b) c) (om := om) hb3 hw hB1 hW1 hP
    refine br_t rfl (hX _ ?_)
    refine rm_ym ha3 (br_t rfl (rm_ym hb3 (br_t rfl (br_f e ⟨y9, br_f y0 (nm_r (rm_y3 a b) ⟨w5, nm_r (by rw [d5, hc]) ⟨w5, nm_r (by rw [d5, hx]) ⟨v9, v9, nm_r (by rw [c9, hln, nI_pred]) ⟨n + 1, ?_⟩⟩⟩⟩)⟩))))
    have K := rm_sh_i (post := fun r' v' => r' = r ∧ i_Rel (k + 3) U v') (G := nI w) (cl := cl) (sM := sM) (sC := sC) (ha := ha) (dn := dn) (oc := oc) (om := om) (hd := hd) (ln := upd ln (3 * a + b) (nI n)) (yC := yC) (yM := yM) (x4 := c) (x5 := -1) (l := 3 * a + b) (n := n) hb3 (by omega) (by omega) rm_us ⟨v3, nm_r (by rw [cb]) ⟨v9, nm_r (by rw [c9]) (br_t (by decide) (hY _ ⟨rfl, hRel _⟩))⟩⟩ n 0 (by omega)
    rw [rm_sh0, rm_sh0] at K
    exact K
  · have hm4 : m < 40 := by omega
    have cm : (40 * nI b + nI m).toNatClampNeg = 40 * b + m := by rw [rm_y40]; exact rm_c (by omega)
    have vm : vp_in (40 * nI b + nI m) 120 := by rw [rm_y40]; exact rm_v120 (by omega)
    have hW2 := rm_W_had (b := b) (m := m) (x := 1) hW1 hw hm (rm_take_fr hW hw ha3 hb3 hln hn6 hm hx)
    have hP2 := rm_P_recv hP hb3 hm hw m3
    obtain ⟨r, U, V, hX, hY, hRel⟩ := rm_fin (cl := upd cl b ((if c ≤ cl b then cl b else c) + 1)) (sC := sC) (hd := upd hd (3 * a + b) c) (om := om) hb3 hw hB1 hW2 hP2
    refine br_f (rm_ne1 (by omega)) ⟨vs, rm_recv hb3 hm4 (hX _ ?_)⟩
    refine rm_ym ha3 (br_t rfl (rm_ym hb3 (br_t rfl (br_f e ⟨y9, br_f y0 (nm_r (rm_y3 a b) ⟨w5, nm_r (by rw [d5, hc]) ⟨w5, nm_r (by rw [d5, hx]) ⟨v9, v9, nm_r (by rw [c9, hln, nI_pred]) ⟨n + 1, ?_⟩⟩⟩⟩)⟩))))
    have K := rm_sh_i (post := fun r' v' => r' = r ∧ i_Rel (k + 3) U v') (G := nI w) (cl := cl) (sM := sM) (sC := sC) (ha := ha) (dn := dn) (oc := oc) (om := om) (hd := hd) (ln := upd ln (3 * a + b) (nI n)) (yC := yC) (yM := yM) (x4 := c) (x5 := nI m) (l := 3 * a + b) (n := n) hb3 (by omega) (by omega) rm_us ⟨v3, nm_r (by rw [cb]) ⟨v9, nm_r (by rw [c9]) (br_f (nI_pos (by omega)) ⟨vm, nm_r (by rw [cm, rm_vb1]) (hY _ ⟨rfl, hRel _⟩)⟩)⟩⟩ n 0 (by omega)
    rw [rm_sh0, rm_sh0] at K
    exact K
theorem i_vc_waiting {k : Nat} {u : SX} {v : SY} (I : i_Rel k u v) (hk : k + 3 ≤ 1536) (v1 : Int32) (v2 : Int32) : wpX_waiting (fun r => wpY_waiting (fun r' => r' = r ∧ i_Rel (k + 3) u v) v v1 v2) u v1 v2 := by
  have J : i_Rel (k + 3) u v := I
  obtain ⟨w, cl, sC, sM, qC, qM, fs, ln, hd, un, uc, om, oc, ha, dn, yC, yM, rfl, rfl, hw, hB, hW, hP⟩ := I
  unfold wpX_waiting wpY_waiting
  dsimp only
  rcases rm_3 v1 with h1 | ⟨a, ha3, rfl⟩
  · exact rm_xl1 h1 (br_t rfl (rm_ym0 h1 (br_f rm_10 ⟨rfl, J⟩)))
  rcases rm_3 v2 with h2 | ⟨b, hb3, rfl⟩
  · exact rm_xl2 ha3 h2 (br_t rfl (rm_ym ha3 (br_t rfl (rm_ym0 h2 (br_f rm_10 ⟨rfl, J⟩)))))
  by_cases e : nI a = nI b
  · exact rm_xl3 ha3 hb3 e (br_t rfl (rm_ym ha3 (br_t rfl (rm_ym hb3 (br_t rfl (br_t e ⟨rfl, J⟩))))))
  have v9 : vp_in (nI (3 * a + b)) 9 := rm_v9 (by omega)
  have y9 : vp_in (3 * nI a + nI b) 9 := by rw [rm_y3]; exact v9
  exact rm_xl4 ha3 hb3 e (br_f rm_10 (rm_lo ⟨v9, rm_ym ha3 (br_t rfl (rm_ym hb3 (br_t rfl (br_f e ⟨y9, by rw [rm_y3], J⟩))))⟩))
theorem i_vc_clock {k : Nat} {u : SX} {v : SY} (I : i_Rel k u v) (hk : k + 3 ≤ 1536) (v1 : Int32) : wpX_clock (fun r => wpY_clock (fun r' => r' = r ∧ i_Rel (k + 3) u v) v v1) u v1 := by
  have J : i_Rel (k + 3) u v := I
  obtain ⟨w, cl, sC, sM, qC, qM, fs, ln, hd, un, uc, om, oc, ha, dn, yC, yM, rfl, rfl, hw, hB, hW, hP⟩ := I
  unfold wpX_clock wpY_clock
  dsimp only
  rcases rm_3 v1 with hb | ⟨j, hj, rfl⟩
  · exact rm_xm0 hb (br_t rfl (rm_ym0 hb (br_f rm_10 ⟨rfl, J⟩)))
  · exact rm_xm hj (br_f rm_10 ⟨rm_v3 hj, rm_ym hj (br_t rfl ⟨rm_v3 hj, rfl, J⟩)⟩)
theorem i_vc_count {k : Nat} {u : SX} {v : SY} (I : i_Rel k u v) (hk : k + 3 ≤ 1536) (v1 : Int32) : wpX_count (fun r => wpY_count (fun r' => r' = r ∧ i_Rel (k + 3) u v) v v1) u v1 := by
  have J : i_Rel (k + 3) u v := I
  obtain ⟨w, cl, sC, sM, qC, qM, fs, ln, hd, un, uc, om, oc, ha, dn, yC, yM, rfl, rfl, hw, hB, hW, hP⟩ := I
  unfold wpX_count wpY_count
  dsimp only
  rcases rm_3 v1 with hb | ⟨j, hj, rfl⟩
  · exact rm_xm0 hb (br_t rfl (rm_ym0 hb (br_f rm_10 ⟨rfl, J⟩)))
  · exact rm_xm hj (br_f rm_10 ⟨rm_v3 hj, rm_ym hj (br_t rfl ⟨rm_v3 hj, rfl, J⟩)⟩)
theorem i_vc_read {k : Nat} {u : SX} {v : SY} (I : i_Rel k u v) (hk : k + 3 ≤ 1536) (v1 : Int32) (v2 : Int32) : wpX_read (fun r => wpY_read (fun r' => r' = r ∧ i_Rel (k + 3) u v) v v1 v2) u v1 v2 := by
  have J : i_Rel (k + 3) u v := I
  obtain ⟨w, cl, sC, sM, qC, qM, fs, ln, hd, un, uc, om, oc, ha, dn, yC, yM, rfl, rfl, hw, hB, hW, hP⟩ := I
  unfold wpX_read wpY_read
  dsimp only
  rcases rm_3 v1 with hb | ⟨j, hj, rfl⟩
  · exact rm_xm0 hb (br_t rfl (rm_ym0 hb (br_f rm_10 ⟨rfl, J⟩)))
  refine rm_xm hj (br_f rm_10 ?_)
  by_cases h0 : v2 < 0
  · exact br_t h0 (rm_ym hj (br_t rfl (br_t h0 ⟨rfl, J⟩)))
  refine br_f h0 ⟨rm_v3 hj, ?_⟩
  by_cases hc : v2 < oc (nI j).toNatClampNeg
  · obtain ⟨p, hp, rfl⟩ := nI_of h0
    have cj : (nI j).toNatClampNeg = j := rm_c (by omega)
    have hoc : oc j = nI (rm_cn dn (40 * j) w) := (hP j hj).2.1
    have hle := rm_cn_le dn (40 * j) w
    have hpc : p < rm_cn dn (40 * j) w := by
      rw [cj, hoc, nI_ltI hp (by omega)] at hc
      exact hc
    have v1 : vp_in (nI (40 * j + p)) 120 := rm_v120 (by omega)
    exact br_t hc ⟨by rw [rm_x40]; exact v1, rm_ym hj (br_t rfl (br_f h0 ⟨rm_v3 hj, br_t hc ⟨by rw [rm_y40]; exact v1, by rw [rm_x40, rm_y40], J⟩⟩))⟩
  · exact br_f hc (rm_ym hj (br_t rfl (br_f h0 ⟨rm_v3 hj, br_f hc ⟨rfl, J⟩⟩)))
theorem i_vc_held {k : Nat} {u : SX} {v : SY} (I : i_Rel k u v) (hk : k + 3 ≤ 1536) (v1 : Int32) : wpX_held (fun r => wpY_held (fun r' => r' = r ∧ i_Rel (k + 3) u v) v v1) u v1 := by
  have J : i_Rel (k + 3) u v := I
  obtain ⟨w, cl, sC, sM, qC, qM, fs, ln, hd, un, uc, om, oc, ha, dn, yC, yM, rfl, rfl, hw, hB, hW, hP⟩ := I
  unfold wpX_held wpY_held
  dsimp only
  rcases rm_3 v1 with hb | ⟨j, hj, rfl⟩
  · exact rm_xm0 hb (br_t rfl (rm_ym0 hb (br_f rm_10 ⟨rfl, J⟩)))
  · have cj : (nI j).toNatClampNeg = j := rm_c (by omega)
    exact rm_xm hj (br_f rm_10 ⟨rm_v3 hj, rm_ym hj (br_t rfl ⟨w + 1, rm_hl_i (un := un) hj hw (fun i hi => ((hP j hj).2.2 i hi).1) ⟨by rw [cj]; exact (hP j hj).1.symm, J⟩ w 0 (by omega)⟩)⟩)
theorem i_vc_agree {k : Nat} {u : SX} {v : SY} (I : i_Rel k u v) (hk : k + 3 ≤ 1536) (v1 : Int32) (v2 : Int32) : wpX_agree (fun r => wpY_agree (fun r' => r' = r ∧ i_Rel (k + 3) u v) v v1 v2) u v1 v2 := by
  have J : i_Rel (k + 3) u v := I
  obtain ⟨w, cl, sC, sM, qC, qM, fs, ln, hd, un, uc, om, oc, ha, dn, yC, yM, rfl, rfl, hw, hB, hW, hP⟩ := I
  unfold wpX_agree wpY_agree
  dsimp only
  rcases rm_3 v1 with h1 | ⟨a, ha3, rfl⟩
  · exact rm_xm0 h1 (br_t rfl (rm_ym0 h1 (br_f rm_10 ⟨rfl, J⟩)))
  rcases rm_3 v2 with h2 | ⟨b, hb3, rfl⟩
  · exact rm_xm ha3 (br_f rm_10 (rm_xm0 h2 (br_t rfl (rm_ym ha3 (br_t rfl (rm_ym0 h2 (br_f rm_10 ⟨rfl, J⟩)))))))
  have ca : (nI a).toNatClampNeg = a := rm_c (by omega)
  have cb : (nI b).toNatClampNeg = b := rm_c (by omega)
  have va := rm_v3 ha3
  have vb := rm_v3 hb3
  have h1 : oc a = nI (rm_cn dn (40 * a) w) := (hP a ha3).2.1
  have h2 : oc b = nI (rm_cn dn (40 * b) w) := (hP b hb3).2.1
  have l1 := rm_cn_le dn (40 * a) w
  have l2 := rm_cn_le dn (40 * b) w
  refine rm_xm ha3 (br_f rm_10 (rm_xm hb3 (br_f rm_10 ⟨va, vb, ?_⟩)))
  by_cases z : rm_cn dn (40 * b) w ≤ rm_cn dn (40 * a) w
  · obtain ⟨r, hX, hY⟩ := rm_ag_i (F := nI w) (G := nI w) (cl := cl) (sC := sC) (sM := sM) (qC := qC) (qM := qM) (fs := fs) (ln := ln) (hd := hd) (un := un) (uc := uc) (om := om) (oc := oc) (ha := ha) (dn := dn) (yC := yC) (yM := yM) (s := rm_cn dn (40 * b) w) ha3 hb3 h1 h2 (by omega) (by omega) z (Nat.le_refl _) (Or.inr rfl) _ 0 (Nat.zero_add _)
    exact br_t (by rw [ca, cb, h1, h2]; exact nI_le z (by omega)) ⟨vb, nm_r (by rw [cb, h2]) ⟨_, hX _ (rm_ym ha3 (br_t rfl (rm_ym hb3 (br_t rfl ⟨_, hY _ ⟨rfl, J⟩⟩))))⟩⟩
  · obtain ⟨r, hX, hY⟩ := rm_ag_i (F := nI w) (G := nI w) (cl := cl) (sC := sC) (sM := sM) (qC := qC) (qM := qM) (fs := fs) (ln := ln) (hd := hd) (un := un) (uc := uc) (om := om) (oc := oc) (ha := ha) (dn := dn) (yC := yC) (yM := yM) (s := rm_cn dn (40 * a) w) ha3 hb3 h1 h2 (by omega) (by omega) (Nat.le_refl _) (by omega) (Or.inl rfl) _ 0 (Nat.zero_add _)
    exact br_f (by rw [ca, cb, h1, h2]; exact nI_ge (by omega) (by omega)) ⟨va, nm_r (by rw [ca, h1]) ⟨_, hX _ (rm_ym ha3 (br_t rfl (rm_ym hb3 (br_t rfl ⟨_, hY _ ⟨rfl, J⟩⟩))))⟩⟩
end RM6
