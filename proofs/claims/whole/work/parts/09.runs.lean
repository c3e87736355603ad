/-! ===== commit, cell, stable, standing ===== -/
theorem tl_keep {k rr W c : Nat} {b od p m : Nat → Nat} {org stp knd tgt val plc bys ord : Nat → Int32} {sts : Nat → Int64} {cms clk trm stx kno sty sny : Nat → Int32} (G : tl_G rr W c b od p m org stp knd tgt plc bys ord sts cms kno stx sty sny) {s1 o1 s2 n2 : Nat → Int32} (h1 : ∀ j, 8 ≤ j → s1 j = 0) (h2 : ∀ j, 8 ≤ j → s2 j = 0) (h3 : ∀ j, 48 ≤ j → n2 j = 0) : i_Rel k (nI rr, nI W, org, stp, knd, tgt, val, plc, bys, ord, sts, cms, clk, trm, s1, o1) (nI rr, nI W, nI c, org, stp, knd, tgt, val, kno, ord, cms, clk, trm, s2, n2) := by
  obtain ⟨g1, g2, g3, g4, g5, g6, g7, g8, g9⟩ := G
  exact ⟨rr, W, c, b, od, p, m, org, stp, knd, tgt, val, plc, bys, ord, sts, cms, clk, trm, s1, o1, kno, s2, n2, rfl, rfl, ⟨g1, g2, g3, g4, g5, g6, h1, h2, h3⟩⟩
theorem i_vc_commit {k : Nat} {u : SX} {v : SY} (I : i_Rel k u v) (hk : k + 5 ≤ 2561) (v1 : Int32) : wpX_commit (fun r u' => wpY_commit (fun r' v' => r' = r ∧ i_Rel (k + 5) u' v') v v1) u v1 := by
  obtain ⟨rr, W, c, b, od, p, m, org, stp, knd, tgt, val, plc, bys, ord, sts, cms, clk, trm, stx, oux, kno, sty, sny, rfl, rfl, ⟨⟨hrr, hW⟩, hV, ⟨hB, hS⟩, hP, hK, hM, hX, hY, hN⟩⟩ := I
  have hc := tl_P_le hP
  have c0 : cms 0 = nI c := by rw [(hM.2 0 (by omega)).1, hM.1]
  generalize ht : (fun w => tl_kb (sts 0) w && decide (p w = 48)) = t
  have ht1 : ∀ w, w < W → t w = (tl_kb (sts 0) w && decide (p w = 48)) := fun w _ => by rw [← ht]
  have ht2 : ∀ w, w < W → t w = true → p w = 48 := by
    intro w hw q
    rw [ht1 w hw] at q
    simp at q
    exact q.2
  have ht3 : ∀ w, w < W → (t w = true ↔ (¬ kno (0 * 48 + w) = 0 ∧ tl_sn od c w = 0)) := by
    intro w hw
    rw [← tl_h0 hW hP (Nat.le_refl c) hK (by omega : 0 < 4) w hw, ht1 w hw]
    have e : decide (p w = 48) = decide (c ≤ p w) := by
      rcases (hP.1 w hw).2 with a | a
      · rw [decide_eq_true a, decide_eq_true (by omega)]
      · rw [decide_eq_false (by omega), decide_eq_false (by omega)]
    rw [e]
  have e : upd cms 0 (nI (c + tl_cd b t v1 0)) = cms := by
    show upd cms 0 (nI c) = cms
    rw [← c0]; exact tl_ups cms 0
  have key : ∀ post : Int32 → SX → Prop, post (nI (tl_cd b t v1 W)) (nI rr, nI W, org, stp, knd, tgt, val, tl_cp b t v1 c plc W, bys, tl_co b t v1 c ord W, sts, upd cms 0 (nI (c + tl_cd b t v1 W)), clk, trm, stx, oux) → wX_commit_4 post v1 (W + 1) 0 0 (nI rr) (nI W) org stp knd tgt val plc bys ord sts cms clk trm stx oux := by
    intro post h
    have A := tl_xcm (cms := cms) hW hS hB hP ht1 h W 0 (by omega)
    rw [e] at A
    exact A
  unfold wpX_commit wpY_commit
  dsimp only
  refine ⟨W + 1, key _ ?_⟩
  refine tl_yr0 (r := 0) (M := c) (od := od) (by omega) c0 (by omega) hV hW (fun i hi => ⟨(hP.2.1 i hi).1, (hP.2.1 i hi).2.1⟩) hY hN ?_
  dsimp only
  refine ⟨49, tl_ycm (plc := plc) (o0 := tl_sn od c) hW hS hP ht2 ht3 ⟨rfl, ?_⟩ W 0 49 (by omega) (by omega)⟩
  obtain ⟨od', p', P', _⟩ := tl_cinv (n := v1) hW hS hP ht2 W (Nat.le_refl W)
  refine ⟨rr, W, c + tl_cd b t v1 W, b, od', p', (fun r => if r = 0 then c + tl_cd b t v1 W else m r), org, stp, knd, tgt, val, _, bys, _, sts, _, clk, trm, stx, oux, kno, _, _, rfl, rfl, ⟨⟨hrr, hW⟩, hV, ⟨hB, hS⟩, P', hK, ⟨rfl, ?_⟩, hX, ?_, ?_⟩⟩
  · intro r hr
    dsimp only
    by_cases q : r = 0
    · rw [q, pk_us, if_pos rfl]
      exact ⟨rfl, Nat.le_refl _⟩
    · rw [pk_un q, if_neg q]
      have := hM.2 r hr
      exact ⟨this.1, by omega⟩
  · exact tl_cs_hi hV (fun i hi => (hP.2.1 i hi).2.1) c (Nat.le_refl c)
  · intro j hj
    rw [tl_cy_hi W (fun i hi _ q => by have := hS.1 i hi; omega)]
    exact tl_sn_big hW hP (Nat.le_refl c) j hj
theorem i_vc_stable {k : Nat} {u : SX} {v : SY} (I : i_Rel k u v) (hk : k + 5 ≤ 2561) (v1 : Int32) (v2 : Int32) : wpX_stable (fun r u' => wpY_stable (fun r' v' => r' = r ∧ i_Rel (k + 5) u' v') v v1 v2) u v1 v2 := by
  have J : i_Rel (k + 5) u v := I
  obtain ⟨rr, W, c, b, od, p, m, org, stp, knd, tgt, val, plc, bys, ord, sts, cms, clk, trm, stx, oux, kno, sty, sny, rfl, rfl, G⟩ := I
  have G' := G
  obtain ⟨⟨hrr, hW⟩, hV, ⟨hB, hS⟩, hP, hK, hM, hX, hY, hN⟩ := G
  have hc := tl_P_le hP
  unfold wpX_stable wpY_stable
  dsimp only
  rcases tl_ix3 v1 (n := rr) (by omega) with hx | ⟨j, hj, rfl⟩
  · exact tl_xb hx (br_t rfl (tl_yb0 hx (br_f (by decide) ⟨rfl, J⟩)))
  · refine tl_xg hj hrr (br_f (by decide) ?_)
    rcases tl_ix3 v2 (n := 8) (by omega) with hq | ⟨cc, hcc, rfl⟩
    · refine tl_xcb0 hq (br_t rfl (tl_yg hj hrr (br_t rfl ?_)))
      by_cases c1 : v2 < 0
      · exact br_t c1 ⟨rfl, J⟩
      · rcases hq with a | a
        · exact absurd a c1
        · exact br_f c1 (br_f (tl_87 a) ⟨rfl, J⟩)
    · have c1 : ¬ nI cc < 0 := nI_pos (by omega)
      have c2 : nI cc ≤ 7 := nI_le (b := 7) (by omega) (by omega)
      have ic : vp_in (nI cc) 8 := vp_in_nI hcc (by omega)
      obtain ⟨m1, m2⟩ := hM.2 j (by omega)
      have ho : ∀ i, i < m j → ord i = nI (od i) ∧ od i < W := fun i hi => ⟨(hP.2.1 i (by omega)).1, (hP.2.1 i (by omega)).2.1⟩
      refine tl_xcg hcc (br_f (by decide) (tl_xrc (M := m j) (od := od) (by omega) m1 (by omega) hV hW ho hX ⟨ic, ?_⟩))
      refine tl_yg hj hrr (br_t rfl (br_f c1 (br_t c2 ?_)))
      refine tl_yr0 (M := m j) (od := od) (by omega) m1 (by omega) hV hW ho hY hN ⟨ic, rfl, ?_⟩
      have h8 := tl_cs_hi (val := val) hV (fun i hi => (ho i hi).2) (m j) (Nat.le_refl _)
      exact tl_keep G' h8 h8 (tl_sn_big hW hP m2)
theorem i_vc_cell {k : Nat} {u : SX} {v : SY} (I : i_Rel k u v) (hk : k + 5 ≤ 2561) (v1 : Int32) (v2 : Int32) : wpX_cell (fun r u' => wpY_cell (fun r' v' => r' = r ∧ i_Rel (k + 5) u' v') v v1 v2) u v1 v2 := by
  have J : i_Rel (k + 5) u v := I
  obtain ⟨rr, W, c, b, od, p, m, org, stp, knd, tgt, val, plc, bys, ord, sts, cms, clk, trm, stx, oux, kno, sty, sny, rfl, rfl, G⟩ := I
  have G' := G
  obtain ⟨⟨hrr, hW⟩, hV, ⟨hB, hS⟩, hP, hK, hM, hX, hY, hN⟩ := G
  have hc := tl_P_le hP
  unfold wpX_cell wpY_cell
  dsimp only
  rcases tl_ix3 v1 (n := rr) (by omega) with hx | ⟨j, hj, rfl⟩
  · exact tl_xb hx (br_t rfl (tl_yb0 hx (br_f (by decide) ⟨rfl, J⟩)))
  · refine tl_xg hj hrr (br_f (by decide) ?_)
    rcases tl_ix3 v2 (n := 8) (by omega) with hq | ⟨cc, hcc, rfl⟩
    · refine tl_xcb0 hq (br_t rfl (tl_yg hj hrr (br_t rfl ?_)))
      by_cases c1 : v2 < 0
      · exact br_t c1 ⟨rfl, J⟩
      · rcases hq with a | a
        · exact absurd a c1
        · exact br_f c1 (br_f (tl_87 a) ⟨rfl, J⟩)
    · have c1 : ¬ nI cc < 0 := nI_pos (by omega)
      have c2 : nI cc ≤ 7 := nI_le (b := 7) (by omega) (by omega)
      have ic : vp_in (nI cc) 8 := vp_in_nI hcc (by omega)
      obtain ⟨m1, m2⟩ := hM.2 j (by omega)
      have ho : ∀ i, i < m j → ord i = nI (od i) ∧ od i < W := fun i hi => ⟨(hP.2.1 i (by omega)).1, (hP.2.1 i (by omega)).2.1⟩
      have hp : ∀ w, w < W → plc w = nI (p w) ∧ p w ≤ 48 := fun w hw => ⟨(hP.1 w hw).1, by rcases (hP.1 w hw).2 with a | a <;> omega⟩
      generalize ht : (fun w => tl_kb (sts j) w && decide (m j ≤ p w)) = t
      have ht1 : ∀ w, w < W → t w = (tl_kb (sts j) w && decide (m j ≤ p w)) := fun w _ => by rw [← ht]
      have ht3 : ∀ w, w < W → (t w = true ↔ (¬ kno (j * 48 + w) = 0 ∧ tl_sn od (m j) w = 0)) := fun w hw => by rw [ht1 w hw]; exact tl_h0 hW hP m2 hK (by omega) w hw
      refine tl_xcg hcc (br_f (by decide) (tl_xrc (M := m j) (od := od) (by omega) m1 (by omega) hV hW ho hX ?_))
      dsimp only
      refine tl_xrt (M := m j) (b := b) (p := p) (t := t) (by omega) m1 (by omega) hV hW (fun i hi => ⟨hB i hi, hS.1 i hi⟩) hp ht1 ⟨ic, ?_⟩
      refine tl_yg hj hrr (br_t rfl (br_f c1 (br_t c2 ?_)))
      refine tl_yr1 (M := m j) (od := od) (b := b) (t := t) (by omega) m1 (by omega) hV hW ho hS ht3 hY hN ⟨ic, rfl, ?_⟩
      have h8 := tl_ts_hi (val := val) (t := t) hV hS.1 (tl_cs_hi (val := val) hV (fun i hi => (ho i hi).2) (m j) (Nat.le_refl _)) W (Nat.le_refl _)
      exact tl_keep G' h8 h8 (tl_to_big hW hS.1 (tl_sn_big hW hP m2))
theorem i_vc_standing {k : Nat} {u : SX} {v : SY} (I : i_Rel k u v) (hk : k + 5 ≤ 2561) (v1 : Int32) (v2 : Int32) : wpX_standing (fun r u' => wpY_standing (fun r' v' => r' = r ∧ i_Rel (k + 5) u' v') v v1 v2) u v1 v2 := by
  have J : i_Rel (k + 5) u v := I
  obtain ⟨rr, W, c, b, od, p, m, org, stp, knd, tgt, val, plc, bys, ord, sts, cms, clk, trm, stx, oux, kno, sty, sny, rfl, rfl, G⟩ := I
  have G' := G
  obtain ⟨⟨hrr, hW⟩, hV, ⟨hB, hS⟩, hP, hK, hM, hX, hY, hN⟩ := G
  have hc := tl_P_le hP
  unfold wpX_standing wpY_standing
  dsimp only
  rcases tl_ix3 v1 (n := rr) (by omega) with hx | ⟨j, hj, rfl⟩
  · exact tl_xb hx (br_t rfl (tl_yb0 hx (br_f (by decide) ⟨rfl, J⟩)))
  · refine tl_xg hj hrr (br_f (by decide) ?_)
    rcases tl_ix3 v2 (n := W) (by omega) with hq | ⟨w, hw, rfl⟩
    · by_cases c1 : v2 < 0
      · exact br_t c1 (tl_yg hj hrr (br_t rfl (br_t c1 ⟨rfl, J⟩)))
      · rcases hq with a | a
        · exact absurd a c1
        · exact br_f c1 (br_t a (tl_yg hj hrr (br_t rfl (br_f c1 (br_t a ⟨rfl, J⟩)))))
    · have c1 : ¬ nI w < 0 := nI_pos (by omega)
      have c2 : ¬ nI W ≤ nI w := nI_ge hw (by omega)
      have iw : vp_in (nI w) 48 := vp_in_nI (by omega) (by omega)
      obtain ⟨m1, m2⟩ := hM.2 j (by omega)
      have hkw := (hK j (by omega) w (by omega)).1
      have ho : ∀ i, i < m j → ord i = nI (od i) ∧ od i < W := fun i hi => ⟨(hP.2.1 i (by omega)).1, (hP.2.1 i (by omega)).2.1⟩
      have hp : ∀ w, w < W → plc w = nI (p w) ∧ p w ≤ 48 := fun w hw => ⟨(hP.1 w hw).1, by rcases (hP.1 w hw).2 with a | a <;> omega⟩
      generalize ht : (fun w => tl_kb (sts j) w && decide (m j ≤ p w)) = t
      have ht1 : ∀ w, w < W → t w = (tl_kb (sts j) w && decide (m j ≤ p w)) := fun w _ => by rw [← ht]
      have ht3 : ∀ w, w < W → (t w = true ↔ (¬ kno (j * 48 + w) = 0 ∧ tl_sn od (m j) w = 0)) := fun w hw => by rw [ht1 w hw]; exact tl_h0 hW hP m2 hK (by omega) w hw
      have h7 := tl_cs_hi (val := val) hV (fun i hi => (ho i hi).2) (m j) (Nat.le_refl _)
      have h8 := tl_ts_hi (val := val) (t := t) hV hS.1 h7 W (Nat.le_refl _)
      have h9 := tl_to_big (tgt := tgt) (knd := knd) (val := val) (t := t) (s0 := tl_cs tgt knd val od (m j)) hW hS.1 (tl_sn_big hW hP m2)
      refine br_f c1 (br_f c2 (tl_xis (by omega) (by omega) ?_))
      rw [tl_ix, nI_clamp (n := j * 48 + w) (by omega)]
      have ik : vp_in (nI (j * 48 + w)) 192 := vp_in_nI (by omega) (by omega)
      by_cases z : tl_kb (sts j) w = true
      · have zk : ¬ kno (j * 48 + w) = 0 := by rw [hkw, z]; decide
        rw [if_pos z]
        refine br_f (by decide) (tl_xten (t := t w) (by omega) (by omega) m1 (by omega) (hp w hw).1 (hp w hw).2 (ht1 w hw) ?_)
        by_cases y : t w = true
        · rw [if_pos y]
          refine br_f (by decide) (tl_xrc (M := m j) (od := od) (by omega) m1 (by omega) hV hW ho hX ?_)
          dsimp only
          refine tl_xrt (M := m j) (b := b) (p := p) (t := t) (by omega) m1 (by omega) hV hW (fun i hi => ⟨hB i hi, hS.1 i hi⟩) hp ht1 ⟨iw, ?_⟩
          refine tl_yg hj hrr (br_t rfl (br_f c1 (br_f c2 ⟨ik, br_f zk ?_⟩)))
          refine tl_yr1 (M := m j) (od := od) (b := b) (t := t) (by omega) m1 (by omega) hV hW ho hS ht3 hY hN ⟨iw, ?_, ?_⟩
          · rw [nI_clamp (n := w) (by omega)]
            obtain ⟨i, hi, rfl⟩ := hS.2.2 w hw
            exact tl_to_eq W i hi y
          · exact tl_keep G' h8 h8 h9
        · rw [if_neg y]
          refine br_t rfl (tl_yg hj hrr (br_t rfl (br_f c1 (br_f c2 ⟨ik, br_f zk ?_⟩))))
          refine tl_yr1 (M := m j) (od := od) (b := b) (t := t) (by omega) m1 (by omega) hV hW ho hS ht3 hY hN ⟨iw, ?_, ?_⟩
          · dsimp only
            rw [nI_clamp (n := w) (by omega), tl_to_hi (w := w) W (fun i _ hi q => y (by rw [← q]; exact hi))]
            refine (tl_sn_p hW hP m2 hw).1 ?_
            rw [ht1 w hw, z] at y
            simp at y
            exact y
          · exact tl_keep G' hX h8 h9
      · have zk : kno (j * 48 + w) = 0 := hkw.mpr (ts_nt z)
        rw [if_neg z]
        exact br_t rfl (tl_yg hj hrr (br_t rfl (br_f c1 (br_f c2 ⟨ik, br_t zk ⟨rfl, J⟩⟩))))
