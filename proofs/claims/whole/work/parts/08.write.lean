/-! ===== write, bring ===== -/
theorem tl_V_add {W c k : Nat} {knd tgt : Nat → Int32} (h : tl_V W knd tgt) (hc : c < 8) (hk : k ≤ 5) : tl_V (W + 1) (upd knd W (nI k)) (upd tgt W (nI c)) := by
  intro w hw
  by_cases e : w = W
  · subst e
    exact ⟨⟨c, hc, pk_us⟩, k, hk, pk_us⟩
  · rw [pk_un e, pk_un e]
    exact h w (by omega)
theorem tl_K_add {W j : Nat} {sts : Nat → Int64} {kno : Nat → Int32} (h : tl_K W sts kno) (hW : W < 48) (hj : j < 4) : tl_K (W + 1) (vp_updL sts j (sts j ||| ((1 : Int64) <<< ((nI W).toInt64 &&& 63)))) (upd kno (j * 48 + W) 1) := by
  intro r hr w hw
  obtain ⟨h1, h2⟩ := h r hr w hw
  by_cases er : r = j
  · subst er
    rw [pk_uLs, tl_kb_or, tl_kb_sh (by omega) (by omega)]
    by_cases e : w = W
    · subst e
      rw [pk_us, decide_eq_true rfl]
      refine ⟨⟨fun q => absurd q (by decide), fun q => ?_⟩, fun q => absurd q (by omega)⟩
      simp at q
    · rw [pk_un (by omega), decide_eq_false e, Bool.or_false]
      exact ⟨h1, fun q => h2 (by omega)⟩
  · rw [pk_uLn er, pk_un (by omega)]
    exact ⟨h1, fun q => h2 (by omega)⟩
theorem tl_vcw {k rr W c : Nat} {b od p m : Nat → Nat} {org stp knd tgt val plc bys ord : Nat → Int32} {sts : Nat → Int64} {cms clk trm stx oux kno sty sny : Nat → Int32} (G : tl_G rr W c b od p m org stp knd tgt plc bys ord sts cms kno stx sty sny) {j kk cc : Nat} (hj : j < rr) (hkk : kk ≤ 5) (hcc : cc < 8) (hW : W < 48) (v4 : Int32) {a : Nat} {bb : Nat → Int32} (ha : a ≤ W) (hbb : ∀ i, i < W + 1 → bb i = nI (tl_ins a W b i))
    (hl : a = 0 ∨ ¬ tl_be (upd stp W (upd clk j (clk j + 1) j)) (upd org W (nI j)) W (b (a - 1))) (hr : ∀ x, a ≤ x → x < W → tl_be (upd stp W (upd clk j (clk j + 1) j)) (upd org W (nI j)) W (b x)) :
    i_Rel k (nI rr, nI (W + 1), upd org W (nI j), upd stp W (upd clk j (clk j + 1) j), upd knd W (nI kk), upd tgt W (nI cc), upd val W v4, upd plc W 48, bb, ord, vp_updL sts j (sts j ||| ((1 : Int64) <<< ((nI W).toInt64 &&& 63))), cms, upd clk j (clk j + 1), trm, stx, oux)
      (nI rr, nI (W + 1), nI c, upd org W (nI j), upd stp W (upd clk j (clk j + 1) j), upd knd W (nI kk), upd tgt W (nI cc), upd val W v4, upd kno (j * 48 + W) 1, ord, cms, upd clk j (clk j + 1), trm, sty, sny) := by
  obtain ⟨⟨hrr, _⟩, hV, ⟨hB, hS⟩, hP, hK, hM, hX, hY, hN⟩ := G
  refine ⟨rr, W + 1, c, tl_ins a W b, od, (fun w => if w = W then 48 else p w), m, upd org W (nI j), upd stp W (upd clk j (clk j + 1) j), upd knd W (nI kk), upd tgt W (nI cc), upd val W v4, upd plc W 48, bb, ord, vp_updL sts j (sts j ||| ((1 : Int64) <<< ((nI W).toInt64 &&& 63))), cms, upd clk j (clk j + 1), trm, stx, oux, upd kno (j * 48 + W) 1, sty, sny, rfl, rfl, ?_⟩
  exact ⟨⟨hrr, by omega⟩, tl_V_add hV hcc hkk, ⟨hbb, tl_ins_srt hS ha (fun w hw => pk_un (by omega)) (fun w hw => pk_un (by omega)) hl hr⟩, tl_P_add hP, tl_K_add hK hW (by omega), hM, hX, hY, hN⟩
theorem i_vc_write {k : Nat} {u : SX} {v : SY} (I : i_Rel k u v) (hk : k + 5 ≤ 2561) (v1 : Int32) (v2 : Int32) (v3 : Int32) (v4 : Int32) : wpX_write (fun r u' => wpY_write (fun r' v' => r' = r ∧ i_Rel (k + 5) u' v') v v1 v2 v3 v4) u v1 v2 v3 v4 := by
  have J : i_Rel (k + 5) u v := I
  obtain ⟨rr, W, c, b, od, p, m, org, stp, knd, tgt, val, plc, bys, ord, sts, cms, clk, trm, stx, oux, kno, sty, sny, rfl, rfl, G⟩ := I
  have hrr := G.1.1
  have hW := G.1.2
  unfold wpX_write wpY_write
  dsimp only
  rcases tl_ix3 v1 (n := rr) (by omega) with hx | ⟨j, hj, rfl⟩
  · exact tl_xb hx (br_t rfl (tl_yb0 hx (br_f (by decide) ⟨rfl, J⟩)))
  · refine tl_xg hj hrr (br_f (by decide) ?_)
    by_cases k1 : v2 < 0
    · exact br_t k1 (tl_yg hj hrr (br_t rfl (br_t k1 ⟨rfl, J⟩)))
    · refine br_f k1 ?_
      by_cases k2 : v2 ≤ 5
      · obtain ⟨kk, hkk, rfl⟩ := nI_of2 (n := 5) (by decide) k1 k2
        refine br_t k2 ?_
        rcases tl_ix3 v3 (n := 8) (by omega) with hc | ⟨cc, hcc, rfl⟩
        · refine tl_xcb0 hc (br_t rfl (tl_yg hj hrr (br_t rfl (br_f k1 (br_t k2 ?_)))))
          by_cases c1 : v3 < 0
          · exact br_t c1 ⟨rfl, J⟩
          · rcases hc with a | a
            · exact absurd a c1
            · exact br_f c1 (br_f (tl_87 a) ⟨rfl, J⟩)
        · have c1 : ¬ nI cc < 0 := nI_pos (by omega)
          have c2 : nI cc ≤ 7 := nI_le (b := 7) (by omega) (by omega)
          refine tl_xcg hcc (br_f (by decide) ?_)
          by_cases w1 : W < 48
          · have w2 : nI W < 48 := nI_lt (b := 48) w1 (by omega)
            have ij : vp_in (nI j) 4 := vp_in_nI (by omega) (by omega)
            have iW : vp_in (nI W) 48 := vp_in_nI (by omega) (by omega)
            refine br_t w2 ?_
            rw [nI_clamp (n := j) (by omega), nI_clamp (n := W) (by omega)]
            refine ⟨ij, ij, nm_e ⟨iW, nm_e ⟨ij, iW, nm_e ⟨iW, nm_e ⟨iW, nm_e ⟨iW, nm_e ⟨iW, nm_e ?_⟩⟩⟩⟩⟩⟩⟩
            unfold wpX_insertByStamp
            dsimp only
            refine ⟨W + 1, tl_xib (b := b) w1 G.2.2.1.2.1 ?_ W bys (Nat.le_refl W) (fun i hi => G.2.2.1.1 i hi) (fun i h1 h2 => absurd h1 (by omega)) (fun i h1 h2 => absurd h1 (by omega))⟩
            intro a bb ha hbb hl hr
            dsimp only
            refine nm_r (nI_1 W) ⟨ij, ij, nm_e ?_⟩
            refine tl_yg hj hrr (br_t rfl (br_f k1 (br_t k2 (br_f c1 (br_t c2 (br_t w2 ?_))))))
            rw [tl_ix, nI_clamp (n := j * 48 + W) (by omega), tl_nb]
            refine nm_r (nI_1 W) ⟨ij, ij, nm_e ⟨iW, nm_e ⟨ij, iW, nm_e ⟨iW, nm_e ⟨iW, nm_e ⟨iW, nm_e ⟨vp_in_nI (by omega) (by omega), nm_e ⟨rfl, ?_⟩⟩⟩⟩⟩⟩⟩⟩
            exact tl_vcw G hj hkk hcc w1 v4 ha hbb hl hr
          · have w2 : ¬ nI W < 48 := nI_nlt (b := 48) (by omega) (by omega)
            exact br_f w2 (tl_yg hj hrr (br_t rfl (br_f k1 (br_t k2 (br_f c1 (br_t c2 (br_f w2 ⟨rfl, J⟩)))))))
      · exact br_f k2 (tl_yg hj hrr (br_t rfl (br_f k1 (br_f k2 ⟨rfl, J⟩))))
theorem tl_M_br {c f g : Nat} {m : Nat → Nat} {cms : Nat → Int32} (h : tl_M c m cms) (hf : f < 4) (hg : g < 4) (hc : c ≤ 48) : tl_M c (fun r => if r = g then (if m f ≤ m g then m g else m f) else m r) (upd cms g (tl_mx cms f g)) := by
  obtain ⟨h0, h1⟩ := h
  obtain ⟨f1, f2⟩ := h1 f hf
  obtain ⟨g1, g2⟩ := h1 g hg
  have e : tl_mx cms f g = nI (if m f ≤ m g then m g else m f) := by
    unfold tl_mx
    rw [f1, g1]
    by_cases q : m f ≤ m g
    · rw [if_pos q, if_pos (nI_le q (by omega))]
    · rw [if_neg q, if_neg (nI_ge (by omega) (by omega))]
  refine ⟨?_, fun r hr => ?_⟩
  · dsimp only
    split
    · rename_i q
      subst q
      split <;> omega
    · exact h0
  · dsimp only
    by_cases q : r = g
    · rw [q, pk_us, if_pos rfl]
      refine ⟨e, ?_⟩
      split <;> omega
    · rw [pk_un q, if_neg q]
      exact h1 r hr
theorem i_vc_bring {k : Nat} {u : SX} {v : SY} (I : i_Rel k u v) (hk : k + 5 ≤ 2561) (v1 : Int32) (v2 : Int32) : wpX_bring (fun r u' => wpY_bring (fun r' v' => r' = r ∧ i_Rel (k + 5) u' v') v v1 v2) u v1 v2 := by
  have J : i_Rel (k + 5) u v := I
  obtain ⟨rr, W, c, b, od, p, m, org, stp, knd, tgt, val, plc, bys, ord, sts, cms, clk, trm, stx, oux, kno, sty, sny, rfl, rfl, ⟨⟨hrr, hW⟩, hV, ⟨hB, hS⟩, hP, hK, hM, hX, hY, hN⟩⟩ := I
  have hc := tl_P_le hP
  unfold wpX_bring wpY_bring
  dsimp only
  rcases tl_ix3 v1 (n := rr) (by omega) with hx | ⟨f, hf, rfl⟩
  · exact tl_xb hx (br_t rfl (tl_yb0 hx (br_f (by decide) ⟨rfl, J⟩)))
  · refine tl_xg hf hrr (br_f (by decide) ?_)
    rcases tl_ix3 v2 (n := rr) (by omega) with hx | ⟨g, hg, rfl⟩
    · exact tl_xb hx (br_t rfl (tl_yg hf hrr (br_t rfl (tl_yb0 hx (br_f (by decide) ⟨rfl, J⟩)))))
    · refine tl_xg hg hrr (br_f (by decide) ?_)
      by_cases e : f = g
      · subst e
        exact br_t rfl (tl_yg hf hrr (br_t rfl (tl_yg hf hrr (br_t rfl (br_t rfl ⟨rfl, J⟩)))))
      · have e2 : ¬ nI f = nI g := by rw [nI_eq (by omega) (by omega)]; exact e
        have jf : vp_in (nI f) 4 := vp_in_nI (by omega) (by omega)
        have jg : vp_in (nI g) 4 := vp_in_nI (by omega) (by omega)
        refine br_f e2 ?_
        rw [nI_clamp (n := f) (by omega), nI_clamp (n := g) (by omega)]
        refine ⟨jf, jg, nm_e ⟨jg, jg, nm_e ⟨jf, jg, tl_xlg ⟨jg, nm_e ⟨jf, jg, tl_xlg ⟨jg, nm_e (tl_xsize ?_)⟩⟩⟩⟩⟩⟩
        refine tl_yg hf hrr (br_t rfl (tl_yg hg hrr (br_t rfl (br_f e2 ⟨W + 1, ?_⟩))))
        refine tl_yb (kno := kno) (q1 := tl_kb (sts f)) (q2 := tl_kb (sts g)) (by omega) (by omega) e hW ?_ ?_ ?_ W 0 kno (by omega) ?_
        · intro w hw
          rw [(hK f (by omega) w (by omega)).1]
          cases tl_kb (sts f) w <;> simp
        · intro w hw
          rw [(hK g (by omega) w (by omega)).1]
          cases tl_kb (sts g) w <;> simp
        · intro kk hkk
          refine ⟨?_, ?_⟩
          · congr 1
            have e3 := tl_cn_no (p := tl_kb (sts f &&& (sts g ^^^ (-1)))) (48 - W) W (fun w h1 h2 => by rw [tl_kb_an (by omega), (hK f (by omega) w (by omega)).2 h1]; rfl)
            rw [show W + (48 - W) = 48 by omega] at e3
            rw [e3]
            exact tl_cn_cg W (fun w hw => (tl_kb_an (by omega)).symm)
          · refine ⟨rr, W, c, b, od, p, _, org, stp, knd, tgt, val, plc, bys, ord, vp_updL sts g (sts g ||| (sts f &&& (sts g ^^^ (-1)))), _, upd clk g (tl_mx clk f g), trm, stx, oux, kk, sty, sny, rfl, rfl, ⟨⟨hrr, hW⟩, hV, ⟨hB, hS⟩, hP, ?_, tl_M_br hM (by omega) (by omega) (by omega), hX, hY, hN⟩⟩
            intro r hr w hw
            have hkr := hkk r hr w hw
            obtain ⟨k1, k2⟩ := hK r hr w hw
            obtain ⟨f1, f2⟩ := hK f (by omega) w hw
            rw [hkr]
            by_cases er : r = g
            · subst er
              rw [pk_uLs, tl_kb_or, tl_kb_an (by omega), k1, f1]
              by_cases hw2 : w < W
              · refine ⟨?_, fun q => absurd q (by omega)⟩
                cases tl_kb (sts f) w <;> cases tl_kb (sts r) w <;> simp [hw2]
              · rw [k2 (by omega), f2 (by omega)]
                simp
            · rw [pk_uLn er]
              refine ⟨?_, k2⟩
              rw [k1]
              exact ⟨fun q => q.1, fun q => ⟨q, fun z => er z.1⟩⟩
        · intro r hr w hw
          exact ⟨fun q => ⟨q, fun z => absurd z.2.1 (by omega)⟩, fun q => q.1⟩
