/-! ===== bring's loop; commit, both walks ===== -/
abbrev tl_mx (f : Nat → Int32) (a g : Nat) : Int32 := if f a ≤ f g then f g else f a
def tl_cd (b : Nat → Nat) (t : Nat → Bool) (n : Int32) : Nat → Nat
  | 0 => 0
  | i + 1 => if t (b i) = true ∧ ¬ n ≤ nI (tl_cd b t n i) then tl_cd b t n i + 1 else tl_cd b t n i
def tl_cp (b : Nat → Nat) (t : Nat → Bool) (n : Int32) (c : Nat) (plc : Nat → Int32) : Nat → Nat → Int32
  | 0 => plc
  | i + 1 => if t (b i) = true ∧ ¬ n ≤ nI (tl_cd b t n i) then upd (tl_cp b t n c plc i) (b i) (nI (c + tl_cd b t n i)) else tl_cp b t n c plc i
def tl_co (b : Nat → Nat) (t : Nat → Bool) (n : Int32) (c : Nat) (ord : Nat → Int32) : Nat → Nat → Int32
  | 0 => ord
  | i + 1 => if t (b i) = true ∧ ¬ n ≤ nI (tl_cd b t n i) then upd (tl_co b t n c ord i) (c + tl_cd b t n i) (nI (b i)) else tl_co b t n c ord i
def tl_cy (b : Nat → Nat) (t : Nat → Bool) (n : Int32) (o0 : Nat → Int32) : Nat → Nat → Int32
  | 0 => o0
  | i + 1 => if t (b i) = true ∧ ¬ n ≤ nI (tl_cd b t n i) then upd (tl_cy b t n o0 i) (b i) 1 else tl_cy b t n o0 i
theorem tl_upu (f : Nat → Int32) (k : Nat) (x y : Int32) : upd (upd f k x) k y = upd f k y := by
  funext j
  by_cases e : j = k
  · subst e; rw [pk_us, pk_us]
  · rw [pk_un e, pk_un e, pk_un e]
section
variable {xR xW yC : Int32} {org stp knd tgt val plc bys ord cms clk trm stx oux kno sty sny : Nat → Int32} {sts : Nat → Int64}
theorem tl_yb119 {post : Int32 → SY → Prop} {f g : Nat} {x3 : Int32} (hf : f < 4) (hg : g < 4) (h : post x3 (xR, xW, yC, org, stp, knd, tgt, val, kno, ord, cms, upd clk g (tl_mx clk f g), trm, sty, sny)) : wY_bring_119 post (nI f) (nI g) x3 xR xW yC org stp knd tgt val kno ord cms clk trm sty sny := by
  have jf : vp_in (nI f) 4 := vp_in_nI hf (by omega)
  have jg : vp_in (nI g) 4 := vp_in_nI hg (by omega)
  unfold wY_bring_119
  rw [nI_clamp (n := f) (by omega), nI_clamp (n := g) (by omega)]
  refine ⟨jf, jg, ?_⟩
  unfold tl_mx at h
  by_cases c : clk f ≤ clk g
  · rw [if_pos c, tl_ups] at h; exact br_t c h
  · rw [if_neg c] at h; exact br_f c ⟨jf, jg, nm_e h⟩
theorem tl_yb {post : Int32 → SY → Prop} {f g W : Nat} {q1 q2 : Nat → Bool} (hf : f < 4) (hg : g < 4) (hne : f ≠ g) (hW : W ≤ 48) (h1 : ∀ w, w < W → (q1 w = true ↔ ¬ kno (f * 48 + w) = 0)) (h2 : ∀ w, w < W → (q2 w = true ↔ ¬ kno (g * 48 + w) = 0))
    (h : ∀ kk : Nat → Int32, (∀ r, r < 4 → ∀ w, w < 48 → (kk (r * 48 + w) = 0 ↔ (kno (r * 48 + w) = 0 ∧ ¬ (r = g ∧ w < W ∧ ¬ kno (f * 48 + w) = 0)))) → post (nI (tl_cn (fun w => q1 w && !q2 w) W)) (xR, nI W, yC, org, stp, knd, tgt, val, kk, ord, upd cms g (tl_mx cms f g), upd clk g (tl_mx clk f g), trm, sty, sny)) :
    ∀ d i kk, i + d = W → (∀ r, r < 4 → ∀ w, w < 48 → (kk (r * 48 + w) = 0 ↔ (kno (r * 48 + w) = 0 ∧ ¬ (r = g ∧ w < i ∧ ¬ kno (f * 48 + w) = 0)))) → wY_bring_31 post (nI f) (nI g) xR (nI W) yC (d + 1) (nI (tl_cn (fun w => q1 w && !q2 w) i)) (nI i) org stp knd tgt val kk ord cms clk trm sty sny := by
  have jf : vp_in (nI f) 4 := vp_in_nI hf (by omega)
  have jg : vp_in (nI g) 4 := vp_in_nI hg (by omega)
  intro d
  induction d with
  | zero =>
    intro i kk hi hk
    have e : i = W := by omega
    subst e
    have h' := h kk hk
    refine br_t (nI_le (by omega) (by omega)) ?_
    rw [nI_clamp (n := f) (by omega), nI_clamp (n := g) (by omega)]
    refine ⟨jf, jg, ?_⟩
    by_cases c : cms f ≤ cms g
    · rw [show tl_mx cms f g = cms g from if_pos c, tl_ups] at h'
      exact br_t c (tl_yb119 hf hg h')
    · rw [show tl_mx cms f g = cms f from if_neg c] at h'
      exact br_f c ⟨jf, jg, nm_e (tl_yb119 hf hg h')⟩
  | succ d ih =>
    intro i kk hi hk
    have kf := hk f hf i (by omega)
    have kg := hk g hg i (by omega)
    have h1i := h1 i (by omega)
    have h2i := h2 i (by omega)
    refine br_f (nI_ge (by omega) (by omega)) ?_
    rw [tl_ix, tl_ix, nI_clamp (n := f * 48 + i) (by omega), nI_clamp (n := g * 48 + i) (by omega)]
    refine ⟨vp_in_nI (by omega) (by omega), ?_⟩
    by_cases z : kk (f * 48 + i) = 0
    · have z1 : kno (f * 48 + i) = 0 := (kf.mp z).1
      have ih' := ih (i + 1) kk (by omega) (fun r hr w hw => by
        rw [hk r hr w hw]
        constructor
        · rintro ⟨a, c⟩
          refine ⟨a, fun ⟨x, y, u⟩ => c ⟨x, ?_, u⟩⟩
          by_cases e : w = i
          · subst e; exact absurd z1 u
          · omega
        · rintro ⟨a, c⟩
          exact ⟨a, fun ⟨x, y, u⟩ => c ⟨x, by omega, u⟩⟩)
      unfold tl_cn at ih'
      rw [if_neg (by simp [ts_nt (fun q => h1i.mp q z1)])] at ih'
      exact br_t z (nm_r (nI_1 i) ih')
    · have z1 : ¬ kno (f * 48 + i) = 0 := fun q => z (kf.mpr ⟨q, fun ⟨x, _⟩ => hne x⟩)
      refine br_f z ⟨vp_in_nI (by omega) (by omega), ?_⟩
      by_cases y : kk (g * 48 + i) = 0
      · have y1 : kno (g * 48 + i) = 0 := (kg.mp y).1
        have ih' := ih (i + 1) (upd kk (g * 48 + i) 1) (by omega) (fun r hr w hw => by
          by_cases e : r * 48 + w = g * 48 + i
          · have er : r = g := by omega
            have ew : w = i := by omega
            subst er ew
            rw [pk_us]
            constructor
            · intro a; exact absurd a (by decide)
            · rintro ⟨_, c⟩
              exact absurd ⟨rfl, by omega, z1⟩ c
          · rw [pk_un e, hk r hr w hw]
            constructor
            · rintro ⟨a, c⟩
              refine ⟨a, fun ⟨x, y, u⟩ => c ⟨x, ?_, u⟩⟩
              have : w ≠ i := fun e2 => e (by rw [x, e2])
              omega
            · rintro ⟨a, c⟩
              exact ⟨a, fun ⟨x, y, u⟩ => c ⟨x, by omega, u⟩⟩)
        unfold tl_cn at ih'
        rw [if_pos (by simp [h1i.mpr z1, ts_nt (fun q => h2i.mp q y1)])] at ih'
        rw [tl_nb]
        exact br_t y ⟨vp_in_nI (by omega) (by omega), nm_e (nm_r (nI_1 _) (nm_r (nI_1 i) ih'))⟩
      · have y1 : ¬ kno (g * 48 + i) = 0 := fun q => y (kg.mpr ⟨q, fun ⟨_, x, _⟩ => by omega⟩)
        have ih' := ih (i + 1) kk (by omega) (fun r hr w hw => by
          rw [hk r hr w hw]
          constructor
          · rintro ⟨a, c⟩
            refine ⟨a, fun ⟨x, y2, u⟩ => c ⟨x, ?_, u⟩⟩
            by_cases e : w = i
            · subst e x; exact absurd a y1
            · omega
          · rintro ⟨a, c⟩
            exact ⟨a, fun ⟨x, y, u⟩ => c ⟨x, by omega, u⟩⟩)
        unfold tl_cn at ih'
        rw [if_neg (by simp [h2i.mpr y1])] at ih'
        exact br_f y (nm_r (nI_1 i) ih')
/-! commit: facts of the pure pictures -/
theorem tl_cd_le (b : Nat → Nat) (t : Nat → Bool) (n : Int32) : ∀ i, tl_cd b t n i ≤ i := by
  intro i
  induction i with
  | zero => exact Nat.le_refl 0
  | succ i ih => unfold tl_cd; split <;> omega
theorem tl_stop {b : Nat → Nat} {t : Nat → Bool} {n : Int32} {c : Nat} {i : Nat} (h : n ≤ nI (tl_cd b t n i)) : ∀ d, tl_cd b t n (i + d) = tl_cd b t n i ∧ tl_cp b t n c plc (i + d) = tl_cp b t n c plc i ∧ tl_co b t n c ord (i + d) = tl_co b t n c ord i := by
  intro d
  induction d with
  | zero => exact ⟨rfl, rfl, rfl⟩
  | succ d ih =>
    obtain ⟨a1, a2, a3⟩ := ih
    have hn : ¬ (t (b (i + d)) = true ∧ ¬ n ≤ nI (tl_cd b t n (i + d))) := by rw [a1]; exact fun q => q.2 h
    refine ⟨?_, ?_, ?_⟩
    · show (if t (b (i + d)) = true ∧ ¬ n ≤ nI (tl_cd b t n (i + d)) then _ else _) = _
      rw [if_neg hn]; exact a1
    · show (if t (b (i + d)) = true ∧ ¬ n ≤ nI (tl_cd b t n (i + d)) then _ else _) = _
      rw [if_neg hn]; exact a2
    · show (if t (b (i + d)) = true ∧ ¬ n ≤ nI (tl_cd b t n (i + d)) then _ else _) = _
      rw [if_neg hn]; exact a3
theorem tl_cinv {W c : Nat} {od p b : Nat → Nat} {t : Nat → Bool} {n : Int32} (hW : W ≤ 48) (hs : tl_srt stp org W b) (hP : tl_P W c od p plc ord) (ht : ∀ w, w < W → t w = true → p w = 48) : ∀ i, i ≤ W → ∃ od' p', tl_P W (c + tl_cd b t n i) od' p' (tl_cp b t n c plc i) (tl_co b t n c ord i) ∧ ∀ w, w < W → (∀ j, j < i → b j ≠ w) → p' w = p w := by
  intro i
  induction i with
  | zero => intro _; exact ⟨od, p, hP, fun _ _ _ => rfl⟩
  | succ i ih =>
    intro hi
    obtain ⟨od', p', h1, h2⟩ := ih (by omega)
    unfold tl_cd tl_cp tl_co
    by_cases z : t (b i) = true ∧ ¬ n ≤ nI (tl_cd b t n i)
    · rw [if_pos z, if_pos z, if_pos z]
      have hbW := hs.1 i (by omega)
      have e : p' (b i) = 48 := by rw [h2 _ hbW (fun j hj => tl_srt_inj hs hj (by omega))]; exact ht _ hbW z.1
      refine ⟨_, _, tl_P_com h1 hW hbW e, ?_⟩
      intro w hw hj
      rw [if_neg (fun q => hj i (by omega) q.symm)]
      exact h2 w hw (fun j h => hj j (by omega))
    · rw [if_neg z, if_neg z, if_neg z]
      exact ⟨od', p', h1, fun w hw hj => h2 w hw (fun j h => hj j (by omega))⟩
theorem tl_cy_hi {b : Nat → Nat} {t : Nat → Bool} {n : Int32} {o0 : Nat → Int32} {w : Nat} : ∀ i, (∀ j, j < i → t (b j) = true → b j ≠ w) → tl_cy b t n o0 i w = o0 w := by
  intro i
  induction i with
  | zero => intro _; rfl
  | succ i ih =>
    intro hj
    unfold tl_cy
    by_cases z : t (b i) = true ∧ ¬ n ≤ nI (tl_cd b t n i)
    · rw [if_pos z, pk_un (fun q => hj i (by omega) z.1 q.symm)]
      exact ih (fun j h => hj j (by omega))
    · rw [if_neg z]
      exact ih (fun j h => hj j (by omega))
theorem tl_cy_lo {b : Nat → Nat} {t : Nat → Bool} {n : Int32} {o0 : Nat → Int32} {j : Nat} (htj : t (b j) = true) : ∀ i, i ≤ 48 → j < i → ¬ n ≤ nI (tl_cd b t n i) → tl_cy b t n o0 i (b j) = 1 := by
  intro i
  induction i with
  | zero => intro _ h; omega
  | succ i ih =>
    intro h48 hj hn
    have hle := tl_cd_le b t n i
    unfold tl_cy
    by_cases z : t (b i) = true ∧ ¬ n ≤ nI (tl_cd b t n i)
    · rw [if_pos z]
      by_cases e : b j = b i
      · rw [e, pk_us]
      · rw [pk_un e]
        exact ih (by omega) (by have : j ≠ i := fun q => e (by rw [q])
                                omega) z.2
    · rw [if_neg z]
      have e : tl_cd b t n (i + 1) = tl_cd b t n i := if_neg z
      rw [e] at hn
      refine ih (by omega) ?_ hn
      have : j ≠ i := fun q => z ⟨by rw [← q]; exact htj, hn⟩
      omega
theorem tl_xcm {post : Int32 → SX → Prop} {W c : Nat} {od p b : Nat → Nat} {t : Nat → Bool} {n : Int32} (hW : W ≤ 48) (hs : tl_srt stp org W b) (hb : ∀ i, i < W → bys i = nI (b i)) (hP : tl_P W c od p plc ord) (ht : ∀ w, w < W → t w = (tl_kb (sts 0) w && decide (p w = 48)))
    (h : post (nI (tl_cd b t n W)) (xR, nI W, org, stp, knd, tgt, val, tl_cp b t n c plc W, bys, tl_co b t n c ord W, sts, upd cms 0 (nI (c + tl_cd b t n W)), clk, trm, stx, oux)) : ∀ d i, i + d = W → wX_commit_4 post n (d + 1) (nI (tl_cd b t n i)) (nI i) xR (nI W) org stp knd tgt val (tl_cp b t n c plc i) bys (tl_co b t n c ord i) sts (upd cms 0 (nI (c + tl_cd b t n i))) clk trm stx oux := by
  have ht' : ∀ w, w < W → t w = true → p w = 48 := by
    intro w hw q
    rw [ht w hw] at q
    simp at q
    exact q.2
  intro d
  induction d with
  | zero =>
    intro i hi
    have e : i = W := by omega
    subst e
    exact br_t (nI_le (by omega) (by omega)) h
  | succ d ih =>
    intro i hi
    refine br_f (nI_ge (by omega) (by omega)) ?_
    by_cases z : n ≤ nI (tl_cd b t n i)
    · obtain ⟨a1, a2, a3⟩ := tl_stop (plc := plc) (ord := ord) (c := c) z (d + 1)
      rw [hi] at a1 a2 a3
      rw [a1, a2, a3] at h
      exact br_t z h
    · have hbW := hs.1 i (by omega)
      obtain ⟨od', p', P1, P2⟩ := tl_cinv (n := n) hW hs hP ht' i (by omega)
      have hle := tl_P_le P1
      have ep : p' (b i) = p (b i) := P2 _ hbW (fun j hj => tl_srt_inj hs hj (by omega))
      have P3 := P1.1 _ hbW
      rw [ep] at P3
      have q48 : p (b i) = 48 ∨ p (b i) < c := by
        rcases (hP.1 _ hbW).2 with a | a
        · exact Or.inl a
        · exact Or.inr a.1
      refine br_f z ⟨vp_in_nI (by omega) (by omega), nm_r (e' := nI (b i)) (by rw [nI_clamp (by omega)]; exact hb i (by omega)) ?_⟩
      refine tl_xten (r := 0) (t := t (b i)) (by omega) (by omega) (M := c + tl_cd b t n i) pk_us (by omega) P3.1 (by omega) ?_ ?_
      · rw [ht _ hbW]
        congr 1
        by_cases e : p (b i) = 48
        · rw [decide_eq_true e, decide_eq_true (by omega)]
        · rw [decide_eq_false e, decide_eq_false (by omega)]
      · have ih' := ih (i + 1) (by omega)
        unfold tl_cd tl_cp tl_co at ih'
        by_cases y : t (b i) = true
        · rw [if_pos ⟨y, z⟩, if_pos ⟨y, z⟩, if_pos ⟨y, z⟩] at ih'
          have hlt := tl_P_lt P1 hbW (by rw [ep]; exact ht' _ hbW y)
          rw [if_pos y]
          refine br_f (by decide) ?_
          unfold wpX_appendToOrder
          dsimp only
          refine nm_r (e' := nI (c + tl_cd b t n i)) pk_us ⟨vp_in_nI (by omega) (by omega), ?_⟩
          rw [nI_clamp (n := c + tl_cd b t n i) (by omega), nI_clamp (n := b i) (by omega)]
          refine nm_e ⟨vp_in_nI (by omega) (by omega), nm_e (nm_r (e' := upd cms 0 (nI (c + (tl_cd b t n i + 1)))) ?_ ?_)⟩
          · rw [tl_upu, nI_1]; rfl
          · exact nm_r (nI_1 _) (nm_r (nI_1 i) ih')
        · rw [if_neg (fun q => y q.1), if_neg (fun q => y q.1), if_neg (fun q => y q.1)] at ih'
          rw [if_neg y]
          exact br_t rfl (nm_r (nI_1 i) ih')
theorem tl_yci {post : Int32 → SY → Prop} {W k0 : Nat} {n x2 : Int32} (hW : W ≤ 48) (hid : n ≤ nI k0 ∨ ∀ w, w < W → ¬ (¬ kno (0 * 48 + w) = 0 ∧ sny w = 0)) (h : post x2 (xR, nI W, yC, org, stp, knd, tgt, val, kno, ord, upd cms 0 yC, clk, trm, sty, sny)) : ∀ d k m, k + d = 48 → k0 ≤ k → d < m → wY_commit_10 post n xR (nI W) m x2 (nI k) yC org stp knd tgt val kno ord cms clk trm sty sny := by
  intro d
  induction d with
  | zero =>
    intro k m hk _ hm
    obtain ⟨m, rfl⟩ : ∃ q, m = q + 1 := ⟨m - 1, by omega⟩
    exact br_t (nI_le (a := 48) (by omega) (by omega)) (nm_e h)
  | succ d ih =>
    intro k m hk hk0 hm
    obtain ⟨m, rfl⟩ : ∃ q, m = q + 1 := ⟨m - 1, by omega⟩
    have ih' := ih (k + 1) m (by omega) (by omega) (by omega)
    refine br_f (nI_ge (b := 48) (by omega) (by decide)) (tl_yfl (r := 0) (l := fun w => decide (¬ kno (0 * 48 + w) = 0 ∧ sny w = 0)) (by omega) hW (fun w _ => by simp) ?_)
    by_cases z : n ≤ nI k
    · exact br_t z (nm_r (nI_1 k) ih')
    · refine br_f z ?_
      rcases hid with c | c
      · exact absurd (Int32.le_trans c (nI_le hk0 (by omega))) z
      · rw [tl_fl_no (fun w hw => decide_eq_false (c w hw))]
        exact br_t (by decide) (nm_r (nI_1 k) ih')
theorem tl_ycm {post : Int32 → SY → Prop} {W c : Nat} {od p b : Nat → Nat} {t : Nat → Bool} {n : Int32} {o0 : Nat → Int32} (hW : W ≤ 48) (hs : tl_srt stp org W b) (hP : tl_P W c od p plc ord) (ht' : ∀ w, w < W → t w = true → p w = 48) (h0 : ∀ w, w < W → (t w = true ↔ (¬ kno (0 * 48 + w) = 0 ∧ o0 w = 0)))
    (h : post (nI (tl_cd b t n W)) (xR, nI W, nI (c + tl_cd b t n W), org, stp, knd, tgt, val, kno, tl_co b t n c ord W, upd cms 0 (nI (c + tl_cd b t n W)), clk, trm, sty, tl_cy b t n o0 W)) : ∀ d i m, i + d = W → 48 - tl_cd b t n i < m → wY_commit_10 post n xR (nI W) m (nI (tl_cd b t n i)) (nI (tl_cd b t n i)) (nI (c + tl_cd b t n i)) org stp knd tgt val kno (tl_co b t n c ord i) cms clk trm sty (tl_cy b t n o0 i) := by
  have left : ∀ i j, i ≤ W → j < W → ¬ n ≤ nI (tl_cd b t n i) → (¬ kno (0 * 48 + b j) = 0 ∧ tl_cy b t n o0 i (b j) = 0) → i ≤ j ∧ t (b j) = true := by
    intro i j hi hj hn q
    by_cases z : t (b j) = true
    · refine ⟨?_, z⟩
      by_cases c : j < i
      · have := tl_cy_lo (o0 := o0) z i (by omega) c hn
        rw [q.2] at this
        exact absurd this (by decide)
      · omega
    · rw [tl_cy_hi i (fun x _ hx e => z (by rw [← e]; exact hx))] at q
      exact absurd ((h0 _ (hs.1 j hj)).mpr q) z
  intro d
  induction d with
  | zero =>
    intro i m hi hm
    have e : i = W := by omega
    subst e
    have hle := tl_cd_le b t n i
    refine tl_yci (k0 := tl_cd b t n i) hW ?_ h (48 - tl_cd b t n i) _ m (by omega) (Nat.le_refl _) hm
    by_cases z : n ≤ nI (tl_cd b t n i)
    · exact Or.inl z
    · refine Or.inr (fun w hw q => ?_)
      obtain ⟨j, hj, rfl⟩ := hs.2.2 w hw
      have := left i j (by omega) hj z q
      omega
  | succ d ih =>
    intro i m hi hm
    have hle := tl_cd_le b t n i
    have ih' := ih (i + 1)
    unfold tl_cd tl_co tl_cy at ih'
    by_cases z : t (b i) = true ∧ ¬ n ≤ nI (tl_cd b t n i)
    · rw [if_pos z, if_pos z, if_pos z] at ih'
      obtain ⟨m, rfl⟩ : ∃ q, m = q + 1 := ⟨m - 1, by omega⟩
      have hbW := hs.1 i (by omega)
      obtain ⟨od', p', P1, P2⟩ := tl_cinv (n := n) hW hs hP ht' i (by omega)
      have ep : p' (b i) = p (b i) := P2 _ hbW (fun j hj => tl_srt_inj hs hj (by omega))
      have hlt := tl_P_lt P1 hbW (by rw [ep]; exact ht' _ hbW z.1)
      refine br_f (nI_ge (b := 48) (by omega) (by decide)) (tl_yfl (r := 0) (l := fun w => decide (¬ kno (0 * 48 + w) = 0 ∧ tl_cy b t n o0 i w = 0)) (by omega) hW (fun w _ => by simp) ?_)
      rw [tl_fl_eq hs (i := i) (by omega) ?_ ?_]
      · refine br_f z.2 (br_f (nI_pos (by omega)) (br_f (nI_ge (b := 48) (by omega) (by decide)) ⟨vp_in_nI (by omega) (by omega), ?_⟩))
        show ∀ y, y = upd (tl_co b t n c ord i) (nI (c + tl_cd b t n i)).toNatClampNeg (nI (b i)) → vp_in (nI (b i)) 48 ∧ ∀ y2, y2 = upd (tl_cy b t n o0 i) (nI (b i)).toNatClampNeg 1 → _
        rw [nI_clamp (n := c + tl_cd b t n i) (by omega), nI_clamp (n := b i) (by omega)]
        exact nm_e ⟨vp_in_nI (by omega) (by omega), nm_e (nm_r (nI_1 _) (nm_r (nI_1 _) (nm_r (nI_1 _) (ih' m (by omega) (by omega)))))⟩
      · refine decide_eq_true ?_
        rw [tl_cy_hi i (fun j hj _ => tl_srt_inj hs hj (by omega))]
        exact (h0 _ hbW).mp z.1
      · intro j hj
        refine decide_eq_false (fun q => ?_)
        have := left i j (by omega) (by omega) z.2 q
        omega
    · rw [if_neg z, if_neg z, if_neg z] at ih'
      exact ih' m (by omega) hm
end
