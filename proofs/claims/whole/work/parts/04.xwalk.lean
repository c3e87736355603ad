/-! ===== the component's walks against the pure pictures ===== -/
def tl_V (W : Nat) (knd tgt : Nat → Int32) : Prop := ∀ w, w < W → (∃ c, c < 8 ∧ tgt w = nI c) ∧ (∃ k, k ≤ 5 ∧ knd w = nI k)
def tl_rw (tgt knd val : Nat → Int32) (w : Nat) (st : Nat → Int32) : Int32 × (Nat → Int32) := tl_run (tgt w).toNatClampNeg (knd w).toNatClampNeg (val w) st
def tl_cs (tgt knd val : Nat → Int32) (od : Nat → Nat) : Nat → Nat → Int32
  | 0 => fun _ => 0
  | i + 1 => (tl_rw tgt knd val (od i) (tl_cs tgt knd val od i)).2
def tl_ts (tgt knd val : Nat → Int32) (b : Nat → Nat) (t : Nat → Bool) (s0 : Nat → Int32) : Nat → Nat → Int32
  | 0 => s0
  | i + 1 => if t (b i) = true then (tl_rw tgt knd val (b i) (tl_ts tgt knd val b t s0 i)).2 else tl_ts tgt knd val b t s0 i
def tl_to (tgt knd val : Nat → Int32) (b : Nat → Nat) (t : Nat → Bool) (s0 o0 : Nat → Int32) : Nat → Nat → Int32
  | 0 => o0
  | i + 1 => if t (b i) = true then upd (tl_to tgt knd val b t s0 o0 i) (b i) (tl_rw tgt knd val (b i) (tl_ts tgt knd val b t s0 i)).1 else tl_to tgt knd val b t s0 o0 i
section
variable {xR xW yC : Int32} {org stp knd tgt val plc bys ord cms clk trm stx oux kno sty sny : Nat → Int32} {sts : Nat → Int64}
theorem tl_rw_hi {W w : Nat} {st : Nat → Int32} (hV : tl_V W knd tgt) (hw : w < W) (hs : ∀ j, 8 ≤ j → st j = 0) : ∀ j, 8 ≤ j → (tl_rw tgt knd val w st).2 j = 0 := by
  obtain ⟨⟨c, hc, ec⟩, k, hk, ek⟩ := hV w hw
  unfold tl_rw
  rw [ec, nI_clamp (by omega)]
  exact tl_run_hi _ _ hc hs
theorem tl_cs_hi {W M : Nat} {od : Nat → Nat} (hV : tl_V W knd tgt) (ho : ∀ i, i < M → od i < W) : ∀ i, i ≤ M → ∀ j, 8 ≤ j → tl_cs tgt knd val od i j = 0 := by
  intro i
  induction i with
  | zero => intro _ j _; rfl
  | succ i ih => intro hi; exact tl_rw_hi hV (ho i (by omega)) (ih (by omega))
theorem tl_ts_hi {W : Nat} {b : Nat → Nat} {t : Nat → Bool} {s0 : Nat → Int32} (hV : tl_V W knd tgt) (hb : ∀ i, i < W → b i < W) (hs : ∀ j, 8 ≤ j → s0 j = 0) : ∀ i, i ≤ W → ∀ j, 8 ≤ j → tl_ts tgt knd val b t s0 i j = 0 := by
  intro i
  induction i with
  | zero => intro _; exact hs
  | succ i ih =>
    intro hi
    unfold tl_ts
    split
    · exact tl_rw_hi hV (hb i (by omega)) (ih (by omega))
    · exact ih (by omega)
theorem tl_xrw {post : Int32 → SX → Prop} {W w : Nat} (hV : tl_V W knd tgt) (hW : W ≤ 48) (hw : w < W) (h : post (tl_rw tgt knd val w stx).1 (xR, xW, org, stp, knd, tgt, val, plc, bys, ord, sts, cms, clk, trm, (tl_rw tgt knd val w stx).2, oux)) : wpX_runWrite post (xR, xW, org, stp, knd, tgt, val, plc, bys, ord, sts, cms, clk, trm, stx, oux) (nI w) := by
  obtain ⟨⟨c, hc, ec⟩, k, hk, ek⟩ := hV w hw
  unfold tl_rw at h
  rw [ec, ek, nI_clamp (n := c) (by omega), nI_clamp (n := k) (by omega)] at h
  exact tl_xrun (by omega) hc hk ec ek h
theorem tl_xz {post : SX → Prop} {x1 : Int32} (h : ∃ n23, wX_runCommitted_23 post x1 n23 0 xR xW org stp knd tgt val plc bys ord sts cms clk trm ((fun _ => 0)) oux) : ∀ d i st, i + d = 8 → (∀ j, (j < i ∨ 8 ≤ j) → st j = 0) → wX_runCommitted_2 post x1 xR xW (d + 1) (nI i) org stp knd tgt val plc bys ord sts cms clk trm st oux := by
  intro d
  induction d with
  | zero =>
    intro i st hi hs
    have e : st = fun _ => 0 := funext fun j => hs j (by omega)
    subst e
    exact br_t (nI_le (a := 8) (by omega) (by omega)) h
  | succ d ih =>
    intro i st hi hs
    refine br_f (nI_ge (b := 8) (by omega) (by decide)) ⟨vp_in_nI (by omega) (by omega), nm_e (nm_r (nI_1 i) (ih (i + 1) _ (by omega) ?_))⟩
    intro j hj
    rw [nI_clamp (by omega)]
    by_cases e : j = i
    · subst e; exact pk_us
    · rw [pk_un e]; exact hs j (by omega)
theorem tl_xc {post : SX → Prop} {r M W : Nat} {od : Nat → Nat} (hr : r < 4) (hM : cms r = nI M) (hM48 : M ≤ 48) (hV : tl_V W knd tgt) (hW : W ≤ 48) (ho : ∀ i, i < M → ord i = nI (od i) ∧ od i < W) (h : post (xR, xW, org, stp, knd, tgt, val, plc, bys, ord, sts, cms, clk, trm, tl_cs tgt knd val od M, oux)) : ∀ d i, i + d = M → wX_runCommitted_23 post (nI r) (d + 1) (nI i) xR xW org stp knd tgt val plc bys ord sts cms clk trm (tl_cs tgt knd val od i) oux := by
  have hcr := nI_clamp (n := r) (by omega)
  intro d
  induction d with
  | zero =>
    intro i hi
    have e : i = M := by omega
    subst e
    refine ⟨vp_in_nI hr (by omega), ?_⟩
    rw [hcr, hM]
    exact br_t (nI_le (by omega) (by omega)) h
  | succ d ih =>
    intro i hi
    refine ⟨vp_in_nI hr (by omega), ?_⟩
    rw [hcr, hM, nI_clamp (n := i) (by omega), (ho i (by omega)).1]
    refine br_f (nI_ge (by omega) (by omega)) ⟨vp_in_nI (by omega) (by omega), ?_⟩
    refine tl_xrw hV hW (ho i (by omega)).2 ?_
    exact nm_r (nI_1 i) (ih (i + 1) (by omega))
theorem tl_xrc {post : SX → Prop} {r M W : Nat} {od : Nat → Nat} (hr : r < 4) (hM : cms r = nI M) (hM48 : M ≤ 48) (hV : tl_V W knd tgt) (hW : W ≤ 48) (ho : ∀ i, i < M → ord i = nI (od i) ∧ od i < W) (hs : ∀ j, 8 ≤ j → stx j = 0) (h : post (xR, xW, org, stp, knd, tgt, val, plc, bys, ord, sts, cms, clk, trm, tl_cs tgt knd val od M, oux)) : wpX_runCommitted post (xR, xW, org, stp, knd, tgt, val, plc, bys, ord, sts, cms, clk, trm, stx, oux) (nI r) := by
  unfold wpX_runCommitted
  dsimp only
  exact ⟨9, tl_xz ⟨M + 1, tl_xc hr hM hM48 hV hW ho h M 0 (by omega)⟩ 8 0 stx (by omega) (fun j hj => hs j (by omega))⟩
theorem tl_xis {post : Int32 → Prop} {r w : Nat} (hr : r < 4) (hw : w < 48) (h : post (if tl_kb (sts r) w = true then 1 else 0)) : wpX_isInSet post (xR, xW, org, stp, knd, tgt, val, plc, bys, ord, sts, cms, clk, trm, stx, oux) (nI r) (nI w) := by
  unfold wpX_isInSet
  dsimp only
  refine ⟨vp_in_nI hr (by omega), ?_⟩
  rw [nI_clamp (n := r) (by omega), tl_kb_t (by omega)]
  by_cases z : tl_kb (sts r) w = true
  · rw [if_pos z] at h; exact br_t z h
  · rw [if_neg z] at h; exact br_f z h
theorem tl_xten {post : Int32 → Prop} {r w M q : Nat} {t : Bool} (hr : r < 4) (hw : w < 48) (hM : cms r = nI M) (hM48 : M ≤ 48) (hq : plc w = nI q) (hq48 : q ≤ 48) (ht : t = (tl_kb (sts r) w && decide (M ≤ q))) (h : post (if t = true then 1 else 0)) : wpX_isTentative post (xR, xW, org, stp, knd, tgt, val, plc, bys, ord, sts, cms, clk, trm, stx, oux) (nI r) (nI w) := by
  unfold wpX_isTentative
  dsimp only
  refine tl_xis hr hw ?_
  by_cases z : tl_kb (sts r) w = true
  · rw [if_pos z]
    refine br_f (by decide) ⟨vp_in_nI hw (by omega), vp_in_nI hr (by omega), ?_⟩
    rw [nI_clamp (n := w) (by omega), nI_clamp (n := r) (by omega), hM, hq]
    by_cases c : M ≤ q
    · rw [ht, z, decide_eq_true c] at h
      exact br_f (nI_nlt c (by omega)) h
    · rw [ht, z, decide_eq_false c] at h
      exact br_t (nI_lt (by omega) (by omega)) h
  · rw [if_neg z]
    rw [ht, ts_nt z] at h
    exact br_t rfl h
theorem tl_xt {post : SX → Prop} {r M W : Nat} {b p : Nat → Nat} {t : Nat → Bool} (hr : r < 4) (hM : cms r = nI M) (hM48 : M ≤ 48) (hV : tl_V W knd tgt) (hW : W ≤ 48) (hb : ∀ i, i < W → bys i = nI (b i) ∧ b i < W) (hp : ∀ w, w < W → plc w = nI (p w) ∧ p w ≤ 48) (ht : ∀ w, w < W → t w = (tl_kb (sts r) w && decide (M ≤ p w))) (h : post (xR, nI W, org, stp, knd, tgt, val, plc, bys, ord, sts, cms, clk, trm, tl_ts tgt knd val b t stx W, tl_to tgt knd val b t stx oux W)) : ∀ d i, i + d = W → wX_runTentative_2 post (nI r) (d + 1) (nI i) xR (nI W) org stp knd tgt val plc bys ord sts cms clk trm (tl_ts tgt knd val b t stx i) (tl_to tgt knd val b t stx oux i) := by
  intro d
  induction d with
  | zero =>
    intro i hi
    have e : i = W := by omega
    subst e
    exact br_t (nI_le (by omega) (by omega)) h
  | succ d ih =>
    intro i hi
    obtain ⟨e1, hbW⟩ := hb i (by omega)
    refine br_f (nI_ge (by omega) (by omega)) ⟨vp_in_nI (by omega) (by omega), nm_r (e' := nI (b i)) (by rw [nI_clamp (by omega)]; exact e1) ?_⟩
    refine tl_xten (t := t (b i)) hr (by omega) hM hM48 (hp _ hbW).1 (hp _ hbW).2 (ht _ hbW) ?_
    have ih' := ih (i + 1) (by omega)
    unfold tl_ts tl_to at ih'
    by_cases z : t (b i) = true
    · rw [if_pos z, if_pos z] at ih'
      rw [if_pos z]
      refine br_f (by decide) (tl_xrw hV hW hbW ?_)
      refine ⟨vp_in_nI (by omega) (by omega), ?_⟩
      rw [nI_clamp (n := b i) (by omega)]
      exact nm_e (nm_r (nI_1 i) ih')
    · rw [if_neg z, if_neg z] at ih'
      rw [if_neg z]
      exact br_t rfl (nm_r (nI_1 i) ih')
theorem tl_xrt {post : SX → Prop} {r M W : Nat} {b p : Nat → Nat} {t : Nat → Bool} (hr : r < 4) (hM : cms r = nI M) (hM48 : M ≤ 48) (hV : tl_V W knd tgt) (hW : W ≤ 48) (hb : ∀ i, i < W → bys i = nI (b i) ∧ b i < W) (hp : ∀ w, w < W → plc w = nI (p w) ∧ p w ≤ 48) (ht : ∀ w, w < W → t w = (tl_kb (sts r) w && decide (M ≤ p w))) (h : post (xR, nI W, org, stp, knd, tgt, val, plc, bys, ord, sts, cms, clk, trm, tl_ts tgt knd val b t stx W, tl_to tgt knd val b t stx oux W)) : wpX_runTentative post (xR, nI W, org, stp, knd, tgt, val, plc, bys, ord, sts, cms, clk, trm, stx, oux) (nI r) := by
  unfold wpX_runTentative
  dsimp only
  exact ⟨W + 1, tl_xt hr hM hM48 hV hW hb hp ht h W 0 (by omega)⟩
theorem tl_xsz {post : Int32 → Prop} {s : Int64} (h : post (nI (tl_cn (tl_kb s) 48))) : ∀ d i, i + d = 48 → wX_sizeOf_4 post s (d + 1) (nI (tl_cn (tl_kb s) i)) (nI i) := by
  intro d
  induction d with
  | zero =>
    intro i hi
    have e : i = 48 := by omega
    subst e
    exact br_t (nI_le (a := 48) (by omega) (by omega)) h
  | succ d ih =>
    intro i hi
    refine br_f (nI_ge (b := 48) (by omega) (by decide)) ?_
    rw [tl_kb_t (by omega)]
    have ih' := ih (i + 1) (by omega)
    unfold tl_cn at ih'
    by_cases z : tl_kb s i = true
    · rw [if_pos z] at ih'
      exact br_t z (nm_r (nI_1 _) (nm_r (nI_1 i) ih'))
    · rw [if_neg z] at ih'
      exact br_f z (nm_r (nI_1 i) ih')
theorem tl_xsize {post : Int32 → Prop} {s : Int64} (h : post (nI (tl_cn (tl_kb s) 48))) : wpX_sizeOf post s := ⟨49, tl_xsz h 48 0 rfl⟩
theorem tl_xcb {post : Int32 → Prop} {a b : Nat} (ha : a < 48) (hb : b < 48) (h : post (if tl_be stp org a b then 1 else 0)) : wpX_comesBefore post (xR, xW, org, stp, knd, tgt, val, plc, bys, ord, sts, cms, clk, trm, stx, oux) (nI a) (nI b) := by
  have ia : vp_in (nI a) 48 := vp_in_nI ha (by omega)
  have ib : vp_in (nI b) 48 := vp_in_nI hb (by omega)
  unfold wpX_comesBefore
  dsimp only
  rw [nI_clamp (n := a) (by omega), nI_clamp (n := b) (by omega)]
  refine ⟨ia, ib, ?_⟩
  by_cases z : stp a = stp b
  · refine br_t z ⟨ia, ib, ?_⟩
    by_cases c : org b ≤ org a
    · rw [if_neg (by rw [Int32.le_iff_toInt_le] at c; unfold tl_be; rw [z]; omega)] at h
      exact br_t c h
    · rw [if_pos (by rw [Int32.le_iff_toInt_le] at c; unfold tl_be; rw [z]; omega)] at h
      exact br_f c h
  · have z' : (stp a).toInt ≠ (stp b).toInt := fun q => z (Int32.toInt_inj.mp q)
    refine br_f z ⟨ia, ib, ?_⟩
    by_cases c : stp b ≤ stp a
    · rw [if_neg (by rw [Int32.le_iff_toInt_le] at c; unfold tl_be; omega)] at h
      exact br_t c h
    · rw [if_pos (by rw [Int32.le_iff_toInt_le] at c; unfold tl_be; omega)] at h
      exact br_f c h
theorem tl_xib {post : SX → Prop} {W : Nat} {b : Nat → Nat} (hW : W < 48) (hb : ∀ i, i < W → b i < W) (h : ∀ a bb, a ≤ W → (∀ i, i < W + 1 → bb i = nI (tl_ins a W b i)) → (a = 0 ∨ ¬ tl_be stp org W (b (a - 1))) → (∀ j, a ≤ j → j < W → tl_be stp org W (b j)) → post (xR, xW, org, stp, knd, tgt, val, plc, bb, ord, sts, cms, clk, trm, stx, oux)) : ∀ a bb, a ≤ W → (∀ i, i < a → bb i = nI (b i)) → (∀ i, a < i → i < W + 1 → bb i = nI (b (i - 1))) → (∀ j, a ≤ j → j < W → tl_be stp org W (b j)) → wX_insertByStamp_5 post (nI W) xR xW (a + 1) (nI a) org stp knd tgt val plc bb ord sts cms clk trm stx oux := by
  have put : ∀ a bb, a ≤ W → (∀ i, i < a → bb i = nI (b i)) → (∀ i, a < i → i < W + 1 → bb i = nI (b (i - 1))) → (∀ i, i < W + 1 → upd bb (nI a).toNatClampNeg (nI W) i = nI (tl_ins a W b i)) := by
    intro a bb ha h1 h2 i hi
    rw [nI_clamp (by omega)]
    unfold tl_ins
    by_cases c1 : i < a
    · rw [if_pos c1, pk_un (by omega)]; exact h1 i c1
    · rw [if_neg c1]
      by_cases c2 : i = a
      · rw [if_pos c2, c2]; exact pk_us
      · rw [if_neg c2, pk_un c2]; exact h2 i (by omega) hi
  intro a
  induction a with
  | zero =>
    intro bb ha h1 h2 h3
    exact br_t (by decide) ⟨vp_in_nI (by omega) (by omega), nm_e (h 0 _ ha (put 0 bb ha h1 h2) (Or.inl rfl) h3)⟩
  | succ a ih =>
    intro bb ha h1 h2 h3
    have hba := hb a (by omega)
    refine br_f (nI_nle (by omega) (by omega)) ?_
    rw [nI_pred, nI_clamp (n := a) (by omega), h1 a (by omega)]
    refine ⟨vp_in_nI (by omega) (by omega), tl_xcb (by omega) (by omega) ?_⟩
    by_cases z : tl_be stp org W (b a)
    · rw [if_pos z]
      refine br_f (by decide) ⟨vp_in_nI (by omega) (by omega), vp_in_nI (by omega) (by omega), nm_e (nm_r (pk_m1 a) (ih _ (by omega) ?_ ?_ ?_))⟩
      · intro i hi
        rw [nI_clamp (by omega), pk_un (by omega)]; exact h1 i (by omega)
      · intro i hi hi2
        rw [nI_clamp (by omega)]
        by_cases c : i = a + 1
        · subst c; exact pk_us
        · rw [pk_un c]; exact h2 i (by omega) hi2
      · intro j hj hj2
        by_cases c : j = a
        · rw [c]; exact z
        · exact h3 j (by omega) hj2
    · rw [if_neg z]
      exact br_t rfl ⟨vp_in_nI (by omega) (by omega), nm_e (h (a + 1) _ ha (put (a + 1) bb ha h1 h2) (Or.inr z) h3)⟩
end
