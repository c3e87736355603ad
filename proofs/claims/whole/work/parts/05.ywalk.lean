/-! ===== the reference's walks against the pure pictures ===== -/
theorem tl_nb : vp_nar .boolean 1 = 1 := by decide
theorem tl_ups (f : Nat → Int32) (k : Nat) : upd f k (f k) = f := by
  funext j
  by_cases e : j = k
  · subst e; exact pk_us
  · exact pk_un e
theorem tl_ix {r w : Nat} : nI r * 48 + nI w = nI (r * 48 + w) := by
  show nI r * nI 48 + nI w = _
  rw [pk_mul, nI_add]
def tl_bv : Option Nat → Int32
  | none => -1
  | some x => nI x
def tl_sn (od : Nat → Nat) : Nat → Nat → Int32
  | 0 => fun _ => 0
  | i + 1 => upd (tl_sn od i) (od i) 1
section
variable {xR xW yC : Int32} {org stp knd tgt val plc bys ord cms clk trm stx oux kno sty sny : Nat → Int32} {sts : Nat → Int64}
theorem tl_yrw {post : Int32 → SY → Prop} {W w : Nat} (hV : tl_V W knd tgt) (hW : W ≤ 48) (hw : w < W) (h : post (tl_rw tgt knd val w sty).1 (xR, xW, yC, org, stp, knd, tgt, val, kno, ord, cms, clk, trm, (tl_rw tgt knd val w sty).2, sny)) : wpY_carryOut post (xR, xW, yC, org, stp, knd, tgt, val, kno, ord, cms, clk, trm, sty, sny) (nI w) := by
  obtain ⟨⟨c, hc, ec⟩, k, hk, ek⟩ := hV w hw
  unfold tl_rw at h
  rw [ec, ek, nI_clamp (n := c) (by omega), nI_clamp (n := k) (by omega)] at h
  exact tl_yrun (by omega) hc hk ec ek h
theorem tl_fl_t {s o : Nat → Int32} {l : Nat → Bool} {n b : Nat} (hl : l n = true) (hf : tl_fl s o l n = some b) : tl_fl s o l (n + 1) = if tl_be s o n b then some n else some b := by
  show (if l n = true then (match tl_fl s o l n with | none => some n | some b => if tl_be s o n b then some n else some b) else tl_fl s o l n) = _
  rw [if_pos hl, hf]
theorem tl_fl_n {s o : Nat → Int32} {l : Nat → Bool} {n : Nat} (hl : l n = true) (hf : tl_fl s o l n = none) : tl_fl s o l (n + 1) = some n := by
  show (if l n = true then (match tl_fl s o l n with | none => some n | some b => if tl_be s o n b then some n else some b) else tl_fl s o l n) = _
  rw [if_pos hl, hf]
theorem tl_fl_f {s o : Nat → Int32} {l : Nat → Bool} {n : Nat} (hl : ¬ l n = true) : tl_fl s o l (n + 1) = tl_fl s o l n := by
  show (if l n = true then (match tl_fl s o l n with | none => some n | some b => if tl_be s o n b then some n else some b) else tl_fl s o l n) = _
  rw [if_neg hl]
theorem tl_yf {post : Int32 → Prop} {r W : Nat} {l : Nat → Bool} (hr : r < 4) (hW : W ≤ 48) (hl : ∀ w, w < W → (l w = true ↔ (¬ kno (r * 48 + w) = 0 ∧ sny w = 0))) (h : post (tl_bv (tl_fl stp org l W))) : ∀ d i, i + d = W → wY_firstLeft_4 post (nI r) xR (nI W) yC org stp knd tgt val kno ord cms clk trm sty sny (d + 1) (tl_bv (tl_fl stp org l i)) (nI i) := by
  intro d
  induction d with
  | zero =>
    intro i hi
    have e : i = W := by omega
    subst e
    exact br_t (nI_le (by omega) (by omega)) h
  | succ d ih =>
    intro i hi
    have ih' := ih (i + 1) (by omega)
    have hli := hl i (by omega)
    have ii : vp_in (nI i) 48 := vp_in_nI (by omega) (by omega)
    refine br_f (nI_ge (by omega) (by omega)) ?_
    rw [tl_ix, nI_clamp (n := r * 48 + i) (by omega), nI_clamp (n := i) (by omega)]
    refine ⟨vp_in_nI (by omega) (by omega), ?_⟩
    by_cases z : kno (r * 48 + i) = 0
    · rw [tl_fl_f (by rw [hli]; exact fun q => q.1 z)] at ih'
      exact br_t z (nm_r (nI_1 i) ih')
    · refine br_f z ⟨ii, ?_⟩
      by_cases z2 : sny i = 0
      · have hlt : l i = true := hli.mpr ⟨z, z2⟩
        refine br_t z2 ?_
        cases hf : tl_fl stp org l i with
        | none =>
          rw [tl_fl_n hlt hf] at ih'
          exact br_t (by decide) (nm_r (nI_1 i) ih')
        | some b =>
          have hb := ((tl_fl_spec i).1 b hf).1
          rw [tl_fl_t hlt hf] at ih'
          have e2 : (tl_bv (some b)).toNatClampNeg = b := nI_clamp (by omega)
          have ib : vp_in (tl_bv (some b)) 48 := vp_in_nI (by omega) (by omega)
          rw [e2]
          refine br_f (show ¬ tl_bv (some b) < 0 from nI_pos (by omega)) ⟨ii, ib, ?_⟩
          by_cases c : stp i < stp b
          · rw [if_pos (by rw [Int32.lt_iff_toInt_lt] at c; exact Or.inl c)] at ih'
            exact br_t c (nm_r (nI_1 i) ih')
          · refine br_f c ⟨ii, ib, ?_⟩
            rw [Int32.lt_iff_toInt_lt] at c
            by_cases c2 : stp i = stp b
            · refine br_t c2 ⟨ii, ib, ?_⟩
              by_cases c3 : org b ≤ org i
              · rw [if_neg (by rw [Int32.le_iff_toInt_le] at c3; unfold tl_be; rw [c2]; omega)] at ih'
                exact br_t c3 (nm_r (nI_1 i) ih')
              · rw [if_pos (by rw [Int32.le_iff_toInt_le] at c3; unfold tl_be; rw [c2]; omega)] at ih'
                exact br_f c3 (nm_r (nI_1 i) ih')
            · have c2' : (stp i).toInt ≠ (stp b).toInt := fun q => c2 (Int32.toInt_inj.mp q)
              rw [if_neg (by unfold tl_be; omega)] at ih'
              exact br_f c2 (nm_r (nI_1 i) ih')
      · rw [tl_fl_f (by rw [hli]; exact fun q => z2 q.2)] at ih'
        exact br_f z2 (nm_r (nI_1 i) ih')
theorem tl_yfl {post : Int32 → Prop} {r W : Nat} {l : Nat → Bool} (hr : r < 4) (hW : W ≤ 48) (hl : ∀ w, w < W → (l w = true ↔ (¬ kno (r * 48 + w) = 0 ∧ sny w = 0))) (h : post (tl_bv (tl_fl stp org l W))) : wpY_firstLeft post (xR, nI W, yC, org, stp, knd, tgt, val, kno, ord, cms, clk, trm, sty, sny) (nI r) := by
  unfold wpY_firstLeft
  dsimp only
  exact ⟨W + 1, tl_yf hr hW hl h W 0 (by omega)⟩
theorem tl_yz {post : SY → Prop} {x1 x2 : Int32} (h : ∃ n23, wY_replay_23 post x1 x2 xR xW yC n23 0 org stp knd tgt val kno ord cms clk trm ((fun _ => 0)) sny) : ∀ d i st, i + d = 8 → (∀ j, (j < i ∨ 8 ≤ j) → st j = 0) → wY_replay_2 post x1 x2 xR xW yC (d + 1) (nI i) org stp knd tgt val kno ord cms clk trm st sny := by
  intro d
  induction d with
  | zero =>
    intro i st hi hs
    have e : st = fun _ => 0 := funext fun j => hs j (by omega)
    subst e
    exact br_t (nI_le (a := 8) (by omega) (by omega)) h
  | succ d ih =>
    intro i st hi hs
    refine br_f (nI_ge (b := 8) (by omega) (by decide)) ⟨vp_in_nI (by omega) (by omega), nm_e (nm_r (nI_1 i) (ih (i + 1) _ (by omega) ?_))⟩
    intro j hj
    rw [nI_clamp (by omega)]
    by_cases e : j = i
    · subst e; exact pk_us
    · rw [pk_un e]; exact hs j (by omega)
theorem tl_yz2 {post : SY → Prop} {x1 x2 : Int32} (h : ∃ n44, wY_replay_44 post x1 x2 n44 0 xR xW yC org stp knd tgt val kno ord cms clk trm sty ((fun _ => 0))) : ∀ d i st, i + d = 48 → (∀ j, (j < i ∨ 48 ≤ j) → st j = 0) → wY_replay_23 post x1 x2 xR xW yC (d + 1) (nI i) org stp knd tgt val kno ord cms clk trm sty st := by
  intro d
  induction d with
  | zero =>
    intro i st hi hs
    have e : st = fun _ => 0 := funext fun j => hs j (by omega)
    subst e
    exact br_t (nI_le (a := 48) (by omega) (by omega)) h
  | succ d ih =>
    intro i st hi hs
    refine br_f (nI_ge (b := 48) (by omega) (by decide)) ⟨vp_in_nI (by omega) (by omega), nm_e (nm_r (nI_1 i) (ih (i + 1) _ (by omega) ?_))⟩
    intro j hj
    rw [nI_clamp (by omega)]
    by_cases e : j = i
    · subst e; exact pk_us
    · rw [pk_un e]; exact hs j (by omega)
theorem tl_yc {post : SY → Prop} {x2 : Int32} {r M W : Nat} {od : Nat → Nat} (hr : r < 4) (hM : cms r = nI M) (hM48 : M ≤ 48) (hV : tl_V W knd tgt) (hW : W ≤ 48) (ho : ∀ i, i < M → ord i = nI (od i) ∧ od i < W) (h : ∃ n85, wY_replay_85 post (nI r) x2 n85 0 xR xW yC org stp knd tgt val kno ord cms clk trm (tl_cs tgt knd val od M) (tl_sn od M)) : ∀ d i, i + d = M → wY_replay_44 post (nI r) x2 (d + 1) (nI i) xR xW yC org stp knd tgt val kno ord cms clk trm (tl_cs tgt knd val od i) (tl_sn od i) := by
  have hcr := nI_clamp (n := r) (by omega)
  intro d
  induction d with
  | zero =>
    intro i hi
    have e : i = M := by omega
    subst e
    refine ⟨vp_in_nI hr (by omega), ?_⟩
    rw [hcr, hM]
    exact br_t (nI_le (by omega) (by omega)) h
  | succ d ih =>
    intro i hi
    obtain ⟨e1, h1⟩ := ho i (by omega)
    refine ⟨vp_in_nI hr (by omega), ?_⟩
    rw [hcr, hM, nI_clamp (n := i) (by omega), e1]
    refine br_f (nI_ge (by omega) (by omega)) ⟨vp_in_nI (by omega) (by omega), ?_⟩
    refine tl_yrw hV hW h1 ?_
    refine ⟨vp_in_nI (by omega) (by omega), ?_⟩
    rw [e1, nI_clamp (n := od i) (by omega)]
    exact ⟨vp_in_nI (by omega) (by omega), nm_e (nm_r (nI_1 i) (ih (i + 1) (by omega)))⟩
theorem tl_y0 {post : SY → Prop} {r W : Nat} (hr : r < 4) (hW : W ≤ 48) (h : post (xR, nI W, yC, org, stp, knd, tgt, val, kno, ord, cms, clk, trm, sty, sny)) : ∀ d i, i + d = W → wY_replay_85 post (nI r) 0 (d + 1) (nI i) xR (nI W) yC org stp knd tgt val kno ord cms clk trm sty sny := by
  intro d
  induction d with
  | zero =>
    intro i hi
    exact br_t (nI_le (by omega) (by omega)) h
  | succ d ih =>
    intro i hi
    refine br_f (nI_ge (by omega) (by omega)) (tl_yfl (l := fun w => decide (¬ kno (r * 48 + w) = 0 ∧ sny w = 0)) hr hW (fun w _ => by simp) ?_)
    exact br_t rfl (nm_r (nI_1 i) (ih (i + 1) (by omega)))
theorem tl_to_lo {W : Nat} {b : Nat → Nat} {t : Nat → Bool} {s0 o0 : Nat → Int32} {j : Nat} (htj : t (b j) = true) : ∀ i, j < i → tl_to tgt knd val b t s0 o0 i (b j) ≠ 0 := by
  intro i
  induction i with
  | zero => intro h; omega
  | succ i ih =>
    intro hj
    unfold tl_to
    by_cases z : t (b i) = true
    · rw [if_pos z]
      by_cases e : b j = b i
      · rw [e, pk_us]; exact tl_run_ne _ _ _ _
      · rw [pk_un e]
        exact ih (by have : j ≠ i := fun q => e (by rw [q])
                     omega)
    · rw [if_neg z]
      exact ih (by have : j ≠ i := fun q => z (by rw [← q]; exact htj)
                   omega)
theorem tl_to_hi {b : Nat → Nat} {t : Nat → Bool} {s0 o0 : Nat → Int32} {w : Nat} : ∀ i, (∀ j, j < i → t (b j) = true → b j ≠ w) → tl_to tgt knd val b t s0 o0 i w = o0 w := by
  intro i
  induction i with
  | zero => intro _; rfl
  | succ i ih =>
    intro hj
    unfold tl_to
    by_cases z : t (b i) = true
    · rw [if_pos z, pk_un (fun q => hj i (by omega) z q.symm)]
      exact ih (fun j h => hj j (by omega))
    · rw [if_neg z]
      exact ih (fun j h => hj j (by omega))
theorem tl_to_big {W : Nat} {b : Nat → Nat} {t : Nat → Bool} {s0 o0 : Nat → Int32} (hW : W ≤ 48) (hb : ∀ i, i < W → b i < W) (ho : ∀ j, 48 ≤ j → o0 j = 0) : ∀ j, 48 ≤ j → tl_to tgt knd val b t s0 o0 W j = 0 := by
  intro j hj
  rw [tl_to_hi W (fun i hi _ e => by have := hb i hi; omega)]
  exact ho j hj
theorem tl_to_eq {b : Nat → Nat} {t : Nat → Bool} {s0 o1 o2 : Nat → Int32} : ∀ i j, j < i → t (b j) = true → tl_to tgt knd val b t s0 o1 i (b j) = tl_to tgt knd val b t s0 o2 i (b j) := by
  intro i
  induction i with
  | zero => intro j h; omega
  | succ i ih =>
    intro j hj ht
    unfold tl_to
    by_cases z : t (b i) = true
    · rw [if_pos z, if_pos z]
      by_cases e : b j = b i
      · rw [e, pk_us, pk_us]
      · rw [pk_un e, pk_un e]
        exact ih j (by have : j ≠ i := fun q => e (by rw [q])
                       omega) ht
    · rw [if_neg z, if_neg z]
      exact ih j (by have : j ≠ i := fun q => z (by rw [← q]; exact ht)
                     omega) ht
theorem tl_yi {post : SY → Prop} {r W : Nat} (hr : r < 4) (hW : W ≤ 48) (hno : ∀ w, w < W → ¬ (¬ kno (r * 48 + w) = 0 ∧ sny w = 0)) (h : post (xR, nI W, yC, org, stp, knd, tgt, val, kno, ord, cms, clk, trm, sty, sny)) : ∀ d k n, k + d = W → d < n → wY_replay_85 post (nI r) 1 n (nI k) xR (nI W) yC org stp knd tgt val kno ord cms clk trm sty sny := by
  intro d
  induction d with
  | zero =>
    intro k n hk hn
    obtain ⟨m, rfl⟩ : ∃ m, n = m + 1 := ⟨n - 1, by omega⟩
    exact br_t (nI_le (by omega) (by omega)) h
  | succ d ih =>
    intro k n hk hn
    obtain ⟨m, rfl⟩ : ∃ m, n = m + 1 := ⟨n - 1, by omega⟩
    refine br_f (nI_ge (by omega) (by omega)) (tl_yfl (l := fun w => decide (¬ kno (r * 48 + w) = 0 ∧ sny w = 0)) hr hW (fun w _ => by simp) ?_)
    rw [tl_fl_no (fun w hw => decide_eq_false (hno w hw))]
    exact br_f (by decide) (br_t (by decide) (nm_r (nI_1 k) (ih (k + 1) m (by omega) (by omega))))
theorem tl_y1 {post : SY → Prop} {r W : Nat} {b : Nat → Nat} {t : Nat → Bool} {s0 o0 : Nat → Int32} (hr : r < 4) (hW : W ≤ 48) (hV : tl_V W knd tgt) (hs : tl_srt stp org W b) (h0 : ∀ w, w < W → (t w = true ↔ (¬ kno (r * 48 + w) = 0 ∧ o0 w = 0))) (h : post (xR, nI W, yC, org, stp, knd, tgt, val, kno, ord, cms, clk, trm, tl_ts tgt knd val b t s0 W, tl_to tgt knd val b t s0 o0 W)) : ∀ d i k n, i + d = W → k ≤ i → W - k < n → wY_replay_85 post (nI r) 1 n (nI k) xR (nI W) yC org stp knd tgt val kno ord cms clk trm (tl_ts tgt knd val b t s0 i) (tl_to tgt knd val b t s0 o0 i) := by
  have left : ∀ i j, j < W → (¬ kno (r * 48 + b j) = 0 ∧ tl_to tgt knd val b t s0 o0 i (b j) = 0) → i ≤ j ∧ t (b j) = true := by
    intro i j hj q
    by_cases z : t (b j) = true
    · refine ⟨?_, z⟩
      by_cases c : j < i
      · exact absurd q.2 (tl_to_lo (W := W) z i c)
      · omega
    · rw [tl_to_hi i (fun x _ hx e => z (by rw [← e]; exact hx))] at q
      exact absurd ((h0 _ (hs.1 j hj)).mpr q) z
  intro d
  induction d with
  | zero =>
    intro i k n hi hk hn
    have e : i = W := by omega
    subst e
    refine tl_yi hr hW ?_ h (i - k) k n (by omega) (by omega)
    intro w hw q
    obtain ⟨j, hj, rfl⟩ := hs.2.2 w hw
    have := left i j hj q
    omega
  | succ d ih =>
    intro i k n hi hk hn
    have ih' := ih (i + 1)
    unfold tl_ts tl_to at ih'
    by_cases z : t (b i) = true
    · rw [if_pos z, if_pos z] at ih'
      obtain ⟨m, rfl⟩ : ∃ m, n = m + 1 := ⟨n - 1, by omega⟩
      have hbW := hs.1 i (by omega)
      refine br_f (nI_ge (by omega) (by omega)) (tl_yfl (l := fun w => decide (¬ kno (r * 48 + w) = 0 ∧ tl_to tgt knd val b t s0 o0 i w = 0)) hr hW (fun w _ => by simp) ?_)
      rw [tl_fl_eq hs (i := i) (by omega) ?_ ?_]
      · refine br_f (by decide) (br_f (nI_pos (by omega)) (tl_yrw hV hW hbW ?_))
        refine ⟨vp_in_nI (by omega) (by omega), ?_⟩
        show ∀ y, y = upd (tl_to tgt knd val b t s0 o0 i) (nI (b i)).toNatClampNeg _ → _
        rw [nI_clamp (n := b i) (by omega)]
        exact nm_e (nm_r (nI_1 k) (ih' (k + 1) m (by omega) (by omega) (by omega)))
      · refine decide_eq_true ?_
        rw [tl_to_hi i (fun j hj _ => tl_srt_inj hs hj (by omega))]
        exact (h0 _ hbW).mp z
      · intro j hj
        refine decide_eq_false (fun q => ?_)
        have := left i j (by omega) q
        omega
    · rw [if_neg z, if_neg z] at ih'
      exact ih' k n (by omega) (by omega) hn
theorem tl_yr0 {post : SY → Prop} {r M W : Nat} {od : Nat → Nat} (hr : r < 4) (hM : cms r = nI M) (hM48 : M ≤ 48) (hV : tl_V W knd tgt) (hW : W ≤ 48) (ho : ∀ i, i < M → ord i = nI (od i) ∧ od i < W) (hs : ∀ j, 8 ≤ j → sty j = 0) (hn : ∀ j, 48 ≤ j → sny j = 0) (h : post (xR, nI W, yC, org, stp, knd, tgt, val, kno, ord, cms, clk, trm, tl_cs tgt knd val od M, tl_sn od M)) : wpY_replay post (xR, nI W, yC, org, stp, knd, tgt, val, kno, ord, cms, clk, trm, sty, sny) (nI r) 0 := by
  unfold wpY_replay
  dsimp only
  exact ⟨9, tl_yz ⟨49, tl_yz2 ⟨M + 1, tl_yc hr hM hM48 hV hW ho ⟨W + 1, tl_y0 hr hW h W 0 (by omega)⟩ M 0 (by omega)⟩ 48 0 sny (by omega) (fun j hj => hn j (by omega))⟩ 8 0 sty (by omega) (fun j hj => hs j (by omega))⟩
theorem tl_yr1 {post : SY → Prop} {r M W : Nat} {od b : Nat → Nat} {t : Nat → Bool} (hr : r < 4) (hM : cms r = nI M) (hM48 : M ≤ 48) (hV : tl_V W knd tgt) (hW : W ≤ 48) (ho : ∀ i, i < M → ord i = nI (od i) ∧ od i < W) (hb : tl_srt stp org W b) (h0 : ∀ w, w < W → (t w = true ↔ (¬ kno (r * 48 + w) = 0 ∧ tl_sn od M w = 0))) (hs : ∀ j, 8 ≤ j → sty j = 0) (hn : ∀ j, 48 ≤ j → sny j = 0) (h : post (xR, nI W, yC, org, stp, knd, tgt, val, kno, ord, cms, clk, trm, tl_ts tgt knd val b t (tl_cs tgt knd val od M) W, tl_to tgt knd val b t (tl_cs tgt knd val od M) (tl_sn od M) W)) : wpY_replay post (xR, nI W, yC, org, stp, knd, tgt, val, kno, ord, cms, clk, trm, sty, sny) (nI r) 1 := by
  unfold wpY_replay
  dsimp only
  exact ⟨9, tl_yz ⟨49, tl_yz2 ⟨M + 1, tl_yc hr hM hM48 hV hW ho ⟨W + 1, tl_y1 hr hW hV hb h0 h W 0 0 (W + 1) (by omega) (by omega) (by omega)⟩ M 0 (by omega)⟩ 48 0 sny (by omega) (fun j hj => hn j (by omega))⟩ 8 0 sty (by omega) (fun j hj => hs j (by omega))⟩
theorem tl_ykn {post : Int32 → Prop} {r W : Nat} {q : Nat → Bool} (hr : r < 4) (hW : W ≤ 48) (hq : ∀ w, w < W → (q w = true ↔ ¬ kno (r * 48 + w) = 0)) (h : post (nI (tl_cn q W))) : ∀ d i, i + d = W → wY_known_14 post (nI r) xR (nI W) yC org stp knd tgt val kno ord cms clk trm sty sny (d + 1) (nI (tl_cn q i)) (nI i) := by
  intro d
  induction d with
  | zero =>
    intro i hi
    have e : i = W := by omega
    subst e
    exact br_t (nI_le (by omega) (by omega)) h
  | succ d ih =>
    intro i hi
    have ih' := ih (i + 1) (by omega)
    unfold tl_cn at ih'
    refine br_f (nI_ge (by omega) (by omega)) ?_
    rw [tl_ix, nI_clamp (n := r * 48 + i) (by omega)]
    refine ⟨vp_in_nI (by omega) (by omega), ?_⟩
    by_cases z : kno (r * 48 + i) = 0
    · rw [if_neg (by rw [hq i (by omega)]; exact fun q => q z)] at ih'
      exact br_t z (nm_r (nI_1 i) ih')
    · rw [if_pos ((hq i (by omega)).mpr z)] at ih'
      exact br_f z (nm_r (nI_1 _) (nm_r (nI_1 i) ih'))
end
