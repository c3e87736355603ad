/-! ===== the relation, and the small methods ===== -/
def tl_M (c : Nat) (m : Nat → Nat) (cms : Nat → Int32) : Prop := m 0 = c ∧ ∀ r, r < 4 → cms r = nI (m r) ∧ m r ≤ c
def tl_G (rr W c : Nat) (b od p m : Nat → Nat) (org stp knd tgt plc bys ord : Nat → Int32) (sts : Nat → Int64) (cms kno stx sty sny : Nat → Int32) : Prop :=
  (rr ≤ 4 ∧ W ≤ 48) ∧ tl_V W knd tgt ∧ ((∀ i, i < W → bys i = nI (b i)) ∧ tl_srt stp org W b) ∧ tl_P W c od p plc ord ∧ tl_K W sts kno ∧ tl_M c m cms ∧ (∀ j, 8 ≤ j → stx j = 0) ∧ (∀ j, 8 ≤ j → sty j = 0) ∧ (∀ j, 48 ≤ j → sny j = 0)
/-- the two keep the same writes, order, known commits, clocks and trims; the component's list by stamp is sorted, its places are the order's inverse, its sets are the reference's table -/
def i_Rel (_ : Nat) (u : SX) (v : SY) : Prop :=
  ∃ (rr W c : Nat) (b od p m : Nat → Nat) (org stp knd tgt val plc bys ord : Nat → Int32) (sts : Nat → Int64) (cms clk trm stx oux kno sty sny : Nat → Int32),
    u = (nI rr, nI W, org, stp, knd, tgt, val, plc, bys, ord, sts, cms, clk, trm, stx, oux) ∧ v = (nI rr, nI W, nI c, org, stp, knd, tgt, val, kno, ord, cms, clk, trm, sty, sny) ∧ tl_G rr W c b od p m org stp knd tgt plc bys ord sts cms kno stx sty sny
theorem i_up {k : Nat} {u : SX} {v : SY} (h : i_Rel k u v) : i_Rel (k + 5) u v := h
theorem tl_ini {rr : Nat} (h : rr ≤ 4) (k : Nat) : i_Rel k (nI rr, 0, (fun _ => 0), (fun _ => 0), (fun _ => 0), (fun _ => 0), (fun _ => 0), (fun _ => 0), (fun _ => 0), (fun _ => 0), (fun _ => 0), (fun _ => 0), (fun _ => 0), (fun _ => 0), (fun _ => 0), (fun _ => 0)) (nI rr, 0, 0, (fun _ => 0), (fun _ => 0), (fun _ => 0), (fun _ => 0), (fun _ => 0), (fun _ => 0), (fun _ => 0), (fun _ => 0), (fun _ => 0), (fun _ => 0), (fun _ => 0), (fun _ => 0)) := by
  refine ⟨rr, 0, 0, fun _ => 0, fun _ => 0, fun _ => 0, fun _ => 0, fun _ => 0, fun _ => 0, fun _ => 0, fun _ => 0, fun _ => 0, fun _ => 0, fun _ => 0, fun _ => 0, fun _ => 0, fun _ => 0, fun _ => 0, fun _ => 0, fun _ => 0, fun _ => 0, fun _ => 0, fun _ => 0, fun _ => 0, rfl, rfl, ?_⟩
  refine ⟨⟨h, by omega⟩, fun w hw => absurd hw (by omega), ⟨fun i hi => absurd hi (by omega), fun i hi => absurd hi (by omega), fun i j _ hj => absurd hj (by omega), fun w hw => absurd hw (by omega)⟩, ⟨fun w hw => absurd hw (by omega), fun i hi => absurd hi (by omega), rfl⟩, ?_, ⟨rfl, fun r _ => ⟨rfl, Nat.le_refl _⟩⟩, fun _ _ => rfl, fun _ _ => rfl, fun _ _ => rfl⟩
  intro r _ w _
  exact ⟨⟨fun _ => tl_kb_0 w, fun _ => rfl⟩, fun _ => tl_kb_0 w⟩
theorem i_vc0 (k0 : Int32) : wpX_init (fun u => wpY_init (fun v => i_Rel 1 u v) k0) k0 := by
  unfold wpX_init wpY_init
  by_cases h2 : 2 ≤ k0
  · refine br_t h2 ?_
    by_cases h4 : k0 ≤ 4
    · obtain ⟨j, hj, rfl⟩ := nI_of2 (n := 4) (by decide) (fun q => absurd (Int32.lt_of_le_of_lt h2 q) (by decide)) h4
      exact br_t h4 (br_t h2 (br_t h4 (tl_ini hj 1)))
    · exact br_f h4 (br_t h2 (br_f h4 (tl_ini (rr := 4) (by omega) 1)))
  · exact br_f h2 (br_f h2 (br_t (by decide) (tl_ini (rr := 2) (by omega) 1)))
theorem tl_ix3 (x : Int32) {n : Nat} (hn : n < 2 ^ 31) : (x < 0 ∨ nI n ≤ x) ∨ ∃ j : Nat, j < n ∧ x = nI j := by
  rcases pk_ix x hn with h | h | h
  · exact Or.inl (Or.inl h)
  · exact Or.inl (Or.inr h)
  · exact Or.inr h
theorem tl_87 {x : Int32} (h : nI 8 ≤ x) : ¬ x ≤ 7 := by
  intro q
  exact absurd (Int32.le_trans h q) (by decide)
section
variable {xR xW yC : Int32} {org stp knd tgt val plc bys ord cms clk trm stx oux kno sty sny : Nat → Int32} {sts : Nat → Int64}
theorem tl_xb {post : Int32 → Prop} {x : Int32} {rr : Nat} (hx : x < 0 ∨ nI rr ≤ x) (h : post 0) : wpX_isReplica post (nI rr, xW, org, stp, knd, tgt, val, plc, bys, ord, sts, cms, clk, trm, stx, oux) x := by
  unfold wpX_isReplica
  dsimp only
  by_cases c : x < 0
  · exact br_t c h
  · rcases hx with a | a
    · exact absurd a c
    · exact br_f c (br_t a h)
theorem tl_xg {post : Int32 → Prop} {rr j : Nat} (hj : j < rr) (hr : rr ≤ 4) (h : post 1) : wpX_isReplica post (nI rr, xW, org, stp, knd, tgt, val, plc, bys, ord, sts, cms, clk, trm, stx, oux) (nI j) := by
  unfold wpX_isReplica
  dsimp only
  exact br_f (nI_pos (by omega)) (br_f (nI_ge hj (by omega)) h)
theorem tl_yb0 {post : Int32 → Prop} {x : Int32} {rr : Nat} (hx : x < 0 ∨ nI rr ≤ x) (h : post 1) : wpY_bad post (nI rr, xW, yC, org, stp, knd, tgt, val, kno, ord, cms, clk, trm, sty, sny) x := by
  unfold wpY_bad
  dsimp only
  by_cases c : x < 0
  · exact br_t c h
  · rcases hx with a | a
    · exact absurd a c
    · exact br_f c (br_f (Int32.not_lt.mpr a) h)
theorem tl_yg {post : Int32 → Prop} {rr j : Nat} (hj : j < rr) (hr : rr ≤ 4) (h : post 0) : wpY_bad post (nI rr, xW, yC, org, stp, knd, tgt, val, kno, ord, cms, clk, trm, sty, sny) (nI j) := by
  unfold wpY_bad
  dsimp only
  exact br_f (nI_pos (by omega)) (br_t (nI_lt hj (by omega)) h)
theorem tl_xcb0 {post : Int32 → Prop} {x : Int32} (hx : x < 0 ∨ nI 8 ≤ x) (h : post 0) : wpX_isCell post x := by
  unfold wpX_isCell
  by_cases c : x < 0
  · exact br_t c h
  · rcases hx with a | a
    · exact absurd a c
    · exact br_f c (br_t a h)
theorem tl_xcg {post : Int32 → Prop} {j : Nat} (hj : j < 8) (h : post 1) : wpX_isCell post (nI j) := by
  unfold wpX_isCell
  exact br_f (nI_pos (by omega)) (br_f (nI_ge (b := 8) hj (by decide)) h)
theorem tl_xlg {post : Int32 → Prop} {a b : Int32} (h : post (if a ≤ b then b else a)) : wpX_larger post a b := by
  unfold wpX_larger
  by_cases c : a ≤ b
  · rw [if_pos c] at h; exact br_t c h
  · rw [if_neg c] at h; exact br_f c h
end
theorem tl_sn_no {od : Nat → Nat} {w : Nat} : ∀ i, (∀ j, j < i → od j ≠ w) → tl_sn od i w = 0 := by
  intro i
  induction i with
  | zero => intro _; rfl
  | succ i ih =>
    intro h
    unfold tl_sn
    rw [pk_un (fun q => h i (by omega) q.symm)]
    exact ih (fun j hj => h j (by omega))
theorem tl_sn_y {od : Nat → Nat} {w j : Nat} (e : od j = w) : ∀ i, j < i → tl_sn od i w = 1 := by
  intro i
  induction i with
  | zero => intro h; omega
  | succ i ih =>
    intro h
    unfold tl_sn
    by_cases c : w = od i
    · rw [c]; exact pk_us
    · rw [pk_un c]
      refine ih ?_
      have : j ≠ i := fun q => c (by rw [← e, q])
      omega
theorem tl_sn_p {W c M : Nat} {od p : Nat → Nat} {plc ord : Nat → Int32} (hW : W ≤ 48) (hP : tl_P W c od p plc ord) (hM : M ≤ c) {w : Nat} (hw : w < W) : (p w < M → tl_sn od M w = 1) ∧ (M ≤ p w → tl_sn od M w = 0) := by
  have hc := tl_P_le hP
  refine ⟨fun h => ?_, fun h => ?_⟩
  · rcases (hP.1 w hw).2 with a | a
    · omega
    · exact tl_sn_y a.2 M h
  · refine tl_sn_no M (fun j hj e => ?_)
    have := (hP.2.1 j (by omega)).2.2
    rw [e] at this
    omega
theorem tl_sn_big {W c M : Nat} {od p : Nat → Nat} {plc ord : Nat → Int32} (hW : W ≤ 48) (hP : tl_P W c od p plc ord) (hM : M ≤ c) : ∀ j, 48 ≤ j → tl_sn od M j = 0 := by
  intro j hj
  refine tl_sn_no M (fun i hi e => ?_)
  have := (hP.2.1 i (by omega)).2.1
  omega
theorem tl_h0 {W c M r : Nat} {od p : Nat → Nat} {plc ord kno : Nat → Int32} {sts : Nat → Int64} (hW : W ≤ 48) (hP : tl_P W c od p plc ord) (hM : M ≤ c) (hK : tl_K W sts kno) (hr : r < 4) : ∀ w, w < W → ((tl_kb (sts r) w && decide (M ≤ p w)) = true ↔ (¬ kno (r * 48 + w) = 0 ∧ tl_sn od M w = 0)) := by
  intro w hw
  have k := (hK r hr w (by omega)).1
  have s := tl_sn_p hW hP hM hw
  rw [k]
  by_cases c : M ≤ p w
  · rw [s.2 c, decide_eq_true c]
    cases tl_kb (sts r) w <;> simp
  · rw [s.1 (by omega), decide_eq_false c]
    cases tl_kb (sts r) w <;> simp
theorem i_vc_known {k : Nat} {u : SX} {v : SY} (I : i_Rel k u v) (hk : k + 5 ≤ 2561) (v1 : Int32) : wpX_known (fun r => wpY_known (fun r' => r' = r ∧ i_Rel (k + 5) u v) v v1) u v1 := by
  have J : i_Rel (k + 5) u v := I
  obtain ⟨rr, W, c, b, od, p, m, org, stp, knd, tgt, val, plc, bys, ord, sts, cms, clk, trm, stx, oux, kno, sty, sny, rfl, rfl, ⟨⟨hrr, hW⟩, hV, ⟨hB, hS⟩, hP, hK, hM, hX, hY, hN⟩⟩ := I
  unfold wpX_known wpY_known
  dsimp only
  rcases tl_ix3 v1 (n := rr) (by omega) with hx | ⟨j, hj, rfl⟩
  · exact tl_xb hx (br_t rfl (tl_yb0 hx (br_f (by decide) ⟨rfl, J⟩)))
  · refine tl_xg hj hrr (br_f (by decide) ⟨vp_in_nI (by omega) (by omega), ?_⟩)
    rw [nI_clamp (n := j) (by omega)]
    refine tl_xsize (tl_yg hj hrr (br_t rfl ⟨W + 1, tl_ykn (q := tl_kb (sts j)) (by omega) hW ?_ ⟨?_, J⟩ W 0 (by omega)⟩))
    · intro w hw
      rw [(hK j (by omega) w (by omega)).1]
      cases tl_kb (sts j) w <;> simp
    · congr 1
      have e := tl_cn_no (p := tl_kb (sts j)) (48 - W) W (fun w h1 h2 => (hK j (by omega) w (by omega)).2 h1)
      rw [show W + (48 - W) = 48 by omega] at e
      exact e.symm
theorem i_vc_committed {k : Nat} {u : SX} {v : SY} (I : i_Rel k u v) (hk : k + 5 ≤ 2561) (v1 : Int32) : wpX_committed (fun r => wpY_committed (fun r' => r' = r ∧ i_Rel (k + 5) u v) v v1) u v1 := by
  have J : i_Rel (k + 5) u v := I
  obtain ⟨rr, W, c, b, od, p, m, org, stp, knd, tgt, val, plc, bys, ord, sts, cms, clk, trm, stx, oux, kno, sty, sny, rfl, rfl, ⟨⟨hrr, hW⟩, hV, ⟨hB, hS⟩, hP, hK, hM, hX, hY, hN⟩⟩ := I
  unfold wpX_committed wpY_committed
  dsimp only
  rcases tl_ix3 v1 (n := rr) (by omega) with hx | ⟨j, hj, rfl⟩
  · exact tl_xb hx (br_t rfl (tl_yb0 hx (br_f (by decide) ⟨rfl, J⟩)))
  · exact tl_xg hj hrr (br_f (by decide) ⟨vp_in_nI (by omega) (by omega), tl_yg hj hrr (br_t rfl ⟨vp_in_nI (by omega) (by omega), rfl, J⟩)⟩)
theorem i_vc_trim {k : Nat} {u : SX} {v : SY} (I : i_Rel k u v) (hk : k + 5 ≤ 2561) (v1 : Int32) (v2 : Int32) : wpX_trim (fun r u' => wpY_trim (fun r' v' => r' = r ∧ i_Rel (k + 5) u' v') v v1 v2) u v1 v2 := by
  have J : i_Rel (k + 5) u v := I
  obtain ⟨rr, W, c, b, od, p, m, org, stp, knd, tgt, val, plc, bys, ord, sts, cms, clk, trm, stx, oux, kno, sty, sny, rfl, rfl, G⟩ := I
  have hrr := G.1.1
  unfold wpX_trim wpY_trim
  dsimp only
  rcases tl_ix3 v1 (n := rr) (by omega) with hx | ⟨j, hj, rfl⟩
  · exact tl_xb hx (br_t rfl (tl_yb0 hx (br_f (by decide) ⟨rfl, J⟩)))
  · have ij : vp_in (nI j) 4 := vp_in_nI (by omega) (by omega)
    have T : ∀ z : Int32, ∀ post : Int32 → SX → Prop, post (if trm j ≤ z then z else trm j) (nI rr, nI W, org, stp, knd, tgt, val, plc, bys, ord, sts, cms, clk, upd trm j (if trm j ≤ z then z else trm j), stx, oux) → wX_trim_30 post (nI j) z (nI rr) (nI W) org stp knd tgt val plc bys ord sts cms clk trm stx oux := by
      intro z post h
      unfold wX_trim_30
      refine ⟨ij, ?_⟩
      rw [nI_clamp (n := j) (by omega)]
      refine tl_xlg ⟨ij, nm_e ⟨ij, ?_⟩⟩
      rw [pk_us]; exact h
    have Y : ∀ z : Int32, wY_trim_29 (fun r' v' => r' = (if trm j ≤ z then z else trm j) ∧ i_Rel (k + 5) (nI rr, nI W, org, stp, knd, tgt, val, plc, bys, ord, sts, cms, clk, upd trm j (if trm j ≤ z then z else trm j), stx, oux) v') (nI j) z (nI rr) (nI W) (nI c) org stp knd tgt val kno ord cms clk trm sty sny := by
      intro z
      unfold wY_trim_29
      refine ⟨ij, ?_⟩
      rw [nI_clamp (n := j) (by omega)]
      by_cases q : z ≤ trm j
      · have e : (if trm j ≤ z then z else trm j) = trm j := by
          split
          · rename_i q2; exact Int32.le_antisymm q q2
          · rfl
        refine br_t q ⟨ij, e.symm, ?_⟩
        rw [e, tl_ups]; exact J
      · have q2 : trm j ≤ z := by
          rw [Int32.le_iff_toInt_le] at *; omega
        refine br_f q ⟨ij, nm_e ⟨ij, ?_, ?_⟩⟩
        · rw [pk_us, if_pos q2]
        · rw [if_pos q2]
          exact ⟨rr, W, c, b, od, p, m, org, stp, knd, tgt, val, plc, bys, ord, sts, cms, clk, upd trm j z, stx, oux, kno, sty, sny, rfl, rfl, G⟩
    refine tl_xg hj hrr (br_f (by decide) ⟨ij, ?_⟩)
    rw [nI_clamp (n := j) (by omega)]
    by_cases q : v2 ≤ cms j
    · exact br_t q (T _ _ (tl_yg hj hrr (br_t rfl ⟨ij, br_t q (Y v2)⟩)))
    · refine br_f q ⟨ij, T _ _ (tl_yg hj hrr (br_t rfl ⟨ij, br_f q ⟨ij, nm_e (Y (cms j))⟩⟩))⟩
