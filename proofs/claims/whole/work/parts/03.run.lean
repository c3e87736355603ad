/-! ===== one write run on a store: pure, and both walks ===== -/
section
variable {xR xW yC : Int32} {org stp knd tgt val plc bys ord cms clk trm stx oux kno sty sny : Nat → Int32} {sts : Nat → Int64}
theorem tl_a7 {a : Nat} (h : a < 2 ^ 31) : nI a &&& 7 = nI (a % 8) := pk_andN (by omega) 3 (by decide)
def tl_cl (c : Nat) (v : Int32) (st : Nat → Int32) : Nat → Nat → Int32 × (Nat → Int32)
  | 0, _ => (4, st)
  | n + 1, i => if st ((c + i) % 8) = 0 then (if i = 0 then (2, upd st ((c + i) % 8) v) else (3, upd st ((c + i) % 8) v)) else tl_cl c v st n (i + 1)
def tl_run (c k : Nat) (v : Int32) (st : Nat → Int32) : Int32 × (Nat → Int32) :=
  match k with
  | 0 => (2, upd st c v)
  | 1 => (2, upd st c (st c + v))
  | 2 => if st c < v then (if st ((c + 1) % 8) < v then (4, st) else (3, upd st ((c + 1) % 8) (st ((c + 1) % 8) - v))) else (2, upd st c (st c - v))
  | 3 => if st c < v then (4, st) else (2, upd (upd st c (st c - v)) ((c + 1) % 8) (upd st c (st c - v) ((c + 1) % 8) + v))
  | 4 => tl_cl c v st 8 0
  | _ => (2, upd (upd st c (st ((c + 1) % 8))) ((c + 1) % 8) (st c))
theorem tl_run_2 (c : Nat) (v : Int32) (st : Nat → Int32) : tl_run c 2 v st = if st c < v then (if st ((c + 1) % 8) < v then (4, st) else (3, upd st ((c + 1) % 8) (st ((c + 1) % 8) - v))) else (2, upd st c (st c - v)) := rfl
theorem tl_run_3 (c : Nat) (v : Int32) (st : Nat → Int32) : tl_run c 3 v st = if st c < v then (4, st) else (2, upd (upd st c (st c - v)) ((c + 1) % 8) (upd st c (st c - v) ((c + 1) % 8) + v)) := rfl
theorem tl_ne2 : (2 : Int32) ≠ 0 := by decide
theorem tl_ne3 : (3 : Int32) ≠ 0 := by decide
theorem tl_ne4 : (4 : Int32) ≠ 0 := by decide
theorem tl_cl_ne (c : Nat) (v : Int32) (st : Nat → Int32) : ∀ n i, (tl_cl c v st n i).1 ≠ 0 := by
  intro n
  induction n with
  | zero => intro i; exact tl_ne4
  | succ n ih =>
    intro i
    unfold tl_cl
    split
    · split
      · exact tl_ne2
      · exact tl_ne3
    · exact ih (i + 1)
theorem tl_run_ne (c k : Nat) (v : Int32) (st : Nat → Int32) : (tl_run c k v st).1 ≠ 0 := by
  unfold tl_run
  split
  · exact tl_ne2
  · exact tl_ne2
  · split
    · split
      · exact tl_ne4
      · exact tl_ne3
    · exact tl_ne2
  · split
    · exact tl_ne4
    · exact tl_ne2
  · exact tl_cl_ne c v st 8 0
  · exact tl_ne2
theorem tl_up_hi {st : Nat → Int32} {a : Nat} {x : Int32} {j : Nat} (ha : a < 8) (hs : ∀ j, 8 ≤ j → st j = 0) (hj : 8 ≤ j) : upd st a x j = 0 := by
  rw [pk_un (by omega)]; exact hs j hj
theorem tl_cl_hi (c : Nat) (v : Int32) {st : Nat → Int32} (hs : ∀ j, 8 ≤ j → st j = 0) : ∀ n i j, 8 ≤ j → (tl_cl c v st n i).2 j = 0 := by
  intro n
  induction n with
  | zero => intro i; exact hs
  | succ n ih =>
    intro i j hj
    unfold tl_cl
    split
    · split <;> exact tl_up_hi (by omega) hs hj
    · exact ih (i + 1) j hj
theorem tl_run_hi {c : Nat} (k : Nat) (v : Int32) {st : Nat → Int32} (hc : c < 8) (hs : ∀ j, 8 ≤ j → st j = 0) : ∀ j, 8 ≤ j → (tl_run c k v st).2 j = 0 := by
  intro j hj
  unfold tl_run
  split
  · exact tl_up_hi hc hs hj
  · exact tl_up_hi hc hs hj
  · split
    · split
      · exact hs j hj
      · exact tl_up_hi (by omega) hs hj
    · exact tl_up_hi hc hs hj
  · split
    · exact hs j hj
    · exact tl_up_hi (by omega) (fun j hj => tl_up_hi hc hs hj) hj
  · exact tl_cl_hi c v hs 8 0 j hj
  · exact tl_up_hi (by omega) (fun j hj => tl_up_hi hc hs hj) hj
theorem tl_xcl {post : Int32 → SX → Prop} {c : Nat} (hc : c < 8) (v : Int32) : ∀ d i, i + d = 8 → post (tl_cl c v stx d i).1 (xR, xW, org, stp, knd, tgt, val, plc, bys, ord, sts, cms, clk, trm, (tl_cl c v stx d i).2, oux) → wX_runClaim_2 post (nI c) v xR xW org stp knd tgt val plc bys ord sts cms clk trm stx oux (d + 1) (nI i) := by
  intro d
  induction d with
  | zero => intro i hi hp; exact br_t (nI_le (a := 8) (by omega) (by omega)) hp
  | succ d ih =>
    intro i hi hp
    have h : ¬ (8 : Int32) ≤ nI i := nI_ge (b := 8) (by omega) (by decide)
    have hin : vp_in (nI ((c + i) % 8)) 8 := vp_in_nI (by omega) (by omega)
    have hcl := nI_clamp (n := (c + i) % 8) (by omega)
    refine br_f h (nm_r (e' := nI ((c + i) % 8)) (by rw [nI_add, tl_a7 (by omega)]) ⟨hin, ?_⟩)
    rw [hcl]
    unfold tl_cl at hp
    by_cases z : stx ((c + i) % 8) = 0
    · rw [if_pos z] at hp
      refine br_t z ⟨hin, nm_e ?_⟩
      by_cases z0 : i = 0
      · rw [if_pos z0] at hp
        exact br_t (by rw [z0]; rfl) hp
      · rw [if_neg z0] at hp
        exact br_f (nI_ne0 (by omega) (by omega)) hp
    · rw [if_neg z] at hp
      exact br_f z (nm_r (nI_1 i) (ih (i + 1) (by omega) hp))
theorem tl_ycl {post : Int32 → SY → Prop} {c : Nat} (hc : c < 8) (v : Int32) : ∀ d i, i + d = 8 → post (tl_cl c v sty d i).1 (xR, xW, yC, org, stp, knd, tgt, val, kno, ord, cms, clk, trm, (tl_cl c v sty d i).2, sny) → wY_claim_2 post (nI c) v xR xW yC org stp knd tgt val kno ord cms clk trm sty sny (d + 1) (nI i) := by
  intro d
  induction d with
  | zero => intro i hi hp; exact br_t (nI_le (a := 8) (by omega) (by omega)) hp
  | succ d ih =>
    intro i hi hp
    have h : ¬ (8 : Int32) ≤ nI i := nI_ge (b := 8) (by omega) (by decide)
    have hin : vp_in (nI ((c + i) % 8)) 8 := vp_in_nI (by omega) (by omega)
    have hcl := nI_clamp (n := (c + i) % 8) (by omega)
    have he : (nI c + nI i) &&& 7 = nI ((c + i) % 8) := by rw [nI_add, tl_a7 (by omega)]
    refine br_f h ?_
    rw [he, hcl]
    refine ⟨hin, ?_⟩
    unfold tl_cl at hp
    by_cases z : sty ((c + i) % 8) = 0
    · rw [if_pos z] at hp
      refine br_t z ⟨hin, nm_e ?_⟩
      by_cases z0 : i = 0
      · rw [if_pos z0] at hp
        exact br_t (by rw [z0]; rfl) hp
      · rw [if_neg z0] at hp
        exact br_f (nI_ne0 (by omega) (by omega)) hp
    · rw [if_neg z] at hp
      exact br_f z (nm_r (nI_1 i) (ih (i + 1) (by omega) hp))
theorem tl_xrun {post : Int32 → SX → Prop} {w c k : Nat} (hw : w < 48) (hc : c < 8) (hk : k ≤ 5) (ec : tgt w = nI c) (ek : knd w = nI k) (h : post (tl_run c k (val w) stx).1 (xR, xW, org, stp, knd, tgt, val, plc, bys, ord, sts, cms, clk, trm, (tl_run c k (val w) stx).2, oux)) : wpX_runWrite post (xR, xW, org, stp, knd, tgt, val, plc, bys, ord, sts, cms, clk, trm, stx, oux) (nI w) := by
  have hin : vp_in (nI w) 48 := vp_in_nI hw (by omega)
  have hcl := nI_clamp (n := w) (by omega)
  have hic : vp_in (nI c) 8 := vp_in_nI hc (by omega)
  have hcc := nI_clamp (n := c) (by omega)
  have e7 : (nI c + 1) &&& 7 = nI ((c + 1) % 8) := by rw [nI_1, tl_a7 (by omega)]
  have hin' : vp_in (nI ((c + 1) % 8)) 8 := vp_in_nI (by omega) (by omega)
  have hcn := nI_clamp (n := (c + 1) % 8) (by omega)
  unfold wpX_runWrite
  dsimp only
  rw [hcl]
  refine ⟨hin, nm_r ec ⟨hin, nm_e ⟨hin, nm_r ek ?_⟩⟩⟩
  refine br_f (nI_pos (by omega)) ?_
  have hk' : k = 0 ∨ k = 1 ∨ k = 2 ∨ k = 3 ∨ k = 4 ∨ k = 5 := by omega
  rcases hk' with rfl | rfl | rfl | rfl | rfl | rfl
  · refine br_f (by decide) (br_t (by decide) ⟨hic, nm_e ?_⟩)
    rw [hcc]; exact h
  · refine br_f (by decide) (br_f (by decide) (br_t (by decide) ⟨hic, hic, nm_e ?_⟩))
    rw [hcc]; exact h
  · refine br_f (by decide) (br_f (by decide) (br_f (by decide) (br_t (by decide) ?_)))
    unfold wpX_runTake
    dsimp only
    refine nm_r e7 ⟨hic, ?_⟩
    rw [hcc, hcn]
    rw [tl_run_2] at h
    by_cases z : stx c < val w
    · rw [if_pos z] at h
      refine br_t z ⟨hin', ?_⟩
      by_cases z2 : stx ((c + 1) % 8) < val w
      · rw [if_pos z2] at h
        exact br_t z2 h
      · rw [if_neg z2] at h
        exact br_f z2 ⟨hin', hin', nm_e h⟩
    · rw [if_neg z] at h
      exact br_f z ⟨hic, hic, nm_e h⟩
  · refine br_f (by decide) (br_f (by decide) (br_f (by decide) (br_f (by decide) (br_t (by decide) ?_))))
    unfold wpX_runMove
    dsimp only
    refine nm_r e7 ⟨hic, ?_⟩
    rw [hcc, hcn]
    rw [tl_run_3] at h
    by_cases z : stx c < val w
    · rw [if_pos z] at h
      exact br_f (Int32.not_le.mpr z) h
    · rw [if_neg z] at h
      exact br_t (Int32.not_lt.mp z) ⟨hic, hic, nm_e ⟨hin', hin', nm_e h⟩⟩
  · refine br_f (by decide) (br_f (by decide) (br_f (by decide) (br_f (by decide) (br_f (by decide) (br_t (by decide) ?_)))))
    unfold wpX_runClaim
    dsimp only
    exact ⟨9, tl_xcl hc (val w) 8 0 rfl h⟩
  · refine br_t (by decide) ?_
    unfold wpX_runSwap
    dsimp only
    refine nm_r e7 ⟨hic, nm_e ⟨hin', hic, nm_e ⟨hin', nm_e ?_⟩⟩⟩
    rw [hcc, hcn]; exact h
theorem tl_yrun {post : Int32 → SY → Prop} {w c k : Nat} (hw : w < 48) (hc : c < 8) (hk : k ≤ 5) (ec : tgt w = nI c) (ek : knd w = nI k) (h : post (tl_run c k (val w) sty).1 (xR, xW, yC, org, stp, knd, tgt, val, kno, ord, cms, clk, trm, (tl_run c k (val w) sty).2, sny)) : wpY_carryOut post (xR, xW, yC, org, stp, knd, tgt, val, kno, ord, cms, clk, trm, sty, sny) (nI w) := by
  have hin : vp_in (nI w) 48 := vp_in_nI hw (by omega)
  have hcl := nI_clamp (n := w) (by omega)
  have hic : vp_in (nI c) 8 := vp_in_nI hc (by omega)
  have hcc := nI_clamp (n := c) (by omega)
  have e7 : (nI c + 1) &&& 7 = nI ((c + 1) % 8) := by rw [nI_1, tl_a7 (by omega)]
  have hin' : vp_in (nI ((c + 1) % 8)) 8 := vp_in_nI (by omega) (by omega)
  have hcn := nI_clamp (n := (c + 1) % 8) (by omega)
  unfold wpY_carryOut
  dsimp only
  rw [hcl, ek]
  refine ⟨hin, nm_r ec (nm_r e7 ⟨hin, nm_e ⟨hic, ?_⟩⟩)⟩
  rw [hcc, hcn]
  refine nm_e ⟨hin, ?_⟩
  have hk' : k = 0 ∨ k = 1 ∨ k = 2 ∨ k = 3 ∨ k = 4 ∨ k = 5 := by omega
  rcases hk' with rfl | rfl | rfl | rfl | rfl | rfl
  · exact br_t (by decide) ⟨hic, nm_e h⟩
  · exact br_f (by decide) ⟨hin, br_t (by decide) ⟨hic, nm_e h⟩⟩
  · refine br_f (by decide) ⟨hin, br_f (by decide) ⟨hin, br_f (by decide) ⟨hin, br_f (by decide) ?_⟩⟩⟩
    rw [tl_run_2] at h
    by_cases z : sty c < val w
    · rw [if_pos z] at h
      refine br_t z ⟨hin, br_t (by decide) ⟨hin', ?_⟩⟩
      by_cases z2 : sty ((c + 1) % 8) < val w
      · rw [if_pos z2] at h
        exact br_t z2 h
      · rw [if_neg z2] at h
        exact br_f z2 ⟨hin', hin', nm_e h⟩
    · rw [if_neg z] at h
      exact br_f z ⟨hic, nm_e ⟨hin, br_f (by decide) h⟩⟩
  · refine br_f (by decide) ⟨hin, br_f (by decide) ⟨hin, br_f (by decide) ⟨hin, br_f (by decide) ?_⟩⟩⟩
    rw [tl_run_3] at h
    by_cases z : sty c < val w
    · rw [if_pos z] at h
      exact br_t z ⟨hin, br_f (by decide) h⟩
    · rw [if_neg z] at h
      exact br_f z ⟨hic, nm_e ⟨hin, br_t (by decide) ⟨hin', hin', nm_e h⟩⟩⟩
  · refine br_f (by decide) ⟨hin, br_f (by decide) ⟨hin, br_f (by decide) ⟨hin, br_t (by decide) ?_⟩⟩⟩
    unfold wpY_claim
    dsimp only
    exact ⟨9, tl_ycl hc (val w) 8 0 rfl h⟩
  · exact br_f (by decide) ⟨hin, br_f (by decide) ⟨hin, br_t (by decide) ⟨hin', hic, nm_e ⟨hin', nm_e h⟩⟩⟩⟩
end
