section
/-! rows pasted from kit/rows -/
theorem pk_us {f : Nat → Int32} {k : Nat} {x : Int32} : upd f k x k = x := if_pos rfl
theorem pk_un {f : Nat → Int32} {k j : Nat} {x : Int32} (h : j ≠ k) : upd f k x j = f j := if_neg h
theorem pk_uLs {f : Nat → Int64} {k : Nat} {x : Int64} : vp_updL f k x k = x := if_pos rfl
theorem pk_uLn {f : Nat → Int64} {k j : Nat} {x : Int64} (h : j ≠ k) : vp_updL f k x j = f j := if_neg h
theorem pk_m1 (n : Nat) : nI (n + 1) + (-1) = nI n := by
  rw [← nI_1, Int32.add_assoc, show (1 : Int32) + (-1) = 0 from rfl, Int32.add_zero]
theorem pk_mul (a b : Nat) : nI a * nI b = nI (a * b) := (Int32.ofNat_mul a b).symm
theorem pk_ix (x : Int32) {n : Nat} (hn : n < 2 ^ 31) : x < 0 ∨ nI n ≤ x ∨ ∃ j : Nat, j < n ∧ x = nI j := by
  by_cases h : x < 0
  · exact Or.inl h
  · obtain ⟨j, hj, rfl⟩ := nI_of h
    by_cases h2 : j < n
    · exact Or.inr (Or.inr ⟨j, h2, rfl⟩)
    · exact Or.inr (Or.inl (nI_le (by omega) hj))
theorem pk_le {x y : Int32} {A B : Prop} (a b : Nat) (f : a ≤ b → A) (g : b < a → B) (hx : x = nI a := by rfl) (hy : y = nI b := by rfl) (ha : a < 2 ^ 31 := by omega) (hb : b < 2 ^ 31 := by omega) : (x ≤ y → A) ∧ (¬ x ≤ y → B) := by
  subst hx hy
  rw [nI_leI ha hb]
  exact ⟨f, fun z => g (by omega)⟩
theorem pk_lt {x y : Int32} {A B : Prop} (a b : Nat) (f : a < b → A) (g : b ≤ a → B) (hx : x = nI a := by rfl) (hy : y = nI b := by rfl) (ha : a < 2 ^ 31 := by omega) (hb : b < 2 ^ 31 := by omega) : (x < y → A) ∧ (¬ x < y → B) := by
  subst hx hy
  rw [nI_ltI ha hb]
  exact ⟨f, fun z => g (by omega)⟩
theorem pk_eq {x y : Int32} {A B : Prop} (a b : Nat) (f : a = b → A) (g : a ≠ b → B) (hx : x = nI a := by rfl) (hy : y = nI b := by rfl) (ha : a < 2 ^ 31 := by omega) (hb : b < 2 ^ 31 := by omega) : (x = y → A) ∧ (¬ x = y → B) := by
  subst hx hy
  rw [nI_eq ha hb]
  exact ⟨f, g⟩
theorem pk_in {x : Int32} (n N : Nat) (h : n < N) (hx : x = nI n := by rfl) (hN : N < 2 ^ 31 := by omega) : vp_in x N := by
  subst hx
  exact vp_in_nI h hN
theorem pk_cl {x : Int32} (n : Nat) (hx : x = nI n := by rfl) (h : n < 2 ^ 31 := by omega) : x.toNatClampNeg = n := by
  subst hx
  exact nI_clamp h
theorem pk_tn {n : Nat} (h : n < 2 ^ 32) : (nI n).toBitVec.toNat = n := Nat.mod_eq_of_lt h
theorem pk_and (x : Int32) {m : Int32} (k : Nat) (hm : m.toBitVec.toNat = 2 ^ k - 1) : x &&& m = nI (x.toBitVec.toNat % 2 ^ k) := by
  apply Int32.toBitVec_inj.mp
  apply BitVec.eq_of_toNat_eq
  rw [Int32.toBitVec_and, BitVec.toNat_and, hm, Nat.and_two_pow_sub_one_eq_mod]
  show _ = (BitVec.ofNat 32 _).toNat
  rw [BitVec.toNat_ofNat]
  exact (Nat.mod_eq_of_lt (Nat.lt_of_le_of_lt (Nat.mod_le _ _) x.toBitVec.isLt)).symm
theorem pk_andN {n : Nat} (h : n < 2 ^ 32) {m : Int32} (k : Nat) (hm : m.toBitVec.toNat = 2 ^ k - 1) : nI n &&& m = nI (n % 2 ^ k) := by
  rw [pk_and _ k hm, pk_tn h]
theorem ts_nf {x : Bool} (h : ¬ x = false) : x = true := by cases x <;> first | rfl | exact absurd rfl h
theorem ts_nt {x : Bool} (h : ¬ x = true) : x = false := by cases x <;> first | rfl | exact absurd rfl h
theorem ts_bit {w : Int64} {s : UInt64} {j : Nat} (hj : j < 64) (hs : s.toNat = j) : ((w.toUInt64 >>> s).toInt64 &&& 1) = 0 ↔ w.toBitVec.getLsbD j = false := by
  have e : (w.toUInt64 >>> s).toInt64.toBitVec = w.toBitVec >>> j := by
    apply BitVec.eq_of_toNat_eq
    show (w.toUInt64 >>> s).toNat = _
    rw [UInt64.toNat_shiftRight, hs, Nat.mod_eq_of_lt hj, BitVec.toNat_ushiftRight]
    rfl
  rw [← Int64.toBitVec_inj, Int64.toBitVec_and, e]
  show w.toBitVec >>> j &&& 1#64 = 0#64 ↔ _
  constructor
  · intro h
    have t := congrArg (fun x => x.getLsbD 0) h
    simpa using t
  · intro h
    apply BitVec.eq_of_getLsbD_eq
    intro i hi
    cases i with
    | zero => simp [h]
    | succ i => simp
theorem wb_tb (n : Nat) : (lN n).toBitVec = BitVec.ofNat 64 n := rfl
theorem wb_c : ∀ k, k < 64 → ((nI k).toInt64 &&& 63) = lN k := by decide +kernel
theorem wb_cu : ∀ k, k < 64 → ((nI k).toInt64.toUInt64 &&& Int64.toUInt64 63) = UInt64.ofNat k := by decide +kernel
theorem wb_sm : ∀ k, k < 64 → (BitVec.ofNat 64 k).smod 64 = BitVec.ofNat 64 k := by decide +kernel
end
section
/-! ===== pure: counts, the order of writes, the first left, bits of a set ===== -/
def tl_cn (p : Nat → Bool) : Nat → Nat
  | 0 => 0
  | n + 1 => tl_cn p n + (if p n = true then 1 else 0)
theorem tl_cn_le (p : Nat → Bool) : ∀ n, tl_cn p n ≤ n := by
  intro n
  induction n with
  | zero => exact Nat.le_refl 0
  | succ n ih => unfold tl_cn; split <;> omega
theorem tl_cn_lt (p : Nat → Bool) : ∀ n w, w < n → p w = false → tl_cn p n < n := by
  intro n
  induction n with
  | zero => intro w h; omega
  | succ n ih =>
    intro w hw hp
    unfold tl_cn
    by_cases e : w = n
    · subst e
      have := tl_cn_le p w
      rw [if_neg (by rw [hp]; decide)]; omega
    · have := ih w (by omega) hp
      split <;> omega
theorem tl_cn_cg {p q : Nat → Bool} : ∀ n, (∀ w, w < n → p w = q w) → tl_cn p n = tl_cn q n := by
  intro n
  induction n with
  | zero => intro _; rfl
  | succ n ih =>
    intro h
    unfold tl_cn
    rw [ih (fun w hw => h w (by omega)), h n (by omega)]
theorem tl_cn_up {p q : Nat → Bool} : ∀ n w, w < n → p w = false → q w = true → (∀ x, x < n → x ≠ w → q x = p x) → tl_cn q n = tl_cn p n + 1 := by
  intro n
  induction n with
  | zero => intro w h; omega
  | succ n ih =>
    intro w hw hp hq h
    unfold tl_cn
    by_cases e : w = n
    · subst e
      rw [tl_cn_cg (p := q) (q := p) w (fun x hx => h x (by omega) (by omega)), hp, hq]
      simp
    · rw [ih w (by omega) hp hq (fun x hx => h x (by omega)), h n (by omega) (by omega)]
      omega
theorem tl_cn_no {p : Nat → Bool} : ∀ d n, (∀ w, n ≤ w → w < n + d → p w = false) → tl_cn p (n + d) = tl_cn p n := by
  intro d
  induction d with
  | zero => intro n _; rfl
  | succ d ih =>
    intro n h
    show tl_cn p (n + d) + (if p (n + d) = true then 1 else 0) = _
    rw [ih n (fun w a b => h w a (by omega)), h (n + d) (by omega) (by omega)]
    simp
/-! the order -/
abbrev tl_be (s o : Nat → Int32) (a b : Nat) : Prop := (s a).toInt < (s b).toInt ∨ ((s a).toInt = (s b).toInt ∧ (o a).toInt < (o b).toInt)
abbrev tl_lt (s o : Nat → Int32) (a b : Nat) : Prop := (s a).toInt < (s b).toInt ∨ ((s a).toInt = (s b).toInt ∧ ((o a).toInt < (o b).toInt ∨ ((o a).toInt = (o b).toInt ∧ a < b)))
theorem tl_lt_tr {s o : Nat → Int32} {a b c : Nat} (h : tl_lt s o a b) (k : tl_lt s o b c) : tl_lt s o a c := by
  unfold tl_lt at *; omega
theorem tl_lt_as {s o : Nat → Int32} {a b : Nat} (h : tl_lt s o a b) (k : tl_lt s o b a) : False := by
  unfold tl_lt at *; omega
theorem tl_lt_ne {s o : Nat → Int32} {a b : Nat} (h : tl_lt s o a b) : a ≠ b := by
  unfold tl_lt at h; intro e; subst e; omega
theorem tl_be_lt {s o : Nat → Int32} {a b : Nat} (h : tl_be s o a b) : tl_lt s o a b := by
  unfold tl_be tl_lt at *; omega
theorem tl_nbe_lt {s o : Nat → Int32} {a b : Nat} (h : ¬ tl_be s o a b) (k : b < a) : tl_lt s o b a := by
  unfold tl_be tl_lt at *; omega
theorem tl_lt_cg {s o s' o' : Nat → Int32} {a b : Nat} (h : tl_lt s o a b) (e1 : s' a = s a) (e2 : s' b = s b) (e3 : o' a = o a) (e4 : o' b = o b) : tl_lt s' o' a b := by
  unfold tl_lt at *; rw [e1, e2, e3, e4]; exact h
def tl_srt (s o : Nat → Int32) (W : Nat) (b : Nat → Nat) : Prop :=
  (∀ i, i < W → b i < W) ∧ (∀ i j, i < j → j < W → tl_lt s o (b i) (b j)) ∧ (∀ w, w < W → ∃ i, i < W ∧ b i = w)
theorem tl_srt_inj {s o : Nat → Int32} {W : Nat} {b : Nat → Nat} (h : tl_srt s o W b) {i j : Nat} (hi : i < j) (hj : j < W) : b i ≠ b j :=
  tl_lt_ne (h.2.1 i j hi hj)
/-! the insertion: b' is b with W put at a -/
def tl_ins (a W : Nat) (b : Nat → Nat) : Nat → Nat := fun i => if i < a then b i else if i = a then W else b (i - 1)
theorem tl_ins_srt {s o s' o' : Nat → Int32} {W a : Nat} {b : Nat → Nat} (h : tl_srt s o W b) (ha : a ≤ W)
    (es : ∀ w, w < W → s' w = s w) (eo : ∀ w, w < W → o' w = o w)
    (hl : a = 0 ∨ ¬ tl_be s' o' W (b (a - 1))) (hr : ∀ j, a ≤ j → j < W → tl_be s' o' W (b j)) : tl_srt s' o' (W + 1) (tl_ins a W b) := by
  obtain ⟨h1, h2, h3⟩ := h
  have old : ∀ i j, i < j → j < W → tl_lt s' o' (b i) (b j) := fun i j hi hj =>
    tl_lt_cg (h2 i j hi hj) (es _ (h1 i (by omega))) (es _ (h1 j hj)) (eo _ (h1 i (by omega))) (eo _ (h1 j hj))
  have lo : ∀ i, i < a → tl_lt s' o' (b i) W := by
    intro i hi
    have q : tl_lt s' o' (b (a - 1)) W := by
      rcases hl with z | z
      · omega
      · exact tl_nbe_lt z (h1 _ (by omega))
    by_cases e : i = a - 1
    · rw [e]; exact q
    · exact tl_lt_tr (old i (a - 1) (by omega) (by omega)) q
  refine ⟨?_, ?_, ?_⟩
  · intro i hi
    unfold tl_ins
    split
    · have := h1 i (by omega); omega
    · split
      · omega
      · have := h1 (i - 1) (by omega); omega
  · intro i j hi hj
    unfold tl_ins
    by_cases c1 : j < a
    · rw [if_pos (show i < a by omega), if_pos c1]; exact old i j hi (by omega)
    · rw [if_neg c1]
      by_cases c2 : j = a
      · rw [if_pos c2, if_pos (show i < a by omega)]; exact lo i (by omega)
      · rw [if_neg c2]
        by_cases c3 : i < a
        · rw [if_pos c3]; exact old i (j - 1) (by omega) (by omega)
        · rw [if_neg c3]
          by_cases c4 : i = a
          · rw [if_pos c4]; exact tl_be_lt (hr (j - 1) (by omega) (by omega))
          · rw [if_neg c4]; exact old (i - 1) (j - 1) (by omega) (by omega)
  · intro w hw
    by_cases e : w = W
    · refine ⟨a, by omega, ?_⟩
      unfold tl_ins
      rw [if_neg (by omega), if_pos rfl, e]
    · obtain ⟨i, hi, ei⟩ := h3 w (by omega)
      by_cases c : i < a
      · refine ⟨i, by omega, ?_⟩
        unfold tl_ins
        rw [if_pos c]; exact ei
      · refine ⟨i + 1, by omega, ?_⟩
        unfold tl_ins
        rw [if_neg (by omega), if_neg (by omega)]; exact ei
/-! the first left -/
def tl_fl (s o : Nat → Int32) (l : Nat → Bool) : Nat → Option Nat
  | 0 => none
  | n + 1 => if l n = true then (match tl_fl s o l n with | none => some n | some b => if tl_be s o n b then some n else some b) else tl_fl s o l n
theorem tl_fl_spec {s o : Nat → Int32} {l : Nat → Bool} : ∀ n, (∀ b, tl_fl s o l n = some b → b < n ∧ l b = true ∧ ∀ x, x < n → l x = true → x = b ∨ tl_lt s o b x) ∧ (tl_fl s o l n = none → ∀ x, x < n → l x = false) := by
  intro n
  induction n with
  | zero => exact ⟨fun b h => (nomatch h), fun _ x hx => absurd hx (by omega)⟩
  | succ n ih =>
    unfold tl_fl
    by_cases hn : l n = true
    · rw [if_pos hn]
      cases hf : tl_fl s o l n with
      | none =>
        refine ⟨fun b h => ?_, fun h => (nomatch h)⟩
        cases h
        refine ⟨by omega, hn, fun x hx lx => ?_⟩
        by_cases e : x = n
        · exact Or.inl e
        · rw [ih.2 hf x (by omega)] at lx; cases lx
      | some b0 =>
        obtain ⟨q1, q2, q3⟩ := ih.1 b0 hf
        by_cases hb : tl_be s o n b0
        · refine ⟨fun b h => ?_, fun h => ?_⟩
          · replace h : (if tl_be s o n b0 then some n else some b0) = some b := h
            rw [if_pos hb] at h
            cases h
            refine ⟨by omega, hn, fun x hx lx => ?_⟩
            by_cases e : x = n
            · exact Or.inl e
            · rcases q3 x (by omega) lx with z | z
              · rw [z]; exact Or.inr (tl_be_lt hb)
              · exact Or.inr (tl_lt_tr (tl_be_lt hb) z)
          · replace h : (if tl_be s o n b0 then some n else some b0) = none := h
            rw [if_pos hb] at h; cases h
        · refine ⟨fun b h => ?_, fun h => ?_⟩
          · replace h : (if tl_be s o n b0 then some n else some b0) = some b := h
            rw [if_neg hb] at h
            cases h
            refine ⟨by omega, q2, fun x hx lx => ?_⟩
            by_cases e : x = n
            · rw [e]; exact Or.inr (tl_nbe_lt hb q1)
            · exact q3 x (by omega) lx
          · replace h : (if tl_be s o n b0 then some n else some b0) = none := h
            rw [if_neg hb] at h; cases h
    · rw [if_neg hn]
      have hn' := ts_nt hn
      refine ⟨fun b h => ?_, fun h x hx => ?_⟩
      · obtain ⟨q1, q2, q3⟩ := ih.1 b h
        refine ⟨by omega, q2, fun x hx lx => ?_⟩
        by_cases e : x = n
        · subst e; rw [hn'] at lx; cases lx
        · exact q3 x (by omega) lx
      · by_cases e : x = n
        · rw [e]; exact hn'
        · exact ih.2 h x (by omega)
theorem tl_fl_eq {s o : Nat → Int32} {l : Nat → Bool} {W i : Nat} {b : Nat → Nat} (h : tl_srt s o W b) (hi : i < W) (hl : l (b i) = true) (hb : ∀ j, j < i → l (b j) = false) : tl_fl s o l W = some (b i) := by
  have q := tl_fl_spec (s := s) (o := o) (l := l) W
  cases hf : tl_fl s o l W with
  | none => have := q.2 hf (b i) (h.1 i hi); rw [hl] at this; cases this
  | some x =>
    obtain ⟨q1, q2, q3⟩ := q.1 x hf
    obtain ⟨j, hj, ej⟩ := h.2.2 x q1
    rcases Nat.lt_trichotomy i j with c | c | c
    · rcases q3 (b i) (h.1 i hi) hl with z | z
      · rw [z]
      · rw [← ej] at z; exact (tl_lt_as z (h.2.1 i j c hj)).elim
    · rw [← ej, c]
    · have := hb j c; rw [ej, q2] at this; cases this
theorem tl_fl_no {s o : Nat → Int32} {l : Nat → Bool} {W : Nat} (h : ∀ x, x < W → l x = false) : tl_fl s o l W = none := by
  cases hf : tl_fl s o l W with
  | none => rfl
  | some x =>
    obtain ⟨q1, q2, _⟩ := (tl_fl_spec (s := s) (o := o) (l := l) W).1 x hf
    rw [h x q1] at q2; cases q2
/-! the commit order and the places -/
def tl_P (W c : Nat) (od p : Nat → Nat) (plc ord : Nat → Int32) : Prop :=
  (∀ w, w < W → plc w = nI (p w) ∧ (p w = 48 ∨ (p w < c ∧ od (p w) = w))) ∧ (∀ i, i < c → ord i = nI (od i) ∧ od i < W ∧ p (od i) = i) ∧ tl_cn (fun w => decide (p w ≠ 48)) W = c
theorem tl_P_le {W c : Nat} {od p : Nat → Nat} {plc ord : Nat → Int32} (h : tl_P W c od p plc ord) : c ≤ W := by
  have := tl_cn_le (fun w => decide (p w ≠ 48)) W
  rw [h.2.2] at this; exact this
theorem tl_P_lt {W c w : Nat} {od p : Nat → Nat} {plc ord : Nat → Int32} (h : tl_P W c od p plc ord) (hw : w < W) (hp : p w = 48) : c < W := by
  have := tl_cn_lt (fun w => decide (p w ≠ 48)) W w hw (by simp [hp])
  rw [h.2.2] at this; exact this
theorem tl_P_add {W c : Nat} {od p : Nat → Nat} {plc ord : Nat → Int32} (h : tl_P W c od p plc ord) : tl_P (W + 1) c od (fun w => if w = W then 48 else p w) (upd plc W (nI 48)) ord := by
  obtain ⟨h1, h2, h3⟩ := h
  refine ⟨fun w hw => ?_, fun i hi => ?_, ?_⟩
  · by_cases e : w = W
    · subst e
      refine ⟨?_, Or.inl (if_pos rfl)⟩
      rw [pk_us]; dsimp only; rw [if_pos rfl]
    · dsimp only
      rw [pk_un e, if_neg e]; exact h1 w (by omega)
  · obtain ⟨a, b, d⟩ := h2 i hi
    refine ⟨a, by omega, ?_⟩
    dsimp only
    rw [if_neg (by omega)]; exact d
  · show tl_cn _ W + _ = c
    have e : tl_cn (fun w => decide ((if w = W then 48 else p w) ≠ 48)) W = tl_cn (fun w => decide (p w ≠ 48)) W := by
      refine tl_cn_cg W (fun w hw => ?_)
      have z : w ≠ W := by omega
      simp [z]
    rw [e, h3]
    simp
theorem tl_P_com {W c w : Nat} {od p : Nat → Nat} {plc ord : Nat → Int32} (h : tl_P W c od p plc ord) (hW : W ≤ 48) (hw : w < W) (hp : p w = 48) : tl_P W (c + 1) (fun i => if i = c then w else od i) (fun x => if x = w then c else p x) (upd plc w (nI c)) (upd ord c (nI w)) := by
  have hc := tl_P_lt h hw hp
  obtain ⟨h1, h2, h3⟩ := h
  refine ⟨fun x hx => ?_, fun i hi => ?_, ?_⟩
  · by_cases e : x = w
    · subst e
      dsimp only
      rw [pk_us, if_pos rfl, if_pos rfl]
      exact ⟨rfl, Or.inr ⟨by omega, rfl⟩⟩
    · dsimp only
      rw [pk_un e, if_neg e]
      obtain ⟨a, b⟩ := h1 x hx
      refine ⟨a, ?_⟩
      rcases b with b | ⟨b, d⟩
      · exact Or.inl b
      · refine Or.inr ⟨by omega, ?_⟩
        rw [if_neg (by omega)]; exact d
  · by_cases e : i = c
    · subst e
      dsimp only
      rw [pk_us, if_pos rfl, if_pos rfl]
      exact ⟨rfl, hw, rfl⟩
    · dsimp only
      rw [pk_un e, if_neg e]
      obtain ⟨a, b, d⟩ := h2 i (by omega)
      refine ⟨a, b, ?_⟩
      rw [if_neg (by intro z; rw [z, hp] at d; omega)]; exact d
  · rw [tl_cn_up (p := fun w => decide (p w ≠ 48)) W w hw (by simp [hp]) (by simp; omega) (fun x hx e => by simp [e]), h3]
/-! a set's bits -/
def tl_kb (s : Int64) (w : Nat) : Bool := s.toBitVec.getLsbD w
theorem tl_kb_1 (x : Int64) : (x &&& 1) = 1 ↔ ¬ (x &&& 1) = 0 := by
  rw [← Int64.toBitVec_inj, ← Int64.toBitVec_inj, Int64.toBitVec_and]
  show x.toBitVec &&& 1#64 = 1#64 ↔ ¬ x.toBitVec &&& 1#64 = 0#64
  generalize x.toBitVec = y
  rw [← BitVec.toNat_inj, ← BitVec.toNat_inj, BitVec.toNat_and]
  show y.toNat &&& 1 = 1 ↔ ¬ y.toNat &&& 1 = 0
  rw [Nat.and_one_is_mod]
  omega
theorem tl_kb_t {s : Int64} {w : Nat} (hw : w < 64) : (((s.toUInt64 >>> ((nI w).toInt64.toUInt64 &&& Int64.toUInt64 63)).toInt64) &&& 1) = 1 ↔ tl_kb s w = true := by
  rw [tl_kb_1, wb_cu w hw, ts_bit hw (by rw [UInt64.toNat_ofNat', Nat.mod_eq_of_lt (by omega)])]
  unfold tl_kb
  cases s.toBitVec.getLsbD w <;> simp
theorem tl_kb_or (a b : Int64) (j : Nat) : tl_kb (a ||| b) j = (tl_kb a j || tl_kb b j) := by
  unfold tl_kb; rw [Int64.toBitVec_or, BitVec.getLsbD_or]
theorem tl_kb_an {a b : Int64} {j : Nat} (hj : j < 64) : tl_kb (a &&& (b ^^^ (-1))) j = (tl_kb a j && !tl_kb b j) := by
  have ha : (-1 : Int64).toBitVec = BitVec.allOnes 64 := by decide
  unfold tl_kb
  rw [Int64.toBitVec_and, Int64.toBitVec_xor, ha, BitVec.getLsbD_and, BitVec.getLsbD_xor, BitVec.getLsbD_allOnes]
  simp [hj]
theorem tl_kb_sh {w j : Nat} (hw : w < 64) (hj : j < 64) : tl_kb ((1 : Int64) <<< ((nI w).toInt64 &&& 63)) j = decide (j = w) := by
  unfold tl_kb
  rw [wb_c w hw, Int64.toBitVec_shiftLeft, wb_tb, wb_sm w hw]
  show (1#64 <<< (BitVec.ofNat 64 w)).getLsbD j = _
  rw [BitVec.shiftLeft_eq', BitVec.toNat_ofNat, Nat.mod_eq_of_lt (by omega), BitVec.getLsbD_shiftLeft]
  by_cases e : j = w
  · subst e; simp [hj]
  · by_cases c : j < w
    · simp [c, e]
    · have : ¬ (j - w = 0) := by omega
      simp [e, c]
      omega
theorem tl_kb_0 (j : Nat) : tl_kb 0 j = false := by
  unfold tl_kb
  show (0#64).getLsbD j = false
  simp
def tl_K (W : Nat) (sts : Nat → Int64) (kno : Nat → Int32) : Prop :=
  ∀ r, r < 4 → ∀ w, w < 48 → ((kno (r * 48 + w) = 0 ↔ tl_kb (sts r) w = false) ∧ (W ≤ w → tl_kb (sts r) w = false))
end
section
/-! ===== one write run on a store: pure, and both walks ===== -/
section
variable {xR xW yC : Int32} {org stp knd tgt val plc bys ord cms clk trm stx oux kno sty sny : Nat → Int32} {sts : Nat → Int64}
theorem tl_a7 {a : Nat} (h : a < 2 ^ 31) : nI a &&& 7 = nI (a % 8) := pk_andN (by omega) 3 (by decide)
def tl_cl (c : Nat) (v : Int32) (st : Nat → Int32) : Nat → Nat → Int32 × (Nat → Int32)
  | 0, _ => (4, st)
  | n + 1, i => if st ((c + i) % 8) = 0 then (if i = 0 then (2, upd st ((c + i) % 8) v) else (3, upd st ((c + i) % 8) v)) else tl_cl c v st n (i + 1)
def tl_run (c k : Nat) (v : Int32) (st : Nat → Int32) : Int32 × (Nat → Int32) :=
  match k with
  | 0 => (2, upd st c v)
  | 1 => (2, upd st c (st c + v))
  | 2 => if st c < v then (if st ((c + 1) % 8) < v then (4, st) else (3, upd st ((c + 1) % 8) (st ((c + 1) % 8) - v))) else (2, upd st c (st c - v))
  | 3 => if st c < v then (4, st) else (2, upd (upd st c (st c - v)) ((c + 1) % 8) (upd st c (st c - v) ((c + 1) % 8) + v))
  | 4 => tl_cl c v st 8 0
  | _ => (2, upd (upd st c (st ((c + 1) % 8))) ((c + 1) % 8) (st c))
theorem tl_run_2 (c : Nat) (v : Int32) (st : Nat → Int32) : tl_run c 2 v st = if st c < v then (if st ((c + 1) % 8) < v then (4, st) else (3, upd st ((c + 1) % 8) (st ((c + 1) % 8) - v))) else (2, upd st c (st c - v)) := rfl
theorem tl_run_3 (c : Nat) (v : Int32) (st : Nat → Int32) : tl_run c 3 v st = if st c < v then (4, st) else (2, upd (upd st c (st c - v)) ((c + 1) % 8) (upd st c (st c - v) ((c + 1) % 8) + v)) := rfl
theorem tl_ne2 : (2 : Int32) ≠ 0 := by decide
theorem tl_ne3 : (3 : Int32) ≠ 0 := by decide
theorem tl_ne4 : (4 : Int32) ≠ 0 := by decide
theorem tl_cl_ne (c : Nat) (v : Int32) (st : Nat → Int32) : ∀ n i, (tl_cl c v st n i).1 ≠ 0 := by
  intro n
  induction n with
  | zero => intro i; exact tl_ne4
  | succ n ih =>
    intro i
    unfold tl_cl
    split
    · split
      · exact tl_ne2
      · exact tl_ne3
    · exact ih (i + 1)
theorem tl_run_ne (c k : Nat) (v : Int32) (st : Nat → Int32) : (tl_run c k v st).1 ≠ 0 := by
  unfold tl_run
  split
  · exact tl_ne2
  · exact tl_ne2
  · split
    · split
      · exact tl_ne4
      · exact tl_ne3
    · exact tl_ne2
  · split
    · exact tl_ne4
    · exact tl_ne2
  · exact tl_cl_ne c v st 8 0
  · exact tl_ne2
theorem tl_up_hi {st : Nat → Int32} {a : Nat} {x : Int32} {j : Nat} (ha : a < 8) (hs : ∀ j, 8 ≤ j → st j = 0) (hj : 8 ≤ j) : upd st a x j = 0 := by
  rw [pk_un (by omega)]; exact hs j hj
theorem tl_cl_hi (c : Nat) (v : Int32) {st : Nat → Int32} (hs : ∀ j, 8 ≤ j → st j = 0) : ∀ n i j, 8 ≤ j → (tl_cl c v st n i).2 j = 0 := by
  intro n
  induction n with
  | zero => intro i; exact hs
  | succ n ih =>
    intro i j hj
    unfold tl_cl
    split
    · split <;> exact tl_up_hi (by omega) hs hj
    · exact ih (i + 1) j hj
theorem tl_run_hi {c : Nat} (k : Nat) (v : Int32) {st : Nat → Int32} (hc : c < 8) (hs : ∀ j, 8 ≤ j → st j = 0) : ∀ j, 8 ≤ j → (tl_run c k v st).2 j = 0 := by
  intro j hj
  unfold tl_run
  split
  · exact tl_up_hi hc hs hj
  · exact tl_up_hi hc hs hj
  · split
    · split
      · exact hs j hj
      · exact tl_up_hi (by omega) hs hj
    · exact tl_up_hi hc hs hj
  · split
    · exact hs j hj
    · exact tl_up_hi (by omega) (fun j hj => tl_up_hi hc hs hj) hj
  · exact tl_cl_hi c v hs 8 0 j hj
  · exact tl_up_hi (by omega) (fun j hj => tl_up_hi hc hs hj) hj
theorem tl_xcl {post : Int32 → SX → Prop} {c : Nat} (hc : c < 8) (v : Int32) : ∀ d i, i + d = 8 → post (tl_cl c v stx d i).1 (xR, xW, org, stp, knd, tgt, val, plc, bys, ord, sts, cms, clk, trm, (tl_cl c v stx d i).2, oux) → wX_runClaim_2 post (nI c) v xR xW org stp knd tgt val plc bys ord sts cms clk trm stx oux (d + 1) (nI i) := by
  intro d
  induction d with
  | zero => intro i hi hp; exact br_t (nI_le (a := 8) (by omega) (by omega)) hp
  | succ d ih =>
    intro i hi hp
    have h : ¬ (8 : Int32) ≤ nI i := nI_ge (b := 8) (by omega) (by decide)
    have hin : vp_in (nI ((c + i) % 8)) 8 := vp_in_nI (by omega) (by omega)
    have hcl := nI_clamp (n := (c + i) % 8) (by omega)
    refine br_f h (nm_r (e' := nI ((c + i) % 8)) (by rw [nI_add, tl_a7 (by omega)]) ⟨hin, ?_⟩)
    rw [hcl]
    unfold tl_cl at hp
    by_cases z : stx ((c + i) % 8) = 0
    · rw [if_pos z] at hp
      refine br_t z ⟨hin, nm_e ?_⟩
      by_cases z0 : i = 0
      · rw [if_pos z0] at hp
        exact br_t (by rw [z0]; rfl) hp
      · rw [if_neg z0] at hp
        exact br_f (nI_ne0 (by omega) (by omega)) hp
    · rw [if_neg z] at hp
      exact br_f z (nm_r (nI_1 i) (ih (i + 1) (by omega) hp))
theorem tl_ycl {post : Int32 → SY → Prop} {c : Nat} (hc : c < 8) (v : Int32) : ∀ d i, i + d = 8 → post (tl_cl c v sty d i).1 (xR, xW, yC, org, stp, knd, tgt, val, kno, ord, cms, clk, trm, (tl_cl c v sty d i).2, sny) → wY_claim_2 post (nI c) v xR xW yC org stp knd tgt val kno ord cms clk trm sty sny (d + 1) (nI i) := by
  intro d
  induction d with
  | zero => intro i hi hp; exact br_t (nI_le (a := 8) (by omega) (by omega)) hp
  | succ d ih =>
    intro i hi hp
    have h : ¬ (8 : Int32) ≤ nI i := nI_ge (b := 8) (by omega) (by decide)
    have hin : vp_in (nI ((c + i) % 8)) 8 := vp_in_nI (by omega) (by omega)
    have hcl := nI_clamp (n := (c + i) % 8) (by omega)
    have he : (nI c + nI i) &&& 7 = nI ((c + i) % 8) := by rw [nI_add, tl_a7 (by omega)]
    refine br_f h ?_
    rw [he, hcl]
    refine ⟨hin, ?_⟩
    unfold tl_cl at hp
    by_cases z : sty ((c + i) % 8) = 0
    · rw [if_pos z] at hp
      refine br_t z ⟨hin, nm_e ?_⟩
      by_cases z0 : i = 0
      · rw [if_pos z0] at hp
        exact br_t (by rw [z0]; rfl) hp
      · rw [if_neg z0] at hp
        exact br_f (nI_ne0 (by omega) (by omega)) hp
    · rw [if_neg z] at hp
      exact br_f z (nm_r (nI_1 i) (ih (i + 1) (by omega) hp))
theorem tl_xrun {post : Int32 → SX → Prop} {w c k : Nat} (hw : w < 48) (hc : c < 8) (hk : k ≤ 5) (ec : tgt w = nI c) (ek : knd w = nI k) (h : post (tl_run c k (val w) stx).1 (xR, xW, org, stp, knd, tgt, val, plc, bys, ord, sts, cms, clk, trm, (tl_run c k (val w) stx).2, oux)) : wpX_runWrite post (xR, xW, org, stp, knd, tgt, val, plc, bys, ord, sts, cms, clk, trm, stx, oux) (nI w) := by
  have hin : vp_in (nI w) 48 := vp_in_nI hw (by omega)
  have hcl := nI_clamp (n := w) (by omega)
  have hic : vp_in (nI c) 8 := vp_in_nI hc (by omega)
  have hcc := nI_clamp (n := c) (by omega)
  have e7 : (nI c + 1) &&& 7 = nI ((c + 1) % 8) := by rw [nI_1, tl_a7 (by omega)]
  have hin' : vp_in (nI ((c + 1) % 8)) 8 := vp_in_nI (by omega) (by omega)
  have hcn := nI_clamp (n := (c + 1) % 8) (by omega)
  unfold wpX_runWrite
  dsimp only
  rw [hcl]
  refine ⟨hin, nm_r ec ⟨hin, nm_e ⟨hin, nm_r ek ?_⟩⟩⟩
  refine br_f (nI_pos (by omega)) ?_
  have hk' : k = 0 ∨ k = 1 ∨ k = 2 ∨ k = 3 ∨ k = 4 ∨ k = 5 := by omega
  rcases hk' with rfl | rfl | rfl | rfl | rfl | rfl
  · refine br_f (by decide) (br_t (by decide) ⟨hic, nm_e ?_⟩)
    rw [hcc]; exact h
  · refine br_f (by decide) (br_f (by decide) (br_t (by decide) ⟨hic, hic, nm_e ?_⟩))
    rw [hcc]; exact h
  · refine br_f (by decide) (br_f (by decide) (br_f (by decide) (br_t (by decide) ?_)))
    unfold wpX_runTake
    dsimp only
    refine nm_r e7 ⟨hic, ?_⟩
    rw [hcc, hcn]
    rw [tl_run_2] at h
    by_cases z : stx c < val w
    · rw [if_pos z] at h
      refine br_t z ⟨hin', ?_⟩
      by_cases z2 : stx ((c + 1) % 8) < val w
      · rw [if_pos z2] at h
        exact br_t z2 h
      · rw [if_neg z2] at h
        exact br_f z2 ⟨hin', hin', nm_e h⟩
    · rw [if_neg z] at h
      exact br_f z ⟨hic, hic, nm_e h⟩
  · refine br_f (by decide) (br_f (by decide) (br_f (by decide) (br_f (by decide) (br_t (by decide) ?_))))
    unfold wpX_runMove
    dsimp only
    refine nm_r e7 ⟨hic, ?_⟩
    rw [hcc, hcn]
    rw [tl_run_3] at h
    by_cases z : stx c < val w
    · rw [if_pos z] at h
      exact br_f (Int32.not_le.mpr z) h
    · rw [if_neg z] at h
      exact br_t (Int32.not_lt.mp z) ⟨hic, hic, nm_e ⟨hin', hin', nm_e h⟩⟩
  · refine br_f (by decide) (br_f (by decide) (br_f (by decide) (br_f (by decide) (br_f (by decide) (br_t (by decide) ?_)))))
    unfold wpX_runClaim
    dsimp only
    exact ⟨9, tl_xcl hc (val w) 8 0 rfl h⟩
  · refine br_t (by decide) ?_
    unfold wpX_runSwap
    dsimp only
    refine nm_r e7 ⟨hic, nm_e ⟨hin', hic, nm_e ⟨hin', nm_e ?_⟩⟩⟩
    rw [hcc, hcn]; exact h
theorem tl_yrun {post : Int32 → SY → Prop} {w c k : Nat} (hw : w < 48) (hc : c < 8) (hk : k ≤ 5) (ec : tgt w = nI c) (ek : knd w = nI k) (h : post (tl_run c k (val w) sty).1 (xR, xW, yC, org, stp, knd, tgt, val, kno, ord, cms, clk, trm, (tl_run c k (val w) sty).2, sny)) : wpY_carryOut post (xR, xW, yC, org, stp, knd, tgt, val, kno, ord, cms, clk, trm, sty, sny) (nI w) := by
  have hin : vp_in (nI w) 48 := vp_in_nI hw (by omega)
  have hcl := nI_clamp (n := w) (by omega)
  have hic : vp_in (nI c) 8 := vp_in_nI hc (by omega)
  have hcc := nI_clamp (n := c) (by omega)
  have e7 : (nI c + 1) &&& 7 = nI ((c + 1) % 8) := by rw [nI_1, tl_a7 (by omega)]
  have hin' : vp_in (nI ((c + 1) % 8)) 8 := vp_in_nI (by omega) (by omega)
  have hcn := nI_clamp (n := (c + 1) % 8) (by omega)
  unfold wpY_carryOut
  dsimp only
  rw [hcl, ek]
  refine ⟨hin, nm_r ec (nm_r e7 ⟨hin, nm_e ⟨hic, ?_⟩⟩)⟩
  rw [hcc, hcn]
  refine nm_e ⟨hin, ?_⟩
  have hk' : k = 0 ∨ k = 1 ∨ k = 2 ∨ k = 3 ∨ k = 4 ∨ k = 5 := by omega
  rcases hk' with rfl | rfl | rfl | rfl | rfl | rfl
  · exact br_t (by decide) ⟨hic, nm_e h⟩
  · exact br_f (by decide) ⟨hin, br_t (by decide) ⟨hic, nm_e h⟩⟩
  · refine br_f (by decide) ⟨hin, br_f (by decide) ⟨hin, br_f (by decide) ⟨hin, br_f (by decide) ?_⟩⟩⟩
    rw [tl_run_2] at h
    by_cases z : sty c < val w
    · rw [if_pos z] at h
      refine br_t z ⟨hin, br_t (by decide) ⟨hin', ?_⟩⟩
      by_cases z2 : sty ((c + 1) % 8) < val w
      · rw [if_pos z2] at h
        exact br_t z2 h
      · rw [if_neg z2] at h
        exact br_f z2 ⟨hin', hin', nm_e h⟩
    · rw [if_neg z] at h
      exact br_f z ⟨hic, nm_e ⟨hin, br_f (by decide) h⟩⟩
  · refine br_f (by decide) ⟨hin, br_f (by decide) ⟨hin, br_f (by decide) ⟨hin, br_f (by decide) ?_⟩⟩⟩
    rw [tl_run_3] at h
    by_cases z : sty c < val w
    · rw [if_pos z] at h
      exact br_t z ⟨hin, br_f (by decide) h⟩
    · rw [if_neg z] at h
      exact br_f z ⟨hic, nm_e ⟨hin, br_t (by decide) ⟨hin', hin', nm_e h⟩⟩⟩
  · refine br_f (by decide) ⟨hin, br_f (by decide) ⟨hin, br_f (by decide) ⟨hin, br_t (by decide) ?_⟩⟩⟩
    unfold wpY_claim
    dsimp only
    exact ⟨9, tl_ycl hc (val w) 8 0 rfl h⟩
  · exact br_f (by decide) ⟨hin, br_f (by decide) ⟨hin, br_t (by decide) ⟨hin', hic, nm_e ⟨hin', nm_e h⟩⟩⟩⟩
end
end
section
/-! ===== the component's walks against the pure pictures ===== -/
def tl_V (W : Nat) (knd tgt : Nat → Int32) : Prop := ∀ w, w < W → (∃ c, c < 8 ∧ tgt w = nI c) ∧ (∃ k, k ≤ 5 ∧ knd w = nI k)
def tl_rw (tgt knd val : Nat → Int32) (w : Nat) (st : Nat → Int32) : Int32 × (Nat → Int32) := tl_run (tgt w).toNatClampNeg (knd w).toNatClampNeg (val w) st
def tl_cs (tgt knd val : Nat → Int32) (od : Nat → Nat) : Nat → Nat → Int32
  | 0 => fun _ => 0
  | i + 1 => (tl_rw tgt knd val (od i) (tl_cs tgt knd val od i)).2
def tl_ts (tgt knd val : Nat → Int32) (b : Nat → Nat) (t : Nat → Bool) (s0 : Nat → Int32) : Nat → Nat → Int32
  | 0 => s0
  | i + 1 => if t (b i) = true then (tl_rw tgt knd val (b i) (tl_ts tgt knd val b t s0 i)).2 else tl_ts tgt knd val b t s0 i
def tl_to (tgt knd val : Nat → Int32) (b : Nat → Nat) (t : Nat → Bool) (s0 o0 : Nat → Int32) : Nat → Nat → Int32
  | 0 => o0
  | i + 1 => if t (b i) = true then upd (tl_to tgt knd val b t s0 o0 i) (b i) (tl_rw tgt knd val (b i) (tl_ts tgt knd val b t s0 i)).1 else tl_to tgt knd val b t s0 o0 i
section
variable {xR xW yC : Int32} {org stp knd tgt val plc bys ord cms clk trm stx oux kno sty sny : Nat → Int32} {sts : Nat → Int64}
theorem tl_rw_hi {W w : Nat} {st : Nat → Int32} (hV : tl_V W knd tgt) (hw : w < W) (hs : ∀ j, 8 ≤ j → st j = 0) : ∀ j, 8 ≤ j → (tl_rw tgt knd val w st).2 j = 0 := by
  obtain ⟨⟨c, hc, ec⟩, k, hk, ek⟩ := hV w hw
  unfold tl_rw
  rw [ec, nI_clamp (by omega)]
  exact tl_run_hi _ _ hc hs
theorem tl_cs_hi {W M : Nat} {od : Nat → Nat} (hV : tl_V W knd tgt) (ho : ∀ i, i < M → od i < W) : ∀ i, i ≤ M → ∀ j, 8 ≤ j → tl_cs tgt knd val od i j = 0 := by
  intro i
  induction i with
  | zero => intro _ j _; rfl
  | succ i ih => intro hi; exact tl_rw_hi hV (ho i (by omega)) (ih (by omega))
theorem tl_ts_hi {W : Nat} {b : Nat → Nat} {t : Nat → Bool} {s0 : Nat → Int32} (hV : tl_V W knd tgt) (hb : ∀ i, i < W → b i < W) (hs : ∀ j, 8 ≤ j → s0 j = 0) : ∀ i, i ≤ W → ∀ j, 8 ≤ j → tl_ts tgt knd val b t s0 i j = 0 := by
  intro i
  induction i with
  | zero => intro _; exact hs
  | succ i ih =>
    intro hi
    unfold tl_ts
    split
    · exact tl_rw_hi hV (hb i (by omega)) (ih (by omega))
    · exact ih (by omega)
theorem tl_xrw {post : Int32 → SX → Prop} {W w : Nat} (hV : tl_V W knd tgt) (hW : W ≤ 48) (hw : w < W) (h : post (tl_rw tgt knd val w stx).1 (xR, xW, org, stp, knd, tgt, val, plc, bys, ord, sts, cms, clk, trm, (tl_rw tgt knd val w stx).2, oux)) : wpX_runWrite post (xR, xW, org, stp, knd, tgt, val, plc, bys, ord, sts, cms, clk, trm, stx, oux) (nI w) := by
  obtain ⟨⟨c, hc, ec⟩, k, hk, ek⟩ := hV w hw
  unfold tl_rw at h
  rw [ec, ek, nI_clamp (n := c) (by omega), nI_clamp (n := k) (by omega)] at h
  exact tl_xrun (by omega) hc hk ec ek h
theorem tl_xz {post : SX → Prop} {x1 : Int32} (h : ∃ n23, wX_runCommitted_23 post x1 n23 0 xR xW org stp knd tgt val plc bys ord sts cms clk trm ((fun _ => 0)) oux) : ∀ d i st, i + d = 8 → (∀ j, (j < i ∨ 8 ≤ j) → st j = 0) → wX_runCommitted_2 post x1 xR xW (d + 1) (nI i) org stp knd tgt val plc bys ord sts cms clk trm st oux := by
  intro d
  induction d with
  | zero =>
    intro i st hi hs
    have e : st = fun _ => 0 := funext fun j => hs j (by omega)
    subst e
    exact br_t (nI_le (a := 8) (by omega) (by omega)) h
  | succ d ih =>
    intro i st hi hs
    refine br_f (nI_ge (b := 8) (by omega) (by decide)) ⟨vp_in_nI (by omega) (by omega), nm_e (nm_r (nI_1 i) (ih (i + 1) _ (by omega) ?_))⟩
    intro j hj
    rw [nI_clamp (by omega)]
    by_cases e : j = i
    · subst e; exact pk_us
    · rw [pk_un e]; exact hs j (by omega)
theorem tl_xc {post : SX → Prop} {r M W : Nat} {od : Nat → Nat} (hr : r < 4) (hM : cms r = nI M) (hM48 : M ≤ 48) (hV : tl_V W knd tgt) (hW : W ≤ 48) (ho : ∀ i, i < M → ord i = nI (od i) ∧ od i < W) (h : post (xR, xW, org, stp, knd, tgt, val, plc, bys, ord, sts, cms, clk, trm, tl_cs tgt knd val od M, oux)) : ∀ d i, i + d = M → wX_runCommitted_23 post (nI r) (d + 1) (nI i) xR xW org stp knd tgt val plc bys ord sts cms clk trm (tl_cs tgt knd val od i) oux := by
  have hcr := nI_clamp (n := r) (by omega)
  intro d
  induction d with
  | zero =>
    intro i hi
    have e : i = M := by omega
    subst e
    refine ⟨vp_in_nI hr (by omega), ?_⟩
    rw [hcr, hM]
    exact br_t (nI_le (by omega) (by omega)) h
  | succ d ih =>
    intro i hi
    refine ⟨vp_in_nI hr (by omega), ?_⟩
    rw [hcr, hM, nI_clamp (n := i) (by omega), (ho i (by omega)).1]
    refine br_f (nI_ge (by omega) (by omega)) ⟨vp_in_nI (by omega) (by omega), ?_⟩
    refine tl_xrw hV hW (ho i (by omega)).2 ?_
    exact nm_r (nI_1 i) (ih (i + 1) (by omega))
theorem tl_xrc {post : SX → Prop} {r M W : Nat} {od : Nat → Nat} (hr : r < 4) (hM : cms r = nI M) (hM48 : M ≤ 48) (hV : tl_V W knd tgt) (hW : W ≤ 48) (ho : ∀ i, i < M → ord i = nI (od i) ∧ od i < W) (hs : ∀ j, 8 ≤ j → stx j = 0) (h : post (xR, xW, org, stp, knd, tgt, val, plc, bys, ord, sts, cms, clk, trm, tl_cs tgt knd val od M, oux)) : wpX_runCommitted post (xR, xW, org, stp, knd, tgt, val, plc, bys, ord, sts, cms, clk, trm, stx, oux) (nI r) := by
  unfold wpX_runCommitted
  dsimp only
  exact ⟨9, tl_xz ⟨M + 1, tl_xc hr hM hM48 hV hW ho h M 0 (by omega)⟩ 8 0 stx (by omega) (fun j hj => hs j (by omega))⟩
theorem tl_xis {post : Int32 → Prop} {r w : Nat} (hr : r < 4) (hw : w < 48) (h : post (if tl_kb (sts r) w = true then 1 else 0)) : wpX_isInSet post (xR, xW, org, stp, knd, tgt, val, plc, bys, ord, sts, cms, clk, trm, stx, oux) (nI r) (nI w) := by
  unfold wpX_isInSet
  dsimp only
  refine ⟨vp_in_nI hr (by omega), ?_⟩
  rw [nI_clamp (n := r) (by omega), tl_kb_t (by omega)]
  by_cases z : tl_kb (sts r) w = true
  · rw [if_pos z] at h; exact br_t z h
  · rw [if_neg z] at h; exact br_f z h
theorem tl_xten {post : Int32 → Prop} {r w M q : Nat} {t : Bool} (hr : r < 4) (hw : w < 48) (hM : cms r = nI M) (hM48 : M ≤ 48) (hq : plc w = nI q) (hq48 : q ≤ 48) (ht : t = (tl_kb (sts r) w && decide (M ≤ q))) (h : post (if t = true then 1 else 0)) : wpX_isTentative post (xR, xW, org, stp, knd, tgt, val, plc, bys, ord, sts, cms, clk, trm, stx, oux) (nI r) (nI w) := by
  unfold wpX_isTentative
  dsimp only
  refine tl_xis hr hw ?_
  by_cases z : tl_kb (sts r) w = true
  · rw [if_pos z]
    refine br_f (by decide) ⟨vp_in_nI hw (by omega), vp_in_nI hr (by omega), ?_⟩
    rw [nI_clamp (n := w) (by omega), nI_clamp (n := r) (by omega), hM, hq]
    by_cases c : M ≤ q
    · rw [ht, z, decide_eq_true c] at h
      exact br_f (nI_nlt c (by omega)) h
    · rw [ht, z, decide_eq_false c] at h
      exact br_t (nI_lt (by omega) (by omega)) h
  · rw [if_neg z]
    rw [ht, ts_nt z] at h
    exact br_t rfl h
theorem tl_xt {post : SX → Prop} {r M W : Nat} {b p : Nat → Nat} {t : Nat → Bool} (hr : r < 4) (hM : cms r = nI M) (hM48 : M ≤ 48) (hV : tl_V W knd tgt) (hW : W ≤ 48) (hb : ∀ i, i < W → bys i = nI (b i) ∧ b i < W) (hp : ∀ w, w < W → plc w = nI (p w) ∧ p w ≤ 48) (ht : ∀ w, w < W → t w = (tl_kb (sts r) w && decide (M ≤ p w))) (h : post (xR, nI W, org, stp, knd, tgt, val, plc, bys, ord, sts, cms, clk, trm, tl_ts tgt knd val b t stx W, tl_to tgt knd val b t stx oux W)) : ∀ d i, i + d = W → wX_runTentative_2 post (nI r) (d + 1) (nI i) xR (nI W) org stp knd tgt val plc bys ord sts cms clk trm (tl_ts tgt knd val b t stx i) (tl_to tgt knd val b t stx oux i) := by
  intro d
  induction d with
  | zero =>
    intro i hi
    have e : i = W := by omega
    subst e
    exact br_t (nI_le (by omega) (by omega)) h
  | succ d ih =>
    intro i hi
    obtain ⟨e1, hbW⟩ := hb i (by omega)
    refine br_f (nI_ge (by omega) (by omega)) ⟨vp_in_nI (by omega) (by omega), nm_r (e' := nI (b i)) (by rw [nI_clamp (by omega)]; exact e1) ?_⟩
    refine tl_xten (t := t (b i)) hr (by omega) hM hM48 (hp _ hbW).1 (hp _ hbW).2 (ht _ hbW) ?_
    have ih' := ih (i + 1) (by omega)
    unfold tl_ts tl_to at ih'
    by_cases z : t (b i) = true
    · rw [if_pos z, if_pos z] at ih'
      rw [if_pos z]
      refine br_f (by decide) (tl_xrw hV hW hbW ?_)
      refine ⟨vp_in_nI (by omega) (by omega), ?_⟩
      rw [nI_clamp (n := b i) (by omega)]
      exact nm_e (nm_r (nI_1 i) ih')
    · rw [if_neg z, if_neg z] at ih'
      rw [if_neg z]
      exact br_t rfl (nm_r (nI_1 i) ih')
theorem tl_xrt {post : SX → Prop} {r M W : Nat} {b p : Nat → Nat} {t : Nat → Bool} (hr : r < 4) (hM : cms r = nI M) (hM48 : M ≤ 48) (hV : tl_V W knd tgt) (hW : W ≤ 48) (hb : ∀ i, i < W → bys i = nI (b i) ∧ b i < W) (hp : ∀ w, w < W → plc w = nI (p w) ∧ p w ≤ 48) (ht : ∀ w, w < W → t w = (tl_kb (sts r) w && decide (M ≤ p w))) (h : post (xR, nI W, org, stp, knd, tgt, val, plc, bys, ord, sts, cms, clk, trm, tl_ts tgt knd val b t stx W, tl_to tgt knd val b t stx oux W)) : wpX_runTentative post (xR, nI W, org, stp, knd, tgt, val, plc, bys, ord, sts, cms, clk, trm, stx, oux) (nI r) := by
  unfold wpX_runTentative
  dsimp only
  exact ⟨W + 1, tl_xt hr hM hM48 hV hW hb hp ht h W 0 (by omega)⟩
theorem tl_xsz {post : Int32 → Prop} {s : Int64} (h : post (nI (tl_cn (tl_kb s) 48))) : ∀ d i, i + d = 48 → wX_sizeOf_4 post s (d + 1) (nI (tl_cn (tl_kb s) i)) (nI i) := by
  intro d
  induction d with
  | zero =>
    intro i hi
    have e : i = 48 := by omega
    subst e
    exact br_t (nI_le (a := 48) (by omega) (by omega)) h
  | succ d ih =>
    intro i hi
    refine br_f (nI_ge (b := 48) (by omega) (by decide)) ?_
    rw [tl_kb_t (by omega)]
    have ih' := ih (i + 1) (by omega)
    unfold tl_cn at ih'
    by_cases z : tl_kb s i = true
    · rw [if_pos z] at ih'
      exact br_t z (nm_r (nI_1 _) (nm_r (nI_1 i) ih'))
    · rw [if_neg z] at ih'
      exact br_f z (nm_r (nI_1 i) ih')
theorem tl_xsize {post : Int32 → Prop} {s : Int64} (h : post (nI (tl_cn (tl_kb s) 48))) : wpX_sizeOf post s := ⟨49, tl_xsz h 48 0 rfl⟩
theorem tl_xcb {post : Int32 → Prop} {a b : Nat} (ha : a < 48) (hb : b < 48) (h : post (if tl_be stp org a b then 1 else 0)) : wpX_comesBefore post (xR, xW, org, stp, knd, tgt, val, plc, bys, ord, sts, cms, clk, trm, stx, oux) (nI a) (nI b) := by
  have ia : vp_in (nI a) 48 := vp_in_nI ha (by omega)
  have ib : vp_in (nI b) 48 := vp_in_nI hb (by omega)
  unfold wpX_comesBefore
  dsimp only
  rw [nI_clamp (n := a) (by omega), nI_clamp (n := b) (by omega)]
  refine ⟨ia, ib, ?_⟩
  by_cases z : stp a = stp b
  · refine br_t z ⟨ia, ib, ?_⟩
    by_cases c : org b ≤ org a
    · rw [if_neg (by rw [Int32.le_iff_toInt_le] at c; unfold tl_be; rw [z]; omega)] at h
      exact br_t c h
    · rw [if_pos (by rw [Int32.le_iff_toInt_le] at c; unfold tl_be; rw [z]; omega)] at h
      exact br_f c h
  · have z' : (stp a).toInt ≠ (stp b).toInt := fun q => z (Int32.toInt_inj.mp q)
    refine br_f z ⟨ia, ib, ?_⟩
    by_cases c : stp b ≤ stp a
    · rw [if_neg (by rw [Int32.le_iff_toInt_le] at c; unfold tl_be; omega)] at h
      exact br_t c h
    · rw [if_pos (by rw [Int32.le_iff_toInt_le] at c; unfold tl_be; omega)] at h
      exact br_f c h
theorem tl_xib {post : SX → Prop} {W : Nat} {b : Nat → Nat} (hW : W < 48) (hb : ∀ i, i < W → b i < W) (h : ∀ a bb, a ≤ W → (∀ i, i < W + 1 → bb i = nI (tl_ins a W b i)) → (a = 0 ∨ ¬ tl_be stp org W (b (a - 1))) → (∀ j, a ≤ j → j < W → tl_be stp org W (b j)) → post (xR, xW, org, stp, knd, tgt, val, plc, bb, ord, sts, cms, clk, trm, stx, oux)) : ∀ a bb, a ≤ W → (∀ i, i < a → bb i = nI (b i)) → (∀ i, a < i → i < W + 1 → bb i = nI (b (i - 1))) → (∀ j, a ≤ j → j < W → tl_be stp org W (b j)) → wX_insertByStamp_5 post (nI W) xR xW (a + 1) (nI a) org stp knd tgt val plc bb ord sts cms clk trm stx oux := by
  have put : ∀ a bb, a ≤ W → (∀ i, i < a → bb i = nI (b i)) → (∀ i, a < i → i < W + 1 → bb i = nI (b (i - 1))) → (∀ i, i < W + 1 → upd bb (nI a).toNatClampNeg (nI W) i = nI (tl_ins a W b i)) := by
    intro a bb ha h1 h2 i hi
    rw [nI_clamp (by omega)]
    unfold tl_ins
    by_cases c1 : i < a
    · rw [if_pos c1, pk_un (by omega)]; exact h1 i c1
    · rw [if_neg c1]
      by_cases c2 : i = a
      · rw [if_pos c2, c2]; exact pk_us
      · rw [if_neg c2, pk_un c2]; exact h2 i (by omega) hi
  intro a
  induction a with
  | zero =>
    intro bb ha h1 h2 h3
    exact br_t (by decide) ⟨vp_in_nI (by omega) (by omega), nm_e (h 0 _ ha (put 0 bb ha h1 h2) (Or.inl rfl) h3)⟩
  | succ a ih =>
    intro bb ha h1 h2 h3
    have hba := hb a (by omega)
    refine br_f (nI_nle (by omega) (by omega)) ?_
    rw [nI_pred, nI_clamp (n := a) (by omega), h1 a (by omega)]
    refine ⟨vp_in_nI (by omega) (by omega), tl_xcb (by omega) (by omega) ?_⟩
    by_cases z : tl_be stp org W (b a)
    · rw [if_pos z]
      refine br_f (by decide) ⟨vp_in_nI (by omega) (by omega), vp_in_nI (by omega) (by omega), nm_e (nm_r (pk_m1 a) (ih _ (by omega) ?_ ?_ ?_))⟩
      · intro i hi
        rw [nI_clamp (by omega), pk_un (by omega)]; exact h1 i (by omega)
      · intro i hi hi2
        rw [nI_clamp (by omega)]
        by_cases c : i = a + 1
        · subst c; exact pk_us
        · rw [pk_un c]; exact h2 i (by omega) hi2
      · intro j hj hj2
        by_cases c : j = a
        · rw [c]; exact z
        · exact h3 j (by omega) hj2
    · rw [if_neg z]
      exact br_t rfl ⟨vp_in_nI (by omega) (by omega), nm_e (h (a + 1) _ ha (put (a + 1) bb ha h1 h2) (Or.inr z) h3)⟩
end
end
section
/-! ===== the reference's walks against the pure pictures ===== -/
theorem tl_nb : vp_nar .boolean 1 = 1 := by decide
theorem tl_ups (f : Nat → Int32) (k : Nat) : upd f k (f k) = f := by
  funext j
  by_cases e : j = k
  · subst e; exact pk_us
  · exact pk_un e
theorem tl_ix {r w : Nat} : nI r * 48 + nI w = nI (r * 48 + w) := by
  show nI r * nI 48 + nI w = _
  rw [pk_mul, nI_add]
def tl_bv : Option Nat → Int32
  | none => -1
  | some x => nI x
def tl_sn (od : Nat → Nat) : Nat → Nat → Int32
  | 0 => fun _ => 0
  | i + 1 => upd (tl_sn od i) (od i) 1
section
variable {xR xW yC : Int32} {org stp knd tgt val plc bys ord cms clk trm stx oux kno sty sny : Nat → Int32} {sts : Nat → Int64}
theorem tl_yrw {post : Int32 → SY → Prop} {W w : Nat} (hV : tl_V W knd tgt) (hW : W ≤ 48) (hw : w < W) (h : post (tl_rw tgt knd val w sty).1 (xR, xW, yC, org, stp, knd, tgt, val, kno, ord, cms, clk, trm, (tl_rw tgt knd val w sty).2, sny)) : wpY_carryOut post (xR, xW, yC, org, stp, knd, tgt, val, kno, ord, cms, clk, trm, sty, sny) (nI w) := by
  obtain ⟨⟨c, hc, ec⟩, k, hk, ek⟩ := hV w hw
  unfold tl_rw at h
  rw [ec, ek, nI_clamp (n := c) (by omega), nI_clamp (n := k) (by omega)] at h
  exact tl_yrun (by omega) hc hk ec ek h
theorem tl_fl_t {s o : Nat → Int32} {l : Nat → Bool} {n b : Nat} (hl : l n = true) (hf : tl_fl s o l n = some b) : tl_fl s o l (n + 1) = if tl_be s o n b then some n else some b := by
  show (if l n = true then (match tl_fl s o l n with | none => some n | some b => if tl_be s o n b then some n else some b) else tl_fl s o l n) = _
  rw [if_pos hl, hf]
theorem tl_fl_n {s o : Nat → Int32} {l : Nat → Bool} {n : Nat} (hl : l n = true) (hf : tl_fl s o l n = none) : tl_fl s o l (n + 1) = some n := by
  show (if l n = true then (match tl_fl s o l n with | none => some n | some b => if tl_be s o n b then some n else some b) else tl_fl s o l n) = _
  rw [if_pos hl, hf]
theorem tl_fl_f {s o : Nat → Int32} {l : Nat → Bool} {n : Nat} (hl : ¬ l n = true) : tl_fl s o l (n + 1) = tl_fl s o l n := by
  show (if l n = true then (match tl_fl s o l n with | none => some n | some b => if tl_be s o n b then some n else some b) else tl_fl s o l n) = _
  rw [if_neg hl]
theorem tl_yf {post : Int32 → Prop} {r W : Nat} {l : Nat → Bool} (hr : r < 4) (hW : W ≤ 48) (hl : ∀ w, w < W → (l w = true ↔ (¬ kno (r * 48 + w) = 0 ∧ sny w = 0))) (h : post (tl_bv (tl_fl stp org l W))) : ∀ d i, i + d = W → wY_firstLeft_4 post (nI r) xR (nI W) yC org stp knd tgt val kno ord cms clk trm sty sny (d + 1) (tl_bv (tl_fl stp org l i)) (nI i) := by
  intro d
  induction d with
  | zero =>
    intro i hi
    have e : i = W := by omega
    subst e
    exact br_t (nI_le (by omega) (by omega)) h
  | succ d ih =>
    intro i hi
    have ih' := ih (i + 1) (by omega)
    have hli := hl i (by omega)
    have ii : vp_in (nI i) 48 := vp_in_nI (by omega) (by omega)
    refine br_f (nI_ge (by omega) (by omega)) ?_
    rw [tl_ix, nI_clamp (n := r * 48 + i) (by omega), nI_clamp (n := i) (by omega)]
    refine ⟨vp_in_nI (by omega) (by omega), ?_⟩
    by_cases z : kno (r * 48 + i) = 0
    · rw [tl_fl_f (by rw [hli]; exact fun q => q.1 z)] at ih'
      exact br_t z (nm_r (nI_1 i) ih')
    · refine br_f z ⟨ii, ?_⟩
      by_cases z2 : sny i = 0
      · have hlt : l i = true := hli.mpr ⟨z, z2⟩
        refine br_t z2 ?_
        cases hf : tl_fl stp org l i with
        | none =>
          rw [tl_fl_n hlt hf] at ih'
          exact br_t (by decide) (nm_r (nI_1 i) ih')
        | some b =>
          have hb := ((tl_fl_spec i).1 b hf).1
          rw [tl_fl_t hlt hf] at ih'
          have e2 : (tl_bv (some b)).toNatClampNeg = b := nI_clamp (by omega)
          have ib : vp_in (tl_bv (some b)) 48 := vp_in_nI (by omega) (by omega)
          rw [e2]
          refine br_f (show ¬ tl_bv (some b) < 0 from nI_pos (by omega)) ⟨ii, ib, ?_⟩
          by_cases c : stp i < stp b
          · rw [if_pos (by rw [Int32.lt_iff_toInt_lt] at c; exact Or.inl c)] at ih'
            exact br_t c (nm_r (nI_1 i) ih')
          · refine br_f c ⟨ii, ib, ?_⟩
            rw [Int32.lt_iff_toInt_lt] at c
            by_cases c2 : stp i = stp b
            · refine br_t c2 ⟨ii, ib, ?_⟩
              by_cases c3 : org b ≤ org i
              · rw [if_neg (by rw [Int32.le_iff_toInt_le] at c3; unfold tl_be; rw [c2]; omega)] at ih'
                exact br_t c3 (nm_r (nI_1 i) ih')
              · rw [if_pos (by rw [Int32.le_iff_toInt_le] at c3; unfold tl_be; rw [c2]; omega)] at ih'
                exact br_f c3 (nm_r (nI_1 i) ih')
            · have c2' : (stp i).toInt ≠ (stp b).toInt := fun q => c2 (Int32.toInt_inj.mp q)
              rw [if_neg (by unfold tl_be; omega)] at ih'
              exact br_f c2 (nm_r (nI_1 i) ih')
      · rw [tl_fl_f (by rw [hli]; exact fun q => z2 q.2)] at ih'
        exact br_f z2 (nm_r (nI_1 i) ih')
theorem tl_yfl {post : Int32 → Prop} {r W : Nat} {l : Nat → Bool} (hr : r < 4) (hW : W ≤ 48) (hl : ∀ w, w < W → (l w = true ↔ (¬ kno (r * 48 + w) = 0 ∧ sny w = 0))) (h : post (tl_bv (tl_fl stp org l W))) : wpY_firstLeft post (xR, nI W, yC, org, stp, knd, tgt, val, kno, ord, cms, clk, trm, sty, sny) (nI r) := by
  unfold wpY_firstLeft
  dsimp only
  exact ⟨W + 1, tl_yf hr hW hl h W 0 (by omega)⟩
theorem tl_yz {post : SY → Prop} {x1 x2 : Int32} (h : ∃ n23, wY_replay_23 post x1 x2 xR xW yC n23 0 org stp knd tgt val kno ord cms clk trm ((fun _ => 0)) sny) : ∀ d i st, i + d = 8 → (∀ j, (j < i ∨ 8 ≤ j) → st j = 0) → wY_replay_2 post x1 x2 xR xW yC (d + 1) (nI i) org stp knd tgt val kno ord cms clk trm st sny := by
  intro d
  induction d with
  | zero =>
    intro i st hi hs
    have e : st = fun _ => 0 := funext fun j => hs j (by omega)
    subst e
    exact br_t (nI_le (a := 8) (by omega) (by omega)) h
  | succ d ih =>
    intro i st hi hs
    refine br_f (nI_ge (b := 8) (by omega) (by decide)) ⟨vp_in_nI (by omega) (by omega), nm_e (nm_r (nI_1 i) (ih (i + 1) _ (by omega) ?_))⟩
    intro j hj
    rw [nI_clamp (by omega)]
    by_cases e : j = i
    · subst e; exact pk_us
    · rw [pk_un e]; exact hs j (by omega)
theorem tl_yz2 {post : SY → Prop} {x1 x2 : Int32} (h : ∃ n44, wY_replay_44 post x1 x2 n44 0 xR xW yC org stp knd tgt val kno ord cms clk trm sty ((fun _ => 0))) : ∀ d i st, i + d = 48 → (∀ j, (j < i ∨ 48 ≤ j) → st j = 0) → wY_replay_23 post x1 x2 xR xW yC (d + 1) (nI i) org stp knd tgt val kno ord cms clk trm sty st := by
  intro d
  induction d with
  | zero =>
    intro i st hi hs
    have e : st = fun _ => 0 := funext fun j => hs j (by omega)
    subst e
    exact br_t (nI_le (a := 48) (by omega) (by omega)) h
  | succ d ih =>
    intro i st hi hs
    refine br_f (nI_ge (b := 48) (by omega) (by decide)) ⟨vp_in_nI (by omega) (by omega), nm_e (nm_r (nI_1 i) (ih (i + 1) _ (by omega) ?_))⟩
    intro j hj
    rw [nI_clamp (by omega)]
    by_cases e : j = i
    · subst e; exact pk_us
    · rw [pk_un e]; exact hs j (by omega)
theorem tl_yc {post : SY → Prop} {x2 : Int32} {r M W : Nat} {od : Nat → Nat} (hr : r < 4) (hM : cms r = nI M) (hM48 : M ≤ 48) (hV : tl_V W knd tgt) (hW : W ≤ 48) (ho : ∀ i, i < M → ord i = nI (od i) ∧ od i < W) (h : ∃ n85, wY_replay_85 post (nI r) x2 n85 0 xR xW yC org stp knd tgt val kno ord cms clk trm (tl_cs tgt knd val od M) (tl_sn od M)) : ∀ d i, i + d = M → wY_replay_44 post (nI r) x2 (d + 1) (nI i) xR xW yC org stp knd tgt val kno ord cms clk trm (tl_cs tgt knd val od i) (tl_sn od i) := by
  have hcr := nI_clamp (n := r) (by omega)
  intro d
  induction d with
  | zero =>
    intro i hi
    have e : i = M := by omega
    subst e
    refine ⟨vp_in_nI hr (by omega), ?_⟩
    rw [hcr, hM]
    exact br_t (nI_le (by omega) (by omega)) h
  | succ d ih =>
    intro i hi
    obtain ⟨e1, h1⟩ := ho i (by omega)
    refine ⟨vp_in_nI hr (by omega), ?_⟩
    rw [hcr, hM, nI_clamp (n := i) (by omega), e1]
    refine br_f (nI_ge (by omega) (by omega)) ⟨vp_in_nI (by omega) (by omega), ?_⟩
    refine tl_yrw hV hW h1 ?_
    refine ⟨vp_in_nI (by omega) (by omega), ?_⟩
    rw [e1, nI_clamp (n := od i) (by omega)]
    exact ⟨vp_in_nI (by omega) (by omega), nm_e (nm_r (nI_1 i) (ih (i + 1) (by omega)))⟩
theorem tl_y0 {post : SY → Prop} {r W : Nat} (hr : r < 4) (hW : W ≤ 48) (h : post (xR, nI W, yC, org, stp, knd, tgt, val, kno, ord, cms, clk, trm, sty, sny)) : ∀ d i, i + d = W → wY_replay_85 post (nI r) 0 (d + 1) (nI i) xR (nI W) yC org stp knd tgt val kno ord cms clk trm sty sny := by
  intro d
  induction d with
  | zero =>
    intro i hi
    exact br_t (nI_le (by omega) (by omega)) h
  | succ d ih =>
    intro i hi
    refine br_f (nI_ge (by omega) (by omega)) (tl_yfl (l := fun w => decide (¬ kno (r * 48 + w) = 0 ∧ sny w = 0)) hr hW (fun w _ => by simp) ?_)
    exact br_t rfl (nm_r (nI_1 i) (ih (i + 1) (by omega)))
theorem tl_to_lo {W : Nat} {b : Nat → Nat} {t : Nat → Bool} {s0 o0 : Nat → Int32} {j : Nat} (htj : t (b j) = true) : ∀ i, j < i → tl_to tgt knd val b t s0 o0 i (b j) ≠ 0 := by
  intro i
  induction i with
  | zero => intro h; omega
  | succ i ih =>
    intro hj
    unfold tl_to
    by_cases z : t (b i) = true
    · rw [if_pos z]
      by_cases e : b j = b i
      · rw [e, pk_us]; exact tl_run_ne _ _ _ _
      · rw [pk_un e]
        exact ih (by have : j ≠ i := fun q => e (by rw [q])
                     omega)
    · rw [if_neg z]
      exact ih (by have : j ≠ i := fun q => z (by rw [← q]; exact htj)
                   omega)
theorem tl_to_hi {b : Nat → Nat} {t : Nat → Bool} {s0 o0 : Nat → Int32} {w : Nat} : ∀ i, (∀ j, j < i → t (b j) = true → b j ≠ w) → tl_to tgt knd val b t s0 o0 i w = o0 w := by
  intro i
  induction i with
  | zero => intro _; rfl
  | succ i ih =>
    intro hj
    unfold tl_to
    by_cases z : t (b i) = true
    · rw [if_pos z, pk_un (fun q => hj i (by omega) z q.symm)]
      exact ih (fun j h => hj j (by omega))
    · rw [if_neg z]
      exact ih (fun j h => hj j (by omega))
theorem tl_to_big {W : Nat} {b : Nat → Nat} {t : Nat → Bool} {s0 o0 : Nat → Int32} (hW : W ≤ 48) (hb : ∀ i, i < W → b i < W) (ho : ∀ j, 48 ≤ j → o0 j = 0) : ∀ j, 48 ≤ j → tl_to tgt knd val b t s0 o0 W j = 0 := by
  intro j hj
  rw [tl_to_hi W (fun i hi _ e => by have := hb i hi; omega)]
  exact ho j hj
theorem tl_to_eq {b : Nat → Nat} {t : Nat → Bool} {s0 o1 o2 : Nat → Int32} : ∀ i j, j < i → t (b j) = true → tl_to tgt knd val b t s0 o1 i (b j) = tl_to tgt knd val b t s0 o2 i (b j) := by
  intro i
  induction i with
  | zero => intro j h; omega
  | succ i ih =>
    intro j hj ht
    unfold tl_to
    by_cases z : t (b i) = true
    · rw [if_pos z, if_pos z]
      by_cases e : b j = b i
      · rw [e, pk_us, pk_us]
      · rw [pk_un e, pk_un e]
        exact ih j (by have : j ≠ i := fun q => e (by rw [q])
                       omega) ht
    · rw [if_neg z, if_neg z]
      exact ih j (by have : j ≠ i := fun q => z (by rw [← q]; exact ht)
                     omega) ht
theorem tl_yi {post : SY → Prop} {r W : Nat} (hr : r < 4) (hW : W ≤ 48) (hno : ∀ w, w < W → ¬ (¬ kno (r * 48 + w) = 0 ∧ sny w = 0)) (h : post (xR, nI W, yC, org, stp, knd, tgt, val, kno, ord, cms, clk, trm, sty, sny)) : ∀ d k n, k + d = W → d < n → wY_replay_85 post (nI r) 1 n (nI k) xR (nI W) yC org stp knd tgt val kno ord cms clk trm sty sny := by
  intro d
  induction d with
  | zero =>
    intro k n hk hn
    obtain ⟨m, rfl⟩ : ∃ m, n = m + 1 := ⟨n - 1, by omega⟩
    exact br_t (nI_le (by omega) (by omega)) h
  | succ d ih =>
    intro k n hk hn
    obtain ⟨m, rfl⟩ : ∃ m, n = m + 1 := ⟨n - 1, by omega⟩
    refine br_f (nI_ge (by omega) (by omega)) (tl_yfl (l := fun w => decide (¬ kno (r * 48 + w) = 0 ∧ sny w = 0)) hr hW (fun w _ => by simp) ?_)
    rw [tl_fl_no (fun w hw => decide_eq_false (hno w hw))]
    exact br_f (by decide) (br_t (by decide) (nm_r (nI_1 k) (ih (k + 1) m (by omega) (by omega))))
theorem tl_y1 {post : SY → Prop} {r W : Nat} {b : Nat → Nat} {t : Nat → Bool} {s0 o0 : Nat → Int32} (hr : r < 4) (hW : W ≤ 48) (hV : tl_V W knd tgt) (hs : tl_srt stp org W b) (h0 : ∀ w, w < W → (t w = true ↔ (¬ kno (r * 48 + w) = 0 ∧ o0 w = 0))) (h : post (xR, nI W, yC, org, stp, knd, tgt, val, kno, ord, cms, clk, trm, tl_ts tgt knd val b t s0 W, tl_to tgt knd val b t s0 o0 W)) : ∀ d i k n, i + d = W → k ≤ i → W - k < n → wY_replay_85 post (nI r) 1 n (nI k) xR (nI W) yC org stp knd tgt val kno ord cms clk trm (tl_ts tgt knd val b t s0 i) (tl_to tgt knd val b t s0 o0 i) := by
  have left : ∀ i j, j < W → (¬ kno (r * 48 + b j) = 0 ∧ tl_to tgt knd val b t s0 o0 i (b j) = 0) → i ≤ j ∧ t (b j) = true := by
    intro i j hj q
    by_cases z : t (b j) = true
    · refine ⟨?_, z⟩
      by_cases c : j < i
      · exact absurd q.2 (tl_to_lo (W := W) z i c)
      · omega
    · rw [tl_to_hi i (fun x _ hx e => z (by rw [← e]; exact hx))] at q
      exact absurd ((h0 _ (hs.1 j hj)).mpr q) z
  intro d
  induction d with
  | zero =>
    intro i k n hi hk hn
    have e : i = W := by omega
    subst e
    refine tl_yi hr hW ?_ h (i - k) k n (by omega) (by omega)
    intro w hw q
    obtain ⟨j, hj, rfl⟩ := hs.2.2 w hw
    have := left i j hj q
    omega
  | succ d ih =>
    intro i k n hi hk hn
    have ih' := ih (i + 1)
    unfold tl_ts tl_to at ih'
    by_cases z : t (b i) = true
    · rw [if_pos z, if_pos z] at ih'
      obtain ⟨m, rfl⟩ : ∃ m, n = m + 1 := ⟨n - 1, by omega⟩
      have hbW := hs.1 i (by omega)
      refine br_f (nI_ge (by omega) (by omega)) (tl_yfl (l := fun w => decide (¬ kno (r * 48 + w) = 0 ∧ tl_to tgt knd val b t s0 o0 i w = 0)) hr hW (fun w _ => by simp) ?_)
      rw [tl_fl_eq hs (i := i) (by omega) ?_ ?_]
      · refine br_f (by decide) (br_f (nI_pos (by omega)) (tl_yrw hV hW hbW ?_))
        refine ⟨vp_in_nI (by omega) (by omega), ?_⟩
        show ∀ y, y = upd (tl_to tgt knd val b t s0 o0 i) (nI (b i)).toNatClampNeg _ → _
        rw [nI_clamp (n := b i) (by omega)]
        exact nm_e (nm_r (nI_1 k) (ih' (k + 1) m (by omega) (by omega) (by omega)))
      · refine decide_eq_true ?_
        rw [tl_to_hi i (fun j hj _ => tl_srt_inj hs hj (by omega))]
        exact (h0 _ hbW).mp z
      · intro j hj
        refine decide_eq_false (fun q => ?_)
        have := left i j (by omega) q
        omega
    · rw [if_neg z, if_neg z] at ih'
      exact ih' k n (by omega) (by omega) hn
theorem tl_yr0 {post : SY → Prop} {r M W : Nat} {od : Nat → Nat} (hr : r < 4) (hM : cms r = nI M) (hM48 : M ≤ 48) (hV : tl_V W knd tgt) (hW : W ≤ 48) (ho : ∀ i, i < M → ord i = nI (od i) ∧ od i < W) (hs : ∀ j, 8 ≤ j → sty j = 0) (hn : ∀ j, 48 ≤ j → sny j = 0) (h : post (xR, nI W, yC, org, stp, knd, tgt, val, kno, ord, cms, clk, trm, tl_cs tgt knd val od M, tl_sn od M)) : wpY_replay post (xR, nI W, yC, org, stp, knd, tgt, val, kno, ord, cms, clk, trm, sty, sny) (nI r) 0 := by
  unfold wpY_replay
  dsimp only
  exact ⟨9, tl_yz ⟨49, tl_yz2 ⟨M + 1, tl_yc hr hM hM48 hV hW ho ⟨W + 1, tl_y0 hr hW h W 0 (by omega)⟩ M 0 (by omega)⟩ 48 0 sny (by omega) (fun j hj => hn j (by omega))⟩ 8 0 sty (by omega) (fun j hj => hs j (by omega))⟩
theorem tl_yr1 {post : SY → Prop} {r M W : Nat} {od b : Nat → Nat} {t : Nat → Bool} (hr : r < 4) (hM : cms r = nI M) (hM48 : M ≤ 48) (hV : tl_V W knd tgt) (hW : W ≤ 48) (ho : ∀ i, i < M → ord i = nI (od i) ∧ od i < W) (hb : tl_srt stp org W b) (h0 : ∀ w, w < W → (t w = true ↔ (¬ kno (r * 48 + w) = 0 ∧ tl_sn od M w = 0))) (hs : ∀ j, 8 ≤ j → sty j = 0) (hn : ∀ j, 48 ≤ j → sny j = 0) (h : post (xR, nI W, yC, org, stp, knd, tgt, val, kno, ord, cms, clk, trm, tl_ts tgt knd val b t (tl_cs tgt knd val od M) W, tl_to tgt knd val b t (tl_cs tgt knd val od M) (tl_sn od M) W)) : wpY_replay post (xR, nI W, yC, org, stp, knd, tgt, val, kno, ord, cms, clk, trm, sty, sny) (nI r) 1 := by
  unfold wpY_replay
  dsimp only
  exact ⟨9, tl_yz ⟨49, tl_yz2 ⟨M + 1, tl_yc hr hM hM48 hV hW ho ⟨W + 1, tl_y1 hr hW hV hb h0 h W 0 0 (W + 1) (by omega) (by omega) (by omega)⟩ M 0 (by omega)⟩ 48 0 sny (by omega) (fun j hj => hn j (by omega))⟩ 8 0 sty (by omega) (fun j hj => hs j (by omega))⟩
theorem tl_ykn {post : Int32 → Prop} {r W : Nat} {q : Nat → Bool} (hr : r < 4) (hW : W ≤ 48) (hq : ∀ w, w < W → (q w = true ↔ ¬ kno (r * 48 + w) = 0)) (h : post (nI (tl_cn q W))) : ∀ d i, i + d = W → wY_known_14 post (nI r) xR (nI W) yC org stp knd tgt val kno ord cms clk trm sty sny (d + 1) (nI (tl_cn q i)) (nI i) := by
  intro d
  induction d with
  | zero =>
    intro i hi
    have e : i = W := by omega
    subst e
    exact br_t (nI_le (by omega) (by omega)) h
  | succ d ih =>
    intro i hi
    have ih' := ih (i + 1) (by omega)
    unfold tl_cn at ih'
    refine br_f (nI_ge (by omega) (by omega)) ?_
    rw [tl_ix, nI_clamp (n := r * 48 + i) (by omega)]
    refine ⟨vp_in_nI (by omega) (by omega), ?_⟩
    by_cases z : kno (r * 48 + i) = 0
    · rw [if_neg (by rw [hq i (by omega)]; exact fun q => q z)] at ih'
      exact br_t z (nm_r (nI_1 i) ih')
    · rw [if_pos ((hq i (by omega)).mpr z)] at ih'
      exact br_f z (nm_r (nI_1 _) (nm_r (nI_1 i) ih'))
end
end
section
/-! ===== bring's loop; commit, both walks ===== -/
abbrev tl_mx (f : Nat → Int32) (a g : Nat) : Int32 := if f a ≤ f g then f g else f a
def tl_cd (b : Nat → Nat) (t : Nat → Bool) (n : Int32) : Nat → Nat
  | 0 => 0
  | i + 1 => if t (b i) = true ∧ ¬ n ≤ nI (tl_cd b t n i) then tl_cd b t n i + 1 else tl_cd b t n i
def tl_cp (b : Nat → Nat) (t : Nat → Bool) (n : Int32) (c : Nat) (plc : Nat → Int32) : Nat → Nat → Int32
  | 0 => plc
  | i + 1 => if t (b i) = true ∧ ¬ n ≤ nI (tl_cd b t n i) then upd (tl_cp b t n c plc i) (b i) (nI (c + tl_cd b t n i)) else tl_cp b t n c plc i
def tl_co (b : Nat → Nat) (t : Nat → Bool) (n : Int32) (c : Nat) (ord : Nat → Int32) : Nat → Nat → Int32
  | 0 => ord
  | i + 1 => if t (b i) = true ∧ ¬ n ≤ nI (tl_cd b t n i) then upd (tl_co b t n c ord i) (c + tl_cd b t n i) (nI (b i)) else tl_co b t n c ord i
def tl_cy (b : Nat → Nat) (t : Nat → Bool) (n : Int32) (o0 : Nat → Int32) : Nat → Nat → Int32
  | 0 => o0
  | i + 1 => if t (b i) = true ∧ ¬ n ≤ nI (tl_cd b t n i) then upd (tl_cy b t n o0 i) (b i) 1 else tl_cy b t n o0 i
theorem tl_upu (f : Nat → Int32) (k : Nat) (x y : Int32) : upd (upd f k x) k y = upd f k y := by
  funext j
  by_cases e : j = k
  · subst e; rw [pk_us, pk_us]
  · rw [pk_un e, pk_un e, pk_un e]
section
variable {xR xW yC : Int32} {org stp knd tgt val plc bys ord cms clk trm stx oux kno sty sny : Nat → Int32} {sts : Nat → Int64}
theorem tl_yb119 {post : Int32 → SY → Prop} {f g : Nat} {x3 : Int32} (hf : f < 4) (hg : g < 4) (h : post x3 (xR, xW, yC, org, stp, knd, tgt, val, kno, ord, cms, upd clk g (tl_mx clk f g), trm, sty, sny)) : wY_bring_119 post (nI f) (nI g) x3 xR xW yC org stp knd tgt val kno ord cms clk trm sty sny := by
  have jf : vp_in (nI f) 4 := vp_in_nI hf (by omega)
  have jg : vp_in (nI g) 4 := vp_in_nI hg (by omega)
  unfold wY_bring_119
  rw [nI_clamp (n := f) (by omega), nI_clamp (n := g) (by omega)]
  refine ⟨jf, jg, ?_⟩
  unfold tl_mx at h
  by_cases c : clk f ≤ clk g
  · rw [if_pos c, tl_ups] at h; exact br_t c h
  · rw [if_neg c] at h; exact br_f c ⟨jf, jg, nm_e h⟩
theorem tl_yb {post : Int32 → SY → Prop} {f g W : Nat} {q1 q2 : Nat → Bool} (hf : f < 4) (hg : g < 4) (hne : f ≠ g) (hW : W ≤ 48) (h1 : ∀ w, w < W → (q1 w = true ↔ ¬ kno (f * 48 + w) = 0)) (h2 : ∀ w, w < W → (q2 w = true ↔ ¬ kno (g * 48 + w) = 0))
    (h : ∀ kk : Nat → Int32, (∀ r, r < 4 → ∀ w, w < 48 → (kk (r * 48 + w) = 0 ↔ (kno (r * 48 + w) = 0 ∧ ¬ (r = g ∧ w < W ∧ ¬ kno (f * 48 + w) = 0)))) → post (nI (tl_cn (fun w => q1 w && !q2 w) W)) (xR, nI W, yC, org, stp, knd, tgt, val, kk, ord, upd cms g (tl_mx cms f g), upd clk g (tl_mx clk f g), trm, sty, sny)) :
    ∀ d i kk, i + d = W → (∀ r, r < 4 → ∀ w, w < 48 → (kk (r * 48 + w) = 0 ↔ (kno (r * 48 + w) = 0 ∧ ¬ (r = g ∧ w < i ∧ ¬ kno (f * 48 + w) = 0)))) → wY_bring_31 post (nI f) (nI g) xR (nI W) yC (d + 1) (nI (tl_cn (fun w => q1 w && !q2 w) i)) (nI i) org stp knd tgt val kk ord cms clk trm sty sny := by
  have jf : vp_in (nI f) 4 := vp_in_nI hf (by omega)
  have jg : vp_in (nI g) 4 := vp_in_nI hg (by omega)
  intro d
  induction d with
  | zero =>
    intro i kk hi hk
    have e : i = W := by omega
    subst e
    have h' := h kk hk
    refine br_t (nI_le (by omega) (by omega)) ?_
    rw [nI_clamp (n := f) (by omega), nI_clamp (n := g) (by omega)]
    refine ⟨jf, jg, ?_⟩
    by_cases c : cms f ≤ cms g
    · rw [show tl_mx cms f g = cms g from if_pos c, tl_ups] at h'
      exact br_t c (tl_yb119 hf hg h')
    · rw [show tl_mx cms f g = cms f from if_neg c] at h'
      exact br_f c ⟨jf, jg, nm_e (tl_yb119 hf hg h')⟩
  | succ d ih =>
    intro i kk hi hk
    have kf := hk f hf i (by omega)
    have kg := hk g hg i (by omega)
    have h1i := h1 i (by omega)
    have h2i := h2 i (by omega)
    refine br_f (nI_ge (by omega) (by omega)) ?_
    rw [tl_ix, tl_ix, nI_clamp (n := f * 48 + i) (by omega), nI_clamp (n := g * 48 + i) (by omega)]
    refine ⟨vp_in_nI (by omega) (by omega), ?_⟩
    by_cases z : kk (f * 48 + i) = 0
    · have z1 : kno (f * 48 + i) = 0 := (kf.mp z).1
      have ih' := ih (i + 1) kk (by omega) (fun r hr w hw => by
        rw [hk r hr w hw]
        constructor
        · rintro ⟨a, c⟩
          refine ⟨a, fun ⟨x, y, u⟩ => c ⟨x, ?_, u⟩⟩
          by_cases e : w = i
          · subst e; exact absurd z1 u
          · omega
        · rintro ⟨a, c⟩
          exact ⟨a, fun ⟨x, y, u⟩ => c ⟨x, by omega, u⟩⟩)
      unfold tl_cn at ih'
      rw [if_neg (by simp [ts_nt (fun q => h1i.mp q z1)])] at ih'
      exact br_t z (nm_r (nI_1 i) ih')
    · have z1 : ¬ kno (f * 48 + i) = 0 := fun q => z (kf.mpr ⟨q, fun ⟨x, _⟩ => hne x⟩)
      refine br_f z ⟨vp_in_nI (by omega) (by omega), ?_⟩
      by_cases y : kk (g * 48 + i) = 0
      · have y1 : kno (g * 48 + i) = 0 := (kg.mp y).1
        have ih' := ih (i + 1) (upd kk (g * 48 + i) 1) (by omega) (fun r hr w hw => by
          by_cases e : r * 48 + w = g * 48 + i
          · have er : r = g := by omega
            have ew : w = i := by omega
            subst er ew
            rw [pk_us]
            constructor
            · intro a; exact absurd a (by decide)
            · rintro ⟨_, c⟩
              exact absurd ⟨rfl, by omega, z1⟩ c
          · rw [pk_un e, hk r hr w hw]
            constructor
            · rintro ⟨a, c⟩
              refine ⟨a, fun ⟨x, y, u⟩ => c ⟨x, ?_, u⟩⟩
              have : w ≠ i := fun e2 => e (by rw [x, e2])
              omega
            · rintro ⟨a, c⟩
              exact ⟨a, fun ⟨x, y, u⟩ => c ⟨x, by omega, u⟩⟩)
        unfold tl_cn at ih'
        rw [if_pos (by simp [h1i.mpr z1, ts_nt (fun q => h2i.mp q y1)])] at ih'
        rw [tl_nb]
        exact br_t y ⟨vp_in_nI (by omega) (by omega), nm_e (nm_r (nI_1 _) (nm_r (nI_1 i) ih'))⟩
      · have y1 : ¬ kno (g * 48 + i) = 0 := fun q => y (kg.mpr ⟨q, fun ⟨_, x, _⟩ => by omega⟩)
        have ih' := ih (i + 1) kk (by omega) (fun r hr w hw => by
          rw [hk r hr w hw]
          constructor
          · rintro ⟨a, c⟩
            refine ⟨a, fun ⟨x, y2, u⟩ => c ⟨x, ?_, u⟩⟩
            by_cases e : w = i
            · subst e x; exact absurd a y1
            · omega
          · rintro ⟨a, c⟩
            exact ⟨a, fun ⟨x, y, u⟩ => c ⟨x, by omega, u⟩⟩)
        unfold tl_cn at ih'
        rw [if_neg (by simp [h2i.mpr y1])] at ih'
        exact br_f y (nm_r (nI_1 i) ih')
/-! commit: facts of the pure pictures -/
theorem tl_cd_le (b : Nat → Nat) (t : Nat → Bool) (n : Int32) : ∀ i, tl_cd b t n i ≤ i := by
  intro i
  induction i with
  | zero => exact Nat.le_refl 0
  | succ i ih => unfold tl_cd; split <;> omega
theorem tl_stop {b : Nat → Nat} {t : Nat → Bool} {n : Int32} {c : Nat} {i : Nat} (h : n ≤ nI (tl_cd b t n i)) : ∀ d, tl_cd b t n (i + d) = tl_cd b t n i ∧ tl_cp b t n c plc (i + d) = tl_cp b t n c plc i ∧ tl_co b t n c ord (i + d) = tl_co b t n c ord i := by
  intro d
  induction d with
  | zero => exact ⟨rfl, rfl, rfl⟩
  | succ d ih =>
    obtain ⟨a1, a2, a3⟩ := ih
    have hn : ¬ (t (b (i + d)) = true ∧ ¬ n ≤ nI (tl_cd b t n (i + d))) := by rw [a1]; exact fun q => q.2 h
    refine ⟨?_, ?_, ?_⟩
    · show (if t (b (i + d)) = true ∧ ¬ n ≤ nI (tl_cd b t n (i + d)) then _ else _) = _
      rw [if_neg hn]; exact a1
    · show (if t (b (i + d)) = true ∧ ¬ n ≤ nI (tl_cd b t n (i + d)) then _ else _) = _
      rw [if_neg hn]; exact a2
    · show (if t (b (i + d)) = true ∧ ¬ n ≤ nI (tl_cd b t n (i + d)) then _ else _) = _
      rw [if_neg hn]; exact a3
theorem tl_cinv {W c : Nat} {od p b : Nat → Nat} {t : Nat → Bool} {n : Int32} (hW : W ≤ 48) (hs : tl_srt stp org W b) (hP : tl_P W c od p plc ord) (ht : ∀ w, w < W → t w = true → p w = 48) : ∀ i, i ≤ W → ∃ od' p', tl_P W (c + tl_cd b t n i) od' p' (tl_cp b t n c plc i) (tl_co b t n c ord i) ∧ ∀ w, w < W → (∀ j, j < i → b j ≠ w) → p' w = p w := by
  intro i
  induction i with
  | zero => intro _; exact ⟨od, p, hP, fun _ _ _ => rfl⟩
  | succ i ih =>
    intro hi
    obtain ⟨od', p', h1, h2⟩ := ih (by omega)
    unfold tl_cd tl_cp tl_co
    by_cases z : t (b i) = true ∧ ¬ n ≤ nI (tl_cd b t n i)
    · rw [if_pos z, if_pos z, if_pos z]
      have hbW := hs.1 i (by omega)
      have e : p' (b i) = 48 := by rw [h2 _ hbW (fun j hj => tl_srt_inj hs hj (by omega))]; exact ht _ hbW z.1
      refine ⟨_, _, tl_P_com h1 hW hbW e, ?_⟩
      intro w hw hj
      rw [if_neg (fun q => hj i (by omega) q.symm)]
      exact h2 w hw (fun j h => hj j (by omega))
    · rw [if_neg z, if_neg z, if_neg z]
      exact ⟨od', p', h1, fun w hw hj => h2 w hw (fun j h => hj j (by omega))⟩
theorem tl_cy_hi {b : Nat → Nat} {t : Nat → Bool} {n : Int32} {o0 : Nat → Int32} {w : Nat} : ∀ i, (∀ j, j < i → t (b j) = true → b j ≠ w) → tl_cy b t n o0 i w = o0 w := by
  intro i
  induction i with
  | zero => intro _; rfl
  | succ i ih =>
    intro hj
    unfold tl_cy
    by_cases z : t (b i) = true ∧ ¬ n ≤ nI (tl_cd b t n i)
    · rw [if_pos z, pk_un (fun q => hj i (by omega) z.1 q.symm)]
      exact ih (fun j h => hj j (by omega))
    · rw [if_neg z]
      exact ih (fun j h => hj j (by omega))
theorem tl_cy_lo {b : Nat → Nat} {t : Nat → Bool} {n : Int32} {o0 : Nat → Int32} {j : Nat} (htj : t (b j) = true) : ∀ i, i ≤ 48 → j < i → ¬ n ≤ nI (tl_cd b t n i) → tl_cy b t n o0 i (b j) = 1 := by
  intro i
  induction i with
  | zero => intro _ h; omega
  | succ i ih =>
    intro h48 hj hn
    have hle := tl_cd_le b t n i
    unfold tl_cy
    by_cases z : t (b i) = true ∧ ¬ n ≤ nI (tl_cd b t n i)
    · rw [if_pos z]
      by_cases e : b j = b i
      · rw [e, pk_us]
      · rw [pk_un e]
        exact ih (by omega) (by have : j ≠ i := fun q => e (by rw [q])
                                omega) z.2
    · rw [if_neg z]
      have e : tl_cd b t n (i + 1) = tl_cd b t n i := if_neg z
      rw [e] at hn
      refine ih (by omega) ?_ hn
      have : j ≠ i := fun q => z ⟨by rw [← q]; exact htj, hn⟩
      omega
theorem tl_xcm {post : Int32 → SX → Prop} {W c : Nat} {od p b : Nat → Nat} {t : Nat → Bool} {n : Int32} (hW : W ≤ 48) (hs : tl_srt stp org W b) (hb : ∀ i, i < W → bys i = nI (b i)) (hP : tl_P W c od p plc ord) (ht : ∀ w, w < W → t w = (tl_kb (sts 0) w && decide (p w = 48)))
    (h : post (nI (tl_cd b t n W)) (xR, nI W, org, stp, knd, tgt, val, tl_cp b t n c plc W, bys, tl_co b t n c ord W, sts, upd cms 0 (nI (c + tl_cd b t n W)), clk, trm, stx, oux)) : ∀ d i, i + d = W → wX_commit_4 post n (d + 1) (nI (tl_cd b t n i)) (nI i) xR (nI W) org stp knd tgt val (tl_cp b t n c plc i) bys (tl_co b t n c ord i) sts (upd cms 0 (nI (c + tl_cd b t n i))) clk trm stx oux := by
  have ht' : ∀ w, w < W → t w = true → p w = 48 := by
    intro w hw q
    rw [ht w hw] at q
    simp at q
    exact q.2
  intro d
  induction d with
  | zero =>
    intro i hi
    have e : i = W := by omega
    subst e
    exact br_t (nI_le (by omega) (by omega)) h
  | succ d ih =>
    intro i hi
    refine br_f (nI_ge (by omega) (by omega)) ?_
    by_cases z : n ≤ nI (tl_cd b t n i)
    · obtain ⟨a1, a2, a3⟩ := tl_stop (plc := plc) (ord := ord) (c := c) z (d + 1)
      rw [hi] at a1 a2 a3
      rw [a1, a2, a3] at h
      exact br_t z h
    · have hbW := hs.1 i (by omega)
      obtain ⟨od', p', P1, P2⟩ := tl_cinv (n := n) hW hs hP ht' i (by omega)
      have hle := tl_P_le P1
      have ep : p' (b i) = p (b i) := P2 _ hbW (fun j hj => tl_srt_inj hs hj (by omega))
      have P3 := P1.1 _ hbW
      rw [ep] at P3
      have q48 : p (b i) = 48 ∨ p (b i) < c := by
        rcases (hP.1 _ hbW).2 with a | a
        · exact Or.inl a
        · exact Or.inr a.1
      refine br_f z ⟨vp_in_nI (by omega) (by omega), nm_r (e' := nI (b i)) (by rw [nI_clamp (by omega)]; exact hb i (by omega)) ?_⟩
      refine tl_xten (r := 0) (t := t (b i)) (by omega) (by omega) (M := c + tl_cd b t n i) pk_us (by omega) P3.1 (by omega) ?_ ?_
      · rw [ht _ hbW]
        congr 1
        by_cases e : p (b i) = 48
        · rw [decide_eq_true e, decide_eq_true (by omega)]
        · rw [decide_eq_false e, decide_eq_false (by omega)]
      · have ih' := ih (i + 1) (by omega)
        unfold tl_cd tl_cp tl_co at ih'
        by_cases y : t (b i) = true
        · rw [if_pos ⟨y, z⟩, if_pos ⟨y, z⟩, if_pos ⟨y, z⟩] at ih'
          have hlt := tl_P_lt P1 hbW (by rw [ep]; exact ht' _ hbW y)
          rw [if_pos y]
          refine br_f (by decide) ?_
          unfold wpX_appendToOrder
          dsimp only
          refine nm_r (e' := nI (c + tl_cd b t n i)) pk_us ⟨vp_in_nI (by omega) (by omega), ?_⟩
          rw [nI_clamp (n := c + tl_cd b t n i) (by omega), nI_clamp (n := b i) (by omega)]
          refine nm_e ⟨vp_in_nI (by omega) (by omega), nm_e (nm_r (e' := upd cms 0 (nI (c + (tl_cd b t n i + 1)))) ?_ ?_)⟩
          · rw [tl_upu, nI_1]; rfl
          · exact nm_r (nI_1 _) (nm_r (nI_1 i) ih')
        · rw [if_neg (fun q => y q.1), if_neg (fun q => y q.1), if_neg (fun q => y q.1)] at ih'
          rw [if_neg y]
          exact br_t rfl (nm_r (nI_1 i) ih')
theorem tl_yci {post : Int32 → SY → Prop} {W k0 : Nat} {n x2 : Int32} (hW : W ≤ 48) (hid : n ≤ nI k0 ∨ ∀ w, w < W → ¬ (¬ kno (0 * 48 + w) = 0 ∧ sny w = 0)) (h : post x2 (xR, nI W, yC, org, stp, knd, tgt, val, kno, ord, upd cms 0 yC, clk, trm, sty, sny)) : ∀ d k m, k + d = 48 → k0 ≤ k → d < m → wY_commit_10 post n xR (nI W) m x2 (nI k) yC org stp knd tgt val kno ord cms clk trm sty sny := by
  intro d
  induction d with
  | zero =>
    intro k m hk _ hm
    obtain ⟨m, rfl⟩ : ∃ q, m = q + 1 := ⟨m - 1, by omega⟩
    exact br_t (nI_le (a := 48) (by omega) (by omega)) (nm_e h)
  | succ d ih =>
    intro k m hk hk0 hm
    obtain ⟨m, rfl⟩ : ∃ q, m = q + 1 := ⟨m - 1, by omega⟩
    have ih' := ih (k + 1) m (by omega) (by omega) (by omega)
    refine br_f (nI_ge (b := 48) (by omega) (by decide)) (tl_yfl (r := 0) (l := fun w => decide (¬ kno (0 * 48 + w) = 0 ∧ sny w = 0)) (by omega) hW (fun w _ => by simp) ?_)
    by_cases z : n ≤ nI k
    · exact br_t z (nm_r (nI_1 k) ih')
    · refine br_f z ?_
      rcases hid with c | c
      · exact absurd (Int32.le_trans c (nI_le hk0 (by omega))) z
      · rw [tl_fl_no (fun w hw => decide_eq_false (c w hw))]
        exact br_t (by decide) (nm_r (nI_1 k) ih')
theorem tl_ycm {post : Int32 → SY → Prop} {W c : Nat} {od p b : Nat → Nat} {t : Nat → Bool} {n : Int32} {o0 : Nat → Int32} (hW : W ≤ 48) (hs : tl_srt stp org W b) (hP : tl_P W c od p plc ord) (ht' : ∀ w, w < W → t w = true → p w = 48) (h0 : ∀ w, w < W → (t w = true ↔ (¬ kno (0 * 48 + w) = 0 ∧ o0 w = 0)))
    (h : post (nI (tl_cd b t n W)) (xR, nI W, nI (c + tl_cd b t n W), org, stp, knd, tgt, val, kno, tl_co b t n c ord W, upd cms 0 (nI (c + tl_cd b t n W)), clk, trm, sty, tl_cy b t n o0 W)) : ∀ d i m, i + d = W → 48 - tl_cd b t n i < m → wY_commit_10 post n xR (nI W) m (nI (tl_cd b t n i)) (nI (tl_cd b t n i)) (nI (c + tl_cd b t n i)) org stp knd tgt val kno (tl_co b t n c ord i) cms clk trm sty (tl_cy b t n o0 i) := by
  have left : ∀ i j, i ≤ W → j < W → ¬ n ≤ nI (tl_cd b t n i) → (¬ kno (0 * 48 + b j) = 0 ∧ tl_cy b t n o0 i (b j) = 0) → i ≤ j ∧ t (b j) = true := by
    intro i j hi hj hn q
    by_cases z : t (b j) = true
    · refine ⟨?_, z⟩
      by_cases c : j < i
      · have := tl_cy_lo (o0 := o0) z i (by omega) c hn
        rw [q.2] at this
        exact absurd this (by decide)
      · omega
    · rw [tl_cy_hi i (fun x _ hx e => z (by rw [← e]; exact hx))] at q
      exact absurd ((h0 _ (hs.1 j hj)).mpr q) z
  intro d
  induction d with
  | zero =>
    intro i m hi hm
    have e : i = W := by omega
    subst e
    have hle := tl_cd_le b t n i
    refine tl_yci (k0 := tl_cd b t n i) hW ?_ h (48 - tl_cd b t n i) _ m (by omega) (Nat.le_refl _) hm
    by_cases z : n ≤ nI (tl_cd b t n i)
    · exact Or.inl z
    · refine Or.inr (fun w hw q => ?_)
      obtain ⟨j, hj, rfl⟩ := hs.2.2 w hw
      have := left i j (by omega) hj z q
      omega
  | succ d ih =>
    intro i m hi hm
    have hle := tl_cd_le b t n i
    have ih' := ih (i + 1)
    unfold tl_cd tl_co tl_cy at ih'
    by_cases z : t (b i) = true ∧ ¬ n ≤ nI (tl_cd b t n i)
    · rw [if_pos z, if_pos z, if_pos z] at ih'
      obtain ⟨m, rfl⟩ : ∃ q, m = q + 1 := ⟨m - 1, by omega⟩
      have hbW := hs.1 i (by omega)
      obtain ⟨od', p', P1, P2⟩ := tl_cinv (n := n) hW hs hP ht' i (by omega)
      have ep : p' (b i) = p (b i) := P2 _ hbW (fun j hj => tl_srt_inj hs hj (by omega))
      have hlt := tl_P_lt P1 hbW (by rw [ep]; exact ht' _ hbW z.1)
      refine br_f (nI_ge (b := 48) (by omega) (by decide)) (tl_yfl (r := 0) (l := fun w => decide (¬ kno (0 * 48 + w) = 0 ∧ tl_cy b t n o0 i w = 0)) (by omega) hW (fun w _ => by simp) ?_)
      rw [tl_fl_eq hs (i := i) (by omega) ?_ ?_]
      · refine br_f z.2 (br_f (nI_pos (by omega)) (br_f (nI_ge (b := 48) (by omega) (by decide)) ⟨vp_in_nI (by omega) (by omega), ?_⟩))
        show ∀ y, y = upd (tl_co b t n c ord i) (nI (c + tl_cd b t n i)).toNatClampNeg (nI (b i)) → vp_in (nI (b i)) 48 ∧ ∀ y2, y2 = upd (tl_cy b t n o0 i) (nI (b i)).toNatClampNeg 1 → _
        rw [nI_clamp (n := c + tl_cd b t n i) (by omega), nI_clamp (n := b i) (by omega)]
        exact nm_e ⟨vp_in_nI (by omega) (by omega), nm_e (nm_r (nI_1 _) (nm_r (nI_1 _) (nm_r (nI_1 _) (ih' m (by omega) (by omega)))))⟩
      · refine decide_eq_true ?_
        rw [tl_cy_hi i (fun j hj _ => tl_srt_inj hs hj (by omega))]
        exact (h0 _ hbW).mp z.1
      · intro j hj
        refine decide_eq_false (fun q => ?_)
        have := left i j (by omega) (by omega) z.2 q
        omega
    · rw [if_neg z, if_neg z, if_neg z] at ih'
      exact ih' m (by omega) hm
end
end
section
/-! ===== the relation, and the small methods ===== -/
def tl_M (c : Nat) (m : Nat → Nat) (cms : Nat → Int32) : Prop := m 0 = c ∧ ∀ r, r < 4 → cms r = nI (m r) ∧ m r ≤ c
def tl_G (rr W c : Nat) (b od p m : Nat → Nat) (org stp knd tgt plc bys ord : Nat → Int32) (sts : Nat → Int64) (cms kno stx sty sny : Nat → Int32) : Prop :=
  (rr ≤ 4 ∧ W ≤ 48) ∧ tl_V W knd tgt ∧ ((∀ i, i < W → bys i = nI (b i)) ∧ tl_srt stp org W b) ∧ tl_P W c od p plc ord ∧ tl_K W sts kno ∧ tl_M c m cms ∧ (∀ j, 8 ≤ j → stx j = 0) ∧ (∀ j, 8 ≤ j → sty j = 0) ∧ (∀ j, 48 ≤ j → sny j = 0)
/-- the two keep the same writes, order, known commits, clocks and trims; the component's list by stamp is sorted, its places are the order's inverse, its sets are the reference's table -/
def i_Rel (_ : Nat) (u : SX) (v : SY) : Prop :=
  ∃ (rr W c : Nat) (b od p m : Nat → Nat) (org stp knd tgt val plc bys ord : Nat → Int32) (sts : Nat → Int64) (cms clk trm stx oux kno sty sny : Nat → Int32),
    u = (nI rr, nI W, org, stp, knd, tgt, val, plc, bys, ord, sts, cms, clk, trm, stx, oux) ∧ v = (nI rr, nI W, nI c, org, stp, knd, tgt, val, kno, ord, cms, clk, trm, sty, sny) ∧ tl_G rr W c b od p m org stp knd tgt plc bys ord sts cms kno stx sty sny
theorem i_up {k : Nat} {u : SX} {v : SY} (h : i_Rel k u v) : i_Rel (k + 5) u v := h
theorem tl_ini {rr : Nat} (h : rr ≤ 4) (k : Nat) : i_Rel k (nI rr, 0, (fun _ => 0), (fun _ => 0), (fun _ => 0), (fun _ => 0), (fun _ => 0), (fun _ => 0), (fun _ => 0), (fun _ => 0), (fun _ => 0), (fun _ => 0), (fun _ => 0), (fun _ => 0), (fun _ => 0), (fun _ => 0)) (nI rr, 0, 0, (fun _ => 0), (fun _ => 0), (fun _ => 0), (fun _ => 0), (fun _ => 0), (fun _ => 0), (fun _ => 0), (fun _ => 0), (fun _ => 0), (fun _ => 0), (fun _ => 0), (fun _ => 0)) := by
  refine ⟨rr, 0, 0, fun _ => 0, fun _ => 0, fun _ => 0, fun _ => 0, fun _ => 0, fun _ => 0, fun _ => 0, fun _ => 0, fun _ => 0, fun _ => 0, fun _ => 0, fun _ => 0, fun _ => 0, fun _ => 0, fun _ => 0, fun _ => 0, fun _ => 0, fun _ => 0, fun _ => 0, fun _ => 0, fun _ => 0, rfl, rfl, ?_⟩
  refine ⟨⟨h, by omega⟩, fun w hw => absurd hw (by omega), ⟨fun i hi => absurd hi (by omega), fun i hi => absurd hi (by omega), fun i j _ hj => absurd hj (by omega), fun w hw => absurd hw (by omega)⟩, ⟨fun w hw => absurd hw (by omega), fun i hi => absurd hi (by omega), rfl⟩, ?_, ⟨rfl, fun r _ => ⟨rfl, Nat.le_refl _⟩⟩, fun _ _ => rfl, fun _ _ => rfl, fun _ _ => rfl⟩
  intro r _ w _
  exact ⟨⟨fun _ => tl_kb_0 w, fun _ => rfl⟩, fun _ => tl_kb_0 w⟩
theorem i_vc0 (k0 : Int32) : wpX_init (fun u => wpY_init (fun v => i_Rel 1 u v) k0) k0 := by
  unfold wpX_init wpY_init
  by_cases h2 : 2 ≤ k0
  · refine br_t h2 ?_
    by_cases h4 : k0 ≤ 4
    · obtain ⟨j, hj, rfl⟩ := nI_of2 (n := 4) (by decide) (fun q => absurd (Int32.lt_of_le_of_lt h2 q) (by decide)) h4
      exact br_t h4 (br_t h2 (br_t h4 (tl_ini hj 1)))
    · exact br_f h4 (br_t h2 (br_f h4 (tl_ini (rr := 4) (by omega) 1)))
  · exact br_f h2 (br_f h2 (br_t (by decide) (tl_ini (rr := 2) (by omega) 1)))
theorem tl_ix3 (x : Int32) {n : Nat} (hn : n < 2 ^ 31) : (x < 0 ∨ nI n ≤ x) ∨ ∃ j : Nat, j < n ∧ x = nI j := by
  rcases pk_ix x hn with h | h | h
  · exact Or.inl (Or.inl h)
  · exact Or.inl (Or.inr h)
  · exact Or.inr h
theorem tl_87 {x : Int32} (h : nI 8 ≤ x) : ¬ x ≤ 7 := by
  intro q
  exact absurd (Int32.le_trans h q) (by decide)
section
variable {xR xW yC : Int32} {org stp knd tgt val plc bys ord cms clk trm stx oux kno sty sny : Nat → Int32} {sts : Nat → Int64}
theorem tl_xb {post : Int32 → Prop} {x : Int32} {rr : Nat} (hx : x < 0 ∨ nI rr ≤ x) (h : post 0) : wpX_isReplica post (nI rr, xW, org, stp, knd, tgt, val, plc, bys, ord, sts, cms, clk, trm, stx, oux) x := by
  unfold wpX_isReplica
  dsimp only
  by_cases c : x < 0
  · exact br_t c h
  · rcases hx with a | a
    · exact absurd a c
    · exact br_f c (br_t a h)
theorem tl_xg {post : Int32 → Prop} {rr j : Nat} (hj : j < rr) (hr : rr ≤ 4) (h : post 1) : wpX_isReplica post (nI rr, xW, org, stp, knd, tgt, val, plc, bys, ord, sts, cms, clk, trm, stx, oux) (nI j) := by
  unfold wpX_isReplica
  dsimp only
  exact br_f (nI_pos (by omega)) (br_f (nI_ge hj (by omega)) h)
theorem tl_yb0 {post : Int32 → Prop} {x : Int32} {rr : Nat} (hx : x < 0 ∨ nI rr ≤ x) (h : post 1) : wpY_bad post (nI rr, xW, yC, org, stp, knd, tgt, val, kno, ord, cms, clk, trm, sty, sny) x := by
  unfold wpY_bad
  dsimp only
  by_cases c : x < 0
  · exact br_t c h
  · rcases hx with a | a
    · exact absurd a c
    · exact br_f c (br_f (Int32.not_lt.mpr a) h)
theorem tl_yg {post : Int32 → Prop} {rr j : Nat} (hj : j < rr) (hr : rr ≤ 4) (h : post 0) : wpY_bad post (nI rr, xW, yC, org, stp, knd, tgt, val, kno, ord, cms, clk, trm, sty, sny) (nI j) := by
  unfold wpY_bad
  dsimp only
  exact br_f (nI_pos (by omega)) (br_t (nI_lt hj (by omega)) h)
theorem tl_xcb0 {post : Int32 → Prop} {x : Int32} (hx : x < 0 ∨ nI 8 ≤ x) (h : post 0) : wpX_isCell post x := by
  unfold wpX_isCell
  by_cases c : x < 0
  · exact br_t c h
  · rcases hx with a | a
    · exact absurd a c
    · exact br_f c (br_t a h)
theorem tl_xcg {post : Int32 → Prop} {j : Nat} (hj : j < 8) (h : post 1) : wpX_isCell post (nI j) := by
  unfold wpX_isCell
  exact br_f (nI_pos (by omega)) (br_f (nI_ge (b := 8) hj (by decide)) h)
theorem tl_xlg {post : Int32 → Prop} {a b : Int32} (h : post (if a ≤ b then b else a)) : wpX_larger post a b := by
  unfold wpX_larger
  by_cases c : a ≤ b
  · rw [if_pos c] at h; exact br_t c h
  · rw [if_neg c] at h; exact br_f c h
end
theorem tl_sn_no {od : Nat → Nat} {w : Nat} : ∀ i, (∀ j, j < i → od j ≠ w) → tl_sn od i w = 0 := by
  intro i
  induction i with
  | zero => intro _; rfl
  | succ i ih =>
    intro h
    unfold tl_sn
    rw [pk_un (fun q => h i (by omega) q.symm)]
    exact ih (fun j hj => h j (by omega))
theorem tl_sn_y {od : Nat → Nat} {w j : Nat} (e : od j = w) : ∀ i, j < i → tl_sn od i w = 1 := by
  intro i
  induction i with
  | zero => intro h; omega
  | succ i ih =>
    intro h
    unfold tl_sn
    by_cases c : w = od i
    · rw [c]; exact pk_us
    · rw [pk_un c]
      refine ih ?_
      have : j ≠ i := fun q => c (by rw [← e, q])
      omega
theorem tl_sn_p {W c M : Nat} {od p : Nat → Nat} {plc ord : Nat → Int32} (hW : W ≤ 48) (hP : tl_P W c od p plc ord) (hM : M ≤ c) {w : Nat} (hw : w < W) : (p w < M → tl_sn od M w = 1) ∧ (M ≤ p w → tl_sn od M w = 0) := by
  have hc := tl_P_le hP
  refine ⟨fun h => ?_, fun h => ?_⟩
  · rcases (hP.1 w hw).2 with a | a
    · omega
    · exact tl_sn_y a.2 M h
  · refine tl_sn_no M (fun j hj e => ?_)
    have := (hP.2.1 j (by omega)).2.2
    rw [e] at this
    omega
theorem tl_sn_big {W c M : Nat} {od p : Nat → Nat} {plc ord : Nat → Int32} (hW : W ≤ 48) (hP : tl_P W c od p plc ord) (hM : M ≤ c) : ∀ j, 48 ≤ j → tl_sn od M j = 0 := by
  intro j hj
  refine tl_sn_no M (fun i hi e => ?_)
  have := (hP.2.1 i (by omega)).2.1
  omega
theorem tl_h0 {W c M r : Nat} {od p : Nat → Nat} {plc ord kno : Nat → Int32} {sts : Nat → Int64} (hW : W ≤ 48) (hP : tl_P W c od p plc ord) (hM : M ≤ c) (hK : tl_K W sts kno) (hr : r < 4) : ∀ w, w < W → ((tl_kb (sts r) w && decide (M ≤ p w)) = true ↔ (¬ kno (r * 48 + w) = 0 ∧ tl_sn od M w = 0)) := by
  intro w hw
  have k := (hK r hr w (by omega)).1
  have s := tl_sn_p hW hP hM hw
  rw [k]
  by_cases c : M ≤ p w
  · rw [s.2 c, decide_eq_true c]
    cases tl_kb (sts r) w <;> simp
  · rw [s.1 (by omega), decide_eq_false c]
    cases tl_kb (sts r) w <;> simp
theorem i_vc_known {k : Nat} {u : SX} {v : SY} (I : i_Rel k u v) (hk : k + 5 ≤ 2561) (v1 : Int32) : wpX_known (fun r => wpY_known (fun r' => r' = r ∧ i_Rel (k + 5) u v) v v1) u v1 := by
  have J : i_Rel (k + 5) u v := I
  obtain ⟨rr, W, c, b, od, p, m, org, stp, knd, tgt, val, plc, bys, ord, sts, cms, clk, trm, stx, oux, kno, sty, sny, rfl, rfl, ⟨⟨hrr, hW⟩, hV, ⟨hB, hS⟩, hP, hK, hM, hX, hY, hN⟩⟩ := I
  unfold wpX_known wpY_known
  dsimp only
  rcases tl_ix3 v1 (n := rr) (by omega) with hx | ⟨j, hj, rfl⟩
  · exact tl_xb hx (br_t rfl (tl_yb0 hx (br_f (by decide) ⟨rfl, J⟩)))
  · refine tl_xg hj hrr (br_f (by decide) ⟨vp_in_nI (by omega) (by omega), ?_⟩)
    rw [nI_clamp (n := j) (by omega)]
    refine tl_xsize (tl_yg hj hrr (br_t rfl ⟨W + 1, tl_ykn (q := tl_kb (sts j)) (by omega) hW ?_ ⟨?_, J⟩ W 0 (by omega)⟩))
    · intro w hw
      rw [(hK j (by omega) w (by omega)).1]
      cases tl_kb (sts j) w <;> simp
    · congr 1
      have e := tl_cn_no (p := tl_kb (sts j)) (48 - W) W (fun w h1 h2 => (hK j (by omega) w (by omega)).2 h1)
      rw [show W + (48 - W) = 48 by omega] at e
      exact e.symm
theorem i_vc_committed {k : Nat} {u : SX} {v : SY} (I : i_Rel k u v) (hk : k + 5 ≤ 2561) (v1 : Int32) : wpX_committed (fun r => wpY_committed (fun r' => r' = r ∧ i_Rel (k + 5) u v) v v1) u v1 := by
  have J : i_Rel (k + 5) u v := I
  obtain ⟨rr, W, c, b, od, p, m, org, stp, knd, tgt, val, plc, bys, ord, sts, cms, clk, trm, stx, oux, kno, sty, sny, rfl, rfl, ⟨⟨hrr, hW⟩, hV, ⟨hB, hS⟩, hP, hK, hM, hX, hY, hN⟩⟩ := I
  unfold wpX_committed wpY_committed
  dsimp only
  rcases tl_ix3 v1 (n := rr) (by omega) with hx | ⟨j, hj, rfl⟩
  · exact tl_xb hx (br_t rfl (tl_yb0 hx (br_f (by decide) ⟨rfl, J⟩)))
  · exact tl_xg hj hrr (br_f (by decide) ⟨vp_in_nI (by omega) (by omega), tl_yg hj hrr (br_t rfl ⟨vp_in_nI (by omega) (by omega), rfl, J⟩)⟩)
theorem i_vc_trim {k : Nat} {u : SX} {v : SY} (I : i_Rel k u v) (hk : k + 5 ≤ 2561) (v1 : Int32) (v2 : Int32) : wpX_trim (fun r u' => wpY_trim (fun r' v' => r' = r ∧ i_Rel (k + 5) u' v') v v1 v2) u v1 v2 := by
  have J : i_Rel (k + 5) u v := I
  obtain ⟨rr, W, c, b, od, p, m, org, stp, knd, tgt, val, plc, bys, ord, sts, cms, clk, trm, stx, oux, kno, sty, sny, rfl, rfl, G⟩ := I
  have hrr := G.1.1
  unfold wpX_trim wpY_trim
  dsimp only
  rcases tl_ix3 v1 (n := rr) (by omega) with hx | ⟨j, hj, rfl⟩
  · exact tl_xb hx (br_t rfl (tl_yb0 hx (br_f (by decide) ⟨rfl, J⟩)))
  · have ij : vp_in (nI j) 4 := vp_in_nI (by omega) (by omega)
    have T : ∀ z : Int32, ∀ post : Int32 → SX → Prop, post (if trm j ≤ z then z else trm j) (nI rr, nI W, org, stp, knd, tgt, val, plc, bys, ord, sts, cms, clk, upd trm j (if trm j ≤ z then z else trm j), stx, oux) → wX_trim_30 post (nI j) z (nI rr) (nI W) org stp knd tgt val plc bys ord sts cms clk trm stx oux := by
      intro z post h
      unfold wX_trim_30
      refine ⟨ij, ?_⟩
      rw [nI_clamp (n := j) (by omega)]
      refine tl_xlg ⟨ij, nm_e ⟨ij, ?_⟩⟩
      rw [pk_us]; exact h
    have Y : ∀ z : Int32, wY_trim_29 (fun r' v' => r' = (if trm j ≤ z then z else trm j) ∧ i_Rel (k + 5) (nI rr, nI W, org, stp, knd, tgt, val, plc, bys, ord, sts, cms, clk, upd trm j (if trm j ≤ z then z else trm j), stx, oux) v') (nI j) z (nI rr) (nI W) (nI c) org stp knd tgt val kno ord cms clk trm sty sny := by
      intro z
      unfold wY_trim_29
      refine ⟨ij, ?_⟩
      rw [nI_clamp (n := j) (by omega)]
      by_cases q : z ≤ trm j
      · have e : (if trm j ≤ z then z else trm j) = trm j := by
          split
          · rename_i q2; exact Int32.le_antisymm q q2
          · rfl
        refine br_t q ⟨ij, e.symm, ?_⟩
        rw [e, tl_ups]; exact J
      · have q2 : trm j ≤ z := by
          rw [Int32.le_iff_toInt_le] at *; omega
        refine br_f q ⟨ij, nm_e ⟨ij, ?_, ?_⟩⟩
        · rw [pk_us, if_pos q2]
        · rw [if_pos q2]
          exact ⟨rr, W, c, b, od, p, m, org, stp, knd, tgt, val, plc, bys, ord, sts, cms, clk, upd trm j z, stx, oux, kno, sty, sny, rfl, rfl, G⟩
    refine tl_xg hj hrr (br_f (by decide) ⟨ij, ?_⟩)
    rw [nI_clamp (n := j) (by omega)]
    by_cases q : v2 ≤ cms j
    · exact br_t q (T _ _ (tl_yg hj hrr (br_t rfl ⟨ij, br_t q (Y v2)⟩)))
    · refine br_f q ⟨ij, T _ _ (tl_yg hj hrr (br_t rfl ⟨ij, br_f q ⟨ij, nm_e (Y (cms j))⟩⟩))⟩
end
section
/-! ===== write, bring ===== -/
theorem tl_V_add {W c k : Nat} {knd tgt : Nat → Int32} (h : tl_V W knd tgt) (hc : c < 8) (hk : k ≤ 5) : tl_V (W + 1) (upd knd W (nI k)) (upd tgt W (nI c)) := by
  intro w hw
  by_cases e : w = W
  · subst e
    exact ⟨⟨c, hc, pk_us⟩, k, hk, pk_us⟩
  · rw [pk_un e, pk_un e]
    exact h w (by omega)
theorem tl_K_add {W j : Nat} {sts : Nat → Int64} {kno : Nat → Int32} (h : tl_K W sts kno) (hW : W < 48) (hj : j < 4) : tl_K (W + 1) (vp_updL sts j (sts j ||| ((1 : Int64) <<< ((nI W).toInt64 &&& 63)))) (upd kno (j * 48 + W) 1) := by
  intro r hr w hw
  obtain ⟨h1, h2⟩ := h r hr w hw
  by_cases er : r = j
  · subst er
    rw [pk_uLs, tl_kb_or, tl_kb_sh (by omega) (by omega)]
    by_cases e : w = W
    · subst e
      rw [pk_us, decide_eq_true rfl]
      refine ⟨⟨fun q => absurd q (by decide), fun q => ?_⟩, fun q => absurd q (by omega)⟩
      simp at q
    · rw [pk_un (by omega), decide_eq_false e, Bool.or_false]
      exact ⟨h1, fun q => h2 (by omega)⟩
  · rw [pk_uLn er, pk_un (by omega)]
    exact ⟨h1, fun q => h2 (by omega)⟩
theorem tl_vcw {k rr W c : Nat} {b od p m : Nat → Nat} {org stp knd tgt val plc bys ord : Nat → Int32} {sts : Nat → Int64} {cms clk trm stx oux kno sty sny : Nat → Int32} (G : tl_G rr W c b od p m org stp knd tgt plc bys ord sts cms kno stx sty sny) {j kk cc : Nat} (hj : j < rr) (hkk : kk ≤ 5) (hcc : cc < 8) (hW : W < 48) (v4 : Int32) {a : Nat} {bb : Nat → Int32} (ha : a ≤ W) (hbb : ∀ i, i < W + 1 → bb i = nI (tl_ins a W b i))
    (hl : a = 0 ∨ ¬ tl_be (upd stp W (upd clk j (clk j + 1) j)) (upd org W (nI j)) W (b (a - 1))) (hr : ∀ x, a ≤ x → x < W → tl_be (upd stp W (upd clk j (clk j + 1) j)) (upd org W (nI j)) W (b x)) :
    i_Rel k (nI rr, nI (W + 1), upd org W (nI j), upd stp W (upd clk j (clk j + 1) j), upd knd W (nI kk), upd tgt W (nI cc), upd val W v4, upd plc W 48, bb, ord, vp_updL sts j (sts j ||| ((1 : Int64) <<< ((nI W).toInt64 &&& 63))), cms, upd clk j (clk j + 1), trm, stx, oux)
      (nI rr, nI (W + 1), nI c, upd org W (nI j), upd stp W (upd clk j (clk j + 1) j), upd knd W (nI kk), upd tgt W (nI cc), upd val W v4, upd kno (j * 48 + W) 1, ord, cms, upd clk j (clk j + 1), trm, sty, sny) := by
  obtain ⟨⟨hrr, _⟩, hV, ⟨hB, hS⟩, hP, hK, hM, hX, hY, hN⟩ := G
  refine ⟨rr, W + 1, c, tl_ins a W b, od, (fun w => if w = W then 48 else p w), m, upd org W (nI j), upd stp W (upd clk j (clk j + 1) j), upd knd W (nI kk), upd tgt W (nI cc), upd val W v4, upd plc W 48, bb, ord, vp_updL sts j (sts j ||| ((1 : Int64) <<< ((nI W).toInt64 &&& 63))), cms, upd clk j (clk j + 1), trm, stx, oux, upd kno (j * 48 + W) 1, sty, sny, rfl, rfl, ?_⟩
  exact ⟨⟨hrr, by omega⟩, tl_V_add hV hcc hkk, ⟨hbb, tl_ins_srt hS ha (fun w hw => pk_un (by omega)) (fun w hw => pk_un (by omega)) hl hr⟩, tl_P_add hP, tl_K_add hK hW (by omega), hM, hX, hY, hN⟩
theorem i_vc_write {k : Nat} {u : SX} {v : SY} (I : i_Rel k u v) (hk : k + 5 ≤ 2561) (v1 : Int32) (v2 : Int32) (v3 : Int32) (v4 : Int32) : wpX_write (fun r u' => wpY_write (fun r' v' => r' = r ∧ i_Rel (k + 5) u' v') v v1 v2 v3 v4) u v1 v2 v3 v4 := by
  have J : i_Rel (k + 5) u v := I
  obtain ⟨rr, W, c, b, od, p, m, org, stp, knd, tgt, val, plc, bys, ord, sts, cms, clk, trm, stx, oux, kno, sty, sny, rfl, rfl, G⟩ := I
  have hrr := G.1.1
  have hW := G.1.2
  unfold wpX_write wpY_write
  dsimp only
  rcases tl_ix3 v1 (n := rr) (by omega) with hx | ⟨j, hj, rfl⟩
  · exact tl_xb hx (br_t rfl (tl_yb0 hx (br_f (by decide) ⟨rfl, J⟩)))
  · refine tl_xg hj hrr (br_f (by decide) ?_)
    by_cases k1 : v2 < 0
    · exact br_t k1 (tl_yg hj hrr (br_t rfl (br_t k1 ⟨rfl, J⟩)))
    · refine br_f k1 ?_
      by_cases k2 : v2 ≤ 5
      · obtain ⟨kk, hkk, rfl⟩ := nI_of2 (n := 5) (by decide) k1 k2
        refine br_t k2 ?_
        rcases tl_ix3 v3 (n := 8) (by omega) with hc | ⟨cc, hcc, rfl⟩
        · refine tl_xcb0 hc (br_t rfl (tl_yg hj hrr (br_t rfl (br_f k1 (br_t k2 ?_)))))
          by_cases c1 : v3 < 0
          · exact br_t c1 ⟨rfl, J⟩
          · rcases hc with a | a
            · exact absurd a c1
            · exact br_f c1 (br_f (tl_87 a) ⟨rfl, J⟩)
        · have c1 : ¬ nI cc < 0 := nI_pos (by omega)
          have c2 : nI cc ≤ 7 := nI_le (b := 7) (by omega) (by omega)
          refine tl_xcg hcc (br_f (by decide) ?_)
          by_cases w1 : W < 48
          · have w2 : nI W < 48 := nI_lt (b := 48) w1 (by omega)
            have ij : vp_in (nI j) 4 := vp_in_nI (by omega) (by omega)
            have iW : vp_in (nI W) 48 := vp_in_nI (by omega) (by omega)
            refine br_t w2 ?_
            rw [nI_clamp (n := j) (by omega), nI_clamp (n := W) (by omega)]
            refine ⟨ij, ij, nm_e ⟨iW, nm_e ⟨ij, iW, nm_e ⟨iW, nm_e ⟨iW, nm_e ⟨iW, nm_e ⟨iW, nm_e ?_⟩⟩⟩⟩⟩⟩⟩
            unfold wpX_insertByStamp
            dsimp only
            refine ⟨W + 1, tl_xib (b := b) w1 G.2.2.1.2.1 ?_ W bys (Nat.le_refl W) (fun i hi => G.2.2.1.1 i hi) (fun i h1 h2 => absurd h1 (by omega)) (fun i h1 h2 => absurd h1 (by omega))⟩
            intro a bb ha hbb hl hr
            dsimp only
            refine nm_r (nI_1 W) ⟨ij, ij, nm_e ?_⟩
            refine tl_yg hj hrr (br_t rfl (br_f k1 (br_t k2 (br_f c1 (br_t c2 (br_t w2 ?_))))))
            rw [tl_ix, nI_clamp (n := j * 48 + W) (by omega), tl_nb]
            refine nm_r (nI_1 W) ⟨ij, ij, nm_e ⟨iW, nm_e ⟨ij, iW, nm_e ⟨iW, nm_e ⟨iW, nm_e ⟨iW, nm_e ⟨vp_in_nI (by omega) (by omega), nm_e ⟨rfl, ?_⟩⟩⟩⟩⟩⟩⟩⟩
            exact tl_vcw G hj hkk hcc w1 v4 ha hbb hl hr
          · have w2 : ¬ nI W < 48 := nI_nlt (b := 48) (by omega) (by omega)
            exact br_f w2 (tl_yg hj hrr (br_t rfl (br_f k1 (br_t k2 (br_f c1 (br_t c2 (br_f w2 ⟨rfl, J⟩)))))))
      · exact br_f k2 (tl_yg hj hrr (br_t rfl (br_f k1 (br_f k2 ⟨rfl, J⟩))))
theorem tl_M_br {c f g : Nat} {m : Nat → Nat} {cms : Nat → Int32} (h : tl_M c m cms) (hf : f < 4) (hg : g < 4) (hc : c ≤ 48) : tl_M c (fun r => if r = g then (if m f ≤ m g then m g else m f) else m r) (upd cms g (tl_mx cms f g)) := by
  obtain ⟨h0, h1⟩ := h
  obtain ⟨f1, f2⟩ := h1 f hf
  obtain ⟨g1, g2⟩ := h1 g hg
  have e : tl_mx cms f g = nI (if m f ≤ m g then m g else m f) := by
    unfold tl_mx
    rw [f1, g1]
    by_cases q : m f ≤ m g
    · rw [if_pos q, if_pos (nI_le q (by omega))]
    · rw [if_neg q, if_neg (nI_ge (by omega) (by omega))]
  refine ⟨?_, fun r hr => ?_⟩
  · dsimp only
    split
    · rename_i q
      subst q
      split <;> omega
    · exact h0
  · dsimp only
    by_cases q : r = g
    · rw [q, pk_us, if_pos rfl]
      refine ⟨e, ?_⟩
      split <;> omega
    · rw [pk_un q, if_neg q]
      exact h1 r hr
theorem i_vc_bring {k : Nat} {u : SX} {v : SY} (I : i_Rel k u v) (hk : k + 5 ≤ 2561) (v1 : Int32) (v2 : Int32) : wpX_bring (fun r u' => wpY_bring (fun r' v' => r' = r ∧ i_Rel (k + 5) u' v') v v1 v2) u v1 v2 := by
  have J : i_Rel (k + 5) u v := I
  obtain ⟨rr, W, c, b, od, p, m, org, stp, knd, tgt, val, plc, bys, ord, sts, cms, clk, trm, stx, oux, kno, sty, sny, rfl, rfl, ⟨⟨hrr, hW⟩, hV, ⟨hB, hS⟩, hP, hK, hM, hX, hY, hN⟩⟩ := I
  have hc := tl_P_le hP
  unfold wpX_bring wpY_bring
  dsimp only
  rcases tl_ix3 v1 (n := rr) (by omega) with hx | ⟨f, hf, rfl⟩
  · exact tl_xb hx (br_t rfl (tl_yb0 hx (br_f (by decide) ⟨rfl, J⟩)))
  · refine tl_xg hf hrr (br_f (by decide) ?_)
    rcases tl_ix3 v2 (n := rr) (by omega) with hx | ⟨g, hg, rfl⟩
    · exact tl_xb hx (br_t rfl (tl_yg hf hrr (br_t rfl (tl_yb0 hx (br_f (by decide) ⟨rfl, J⟩)))))
    · refine tl_xg hg hrr (br_f (by decide) ?_)
      by_cases e : f = g
      · subst e
        exact br_t rfl (tl_yg hf hrr (br_t rfl (tl_yg hf hrr (br_t rfl (br_t rfl ⟨rfl, J⟩)))))
      · have e2 : ¬ nI f = nI g := by rw [nI_eq (by omega) (by omega)]; exact e
        have jf : vp_in (nI f) 4 := vp_in_nI (by omega) (by omega)
        have jg : vp_in (nI g) 4 := vp_in_nI (by omega) (by omega)
        refine br_f e2 ?_
        rw [nI_clamp (n := f) (by omega), nI_clamp (n := g) (by omega)]
        refine ⟨jf, jg, nm_e ⟨jg, jg, nm_e ⟨jf, jg, tl_xlg ⟨jg, nm_e ⟨jf, jg, tl_xlg ⟨jg, nm_e (tl_xsize ?_)⟩⟩⟩⟩⟩⟩
        refine tl_yg hf hrr (br_t rfl (tl_yg hg hrr (br_t rfl (br_f e2 ⟨W + 1, ?_⟩))))
        refine tl_yb (kno := kno) (q1 := tl_kb (sts f)) (q2 := tl_kb (sts g)) (by omega) (by omega) e hW ?_ ?_ ?_ W 0 kno (by omega) ?_
        · intro w hw
          rw [(hK f (by omega) w (by omega)).1]
          cases tl_kb (sts f) w <;> simp
        · intro w hw
          rw [(hK g (by omega) w (by omega)).1]
          cases tl_kb (sts g) w <;> simp
        · intro kk hkk
          refine ⟨?_, ?_⟩
          · congr 1
            have e3 := tl_cn_no (p := tl_kb (sts f &&& (sts g ^^^ (-1)))) (48 - W) W (fun w h1 h2 => by rw [tl_kb_an (by omega), (hK f (by omega) w (by omega)).2 h1]; rfl)
            rw [show W + (48 - W) = 48 by omega] at e3
            rw [e3]
            exact tl_cn_cg W (fun w hw => (tl_kb_an (by omega)).symm)
          · refine ⟨rr, W, c, b, od, p, _, org, stp, knd, tgt, val, plc, bys, ord, vp_updL sts g (sts g ||| (sts f &&& (sts g ^^^ (-1)))), _, upd clk g (tl_mx clk f g), trm, stx, oux, kk, sty, sny, rfl, rfl, ⟨⟨hrr, hW⟩, hV, ⟨hB, hS⟩, hP, ?_, tl_M_br hM (by omega) (by omega) (by omega), hX, hY, hN⟩⟩
            intro r hr w hw
            have hkr := hkk r hr w hw
            obtain ⟨k1, k2⟩ := hK r hr w hw
            obtain ⟨f1, f2⟩ := hK f (by omega) w hw
            rw [hkr]
            by_cases er : r = g
            · subst er
              rw [pk_uLs, tl_kb_or, tl_kb_an (by omega), k1, f1]
              by_cases hw2 : w < W
              · refine ⟨?_, fun q => absurd q (by omega)⟩
                cases tl_kb (sts f) w <;> cases tl_kb (sts r) w <;> simp [hw2]
              · rw [k2 (by omega), f2 (by omega)]
                simp
            · rw [pk_uLn er]
              refine ⟨?_, k2⟩
              rw [k1]
              exact ⟨fun q => q.1, fun q => ⟨q, fun z => er z.1⟩⟩
        · intro r hr w hw
          exact ⟨fun q => ⟨q, fun z => absurd z.2.1 (by omega)⟩, fun q => q.1⟩
end
section
/-! ===== commit, cell, stable, standing ===== -/
theorem tl_keep {k rr W c : Nat} {b od p m : Nat → Nat} {org stp knd tgt val plc bys ord : Nat → Int32} {sts : Nat → Int64} {cms clk trm stx kno sty sny : Nat → Int32} (G : tl_G rr W c b od p m org stp knd tgt plc bys ord sts cms kno stx sty sny) {s1 o1 s2 n2 : Nat → Int32} (h1 : ∀ j, 8 ≤ j → s1 j = 0) (h2 : ∀ j, 8 ≤ j → s2 j = 0) (h3 : ∀ j, 48 ≤ j → n2 j = 0) : i_Rel k (nI rr, nI W, org, stp, knd, tgt, val, plc, bys, ord, sts, cms, clk, trm, s1, o1) (nI rr, nI W, nI c, org, stp, knd, tgt, val, kno, ord, cms, clk, trm, s2, n2) := by
  obtain ⟨g1, g2, g3, g4, g5, g6, g7, g8, g9⟩ := G
  exact ⟨rr, W, c, b, od, p, m, org, stp, knd, tgt, val, plc, bys, ord, sts, cms, clk, trm, s1, o1, kno, s2, n2, rfl, rfl, ⟨g1, g2, g3, g4, g5, g6, h1, h2, h3⟩⟩
theorem i_vc_commit {k : Nat} {u : SX} {v : SY} (I : i_Rel k u v) (hk : k + 5 ≤ 2561) (v1 : Int32) : wpX_commit (fun r u' => wpY_commit (fun r' v' => r' = r ∧ i_Rel (k + 5) u' v') v v1) u v1 := by
  obtain ⟨rr, W, c, b, od, p, m, org, stp, knd, tgt, val, plc, bys, ord, sts, cms, clk, trm, stx, oux, kno, sty, sny, rfl, rfl, ⟨⟨hrr, hW⟩, hV, ⟨hB, hS⟩, hP, hK, hM, hX, hY, hN⟩⟩ := I
  have hc := tl_P_le hP
  have c0 : cms 0 = nI c := by rw [(hM.2 0 (by omega)).1, hM.1]
  generalize ht : (fun w => tl_kb (sts 0) w && decide (p w = 48)) = t
  have ht1 : ∀ w, w < W → t w = (tl_kb (sts 0) w && decide (p w = 48)) := fun w _ => by rw [← ht]
  have ht2 : ∀ w, w < W → t w = true → p w = 48 := by
    intro w hw q
    rw [ht1 w hw] at q
    simp at q
    exact q.2
  have ht3 : ∀ w, w < W → (t w = true ↔ (¬ kno (0 * 48 + w) = 0 ∧ tl_sn od c w = 0)) := by
    intro w hw
    rw [← tl_h0 hW hP (Nat.le_refl c) hK (by omega : 0 < 4) w hw, ht1 w hw]
    have e : decide (p w = 48) = decide (c ≤ p w) := by
      rcases (hP.1 w hw).2 with a | a
      · rw [decide_eq_true a, decide_eq_true (by omega)]
      · rw [decide_eq_false (by omega), decide_eq_false (by omega)]
    rw [e]
  have e : upd cms 0 (nI (c + tl_cd b t v1 0)) = cms := by
    show upd cms 0 (nI c) = cms
    rw [← c0]; exact tl_ups cms 0
  have key : ∀ post : Int32 → SX → Prop, post (nI (tl_cd b t v1 W)) (nI rr, nI W, org, stp, knd, tgt, val, tl_cp b t v1 c plc W, bys, tl_co b t v1 c ord W, sts, upd cms 0 (nI (c + tl_cd b t v1 W)), clk, trm, stx, oux) → wX_commit_4 post v1 (W + 1) 0 0 (nI rr) (nI W) org stp knd tgt val plc bys ord sts cms clk trm stx oux := by
    intro post h
    have A := tl_xcm (cms := cms) hW hS hB hP ht1 h W 0 (by omega)
    rw [e] at A
    exact A
  unfold wpX_commit wpY_commit
  dsimp only
  refine ⟨W + 1, key _ ?_⟩
  refine tl_yr0 (r := 0) (M := c) (od := od) (by omega) c0 (by omega) hV hW (fun i hi => ⟨(hP.2.1 i hi).1, (hP.2.1 i hi).2.1⟩) hY hN ?_
  dsimp only
  refine ⟨49, tl_ycm (plc := plc) (o0 := tl_sn od c) hW hS hP ht2 ht3 ⟨rfl, ?_⟩ W 0 49 (by omega) (by omega)⟩
  obtain ⟨od', p', P', _⟩ := tl_cinv (n := v1) hW hS hP ht2 W (Nat.le_refl W)
  refine ⟨rr, W, c + tl_cd b t v1 W, b, od', p', (fun r => if r = 0 then c + tl_cd b t v1 W else m r), org, stp, knd, tgt, val, _, bys, _, sts, _, clk, trm, stx, oux, kno, _, _, rfl, rfl, ⟨⟨hrr, hW⟩, hV, ⟨hB, hS⟩, P', hK, ⟨rfl, ?_⟩, hX, ?_, ?_⟩⟩
  · intro r hr
    dsimp only
    by_cases q : r = 0
    · rw [q, pk_us, if_pos rfl]
      exact ⟨rfl, Nat.le_refl _⟩
    · rw [pk_un q, if_neg q]
      have := hM.2 r hr
      exact ⟨this.1, by omega⟩
  · exact tl_cs_hi hV (fun i hi => (hP.2.1 i hi).2.1) c (Nat.le_refl c)
  · intro j hj
    rw [tl_cy_hi W (fun i hi _ q => by have := hS.1 i hi; omega)]
    exact tl_sn_big hW hP (Nat.le_refl c) j hj
theorem i_vc_stable {k : Nat} {u : SX} {v : SY} (I : i_Rel k u v) (hk : k + 5 ≤ 2561) (v1 : Int32) (v2 : Int32) : wpX_stable (fun r u' => wpY_stable (fun r' v' => r' = r ∧ i_Rel (k + 5) u' v') v v1 v2) u v1 v2 := by
  have J : i_Rel (k + 5) u v := I
  obtain ⟨rr, W, c, b, od, p, m, org, stp, knd, tgt, val, plc, bys, ord, sts, cms, clk, trm, stx, oux, kno, sty, sny, rfl, rfl, G⟩ := I
  have G' := G
  obtain ⟨⟨hrr, hW⟩, hV, ⟨hB, hS⟩, hP, hK, hM, hX, hY, hN⟩ := G
  have hc := tl_P_le hP
  unfold wpX_stable wpY_stable
  dsimp only
  rcases tl_ix3 v1 (n := rr) (by omega) with hx | ⟨j, hj, rfl⟩
  · exact tl_xb hx (br_t rfl (tl_yb0 hx (br_f (by decide) ⟨rfl, J⟩)))
  · refine tl_xg hj hrr (br_f (by decide) ?_)
    rcases tl_ix3 v2 (n := 8) (by omega) with hq | ⟨cc, hcc, rfl⟩
    · refine tl_xcb0 hq (br_t rfl (tl_yg hj hrr (br_t rfl ?_)))
      by_cases c1 : v2 < 0
      · exact br_t c1 ⟨rfl, J⟩
      · rcases hq with a | a
        · exact absurd a c1
        · exact br_f c1 (br_f (tl_87 a) ⟨rfl, J⟩)
    · have c1 : ¬ nI cc < 0 := nI_pos (by omega)
      have c2 : nI cc ≤ 7 := nI_le (b := 7) (by omega) (by omega)
      have ic : vp_in (nI cc) 8 := vp_in_nI hcc (by omega)
      obtain ⟨m1, m2⟩ := hM.2 j (by omega)
      have ho : ∀ i, i < m j → ord i = nI (od i) ∧ od i < W := fun i hi => ⟨(hP.2.1 i (by omega)).1, (hP.2.1 i (by omega)).2.1⟩
      refine tl_xcg hcc (br_f (by decide) (tl_xrc (M := m j) (od := od) (by omega) m1 (by omega) hV hW ho hX ⟨ic, ?_⟩))
      refine tl_yg hj hrr (br_t rfl (br_f c1 (br_t c2 ?_)))
      refine tl_yr0 (M := m j) (od := od) (by omega) m1 (by omega) hV hW ho hY hN ⟨ic, rfl, ?_⟩
      have h8 := tl_cs_hi (val := val) hV (fun i hi => (ho i hi).2) (m j) (Nat.le_refl _)
      exact tl_keep G' h8 h8 (tl_sn_big hW hP m2)
theorem i_vc_cell {k : Nat} {u : SX} {v : SY} (I : i_Rel k u v) (hk : k + 5 ≤ 2561) (v1 : Int32) (v2 : Int32) : wpX_cell (fun r u' => wpY_cell (fun r' v' => r' = r ∧ i_Rel (k + 5) u' v') v v1 v2) u v1 v2 := by
  have J : i_Rel (k + 5) u v := I
  obtain ⟨rr, W, c, b, od, p, m, org, stp, knd, tgt, val, plc, bys, ord, sts, cms, clk, trm, stx, oux, kno, sty, sny, rfl, rfl, G⟩ := I
  have G' := G
  obtain ⟨⟨hrr, hW⟩, hV, ⟨hB, hS⟩, hP, hK, hM, hX, hY, hN⟩ := G
  have hc := tl_P_le hP
  unfold wpX_cell wpY_cell
  dsimp only
  rcases tl_ix3 v1 (n := rr) (by omega) with hx | ⟨j, hj, rfl⟩
  · exact tl_xb hx (br_t rfl (tl_yb0 hx (br_f (by decide) ⟨rfl, J⟩)))
  · refine tl_xg hj hrr (br_f (by decide) ?_)
    rcases tl_ix3 v2 (n := 8) (by omega) with hq | ⟨cc, hcc, rfl⟩
    · refine tl_xcb0 hq (br_t rfl (tl_yg hj hrr (br_t rfl ?_)))
      by_cases c1 : v2 < 0
      · exact br_t c1 ⟨rfl, J⟩
      · rcases hq with a | a
        · exact absurd a c1
        · exact br_f c1 (br_f (tl_87 a) ⟨rfl, J⟩)
    · have c1 : ¬ nI cc < 0 := nI_pos (by omega)
      have c2 : nI cc ≤ 7 := nI_le (b := 7) (by omega) (by omega)
      have ic : vp_in (nI cc) 8 := vp_in_nI hcc (by omega)
      obtain ⟨m1, m2⟩ := hM.2 j (by omega)
      have ho : ∀ i, i < m j → ord i = nI (od i) ∧ od i < W := fun i hi => ⟨(hP.2.1 i (by omega)).1, (hP.2.1 i (by omega)).2.1⟩
      have hp : ∀ w, w < W → plc w = nI (p w) ∧ p w ≤ 48 := fun w hw => ⟨(hP.1 w hw).1, by rcases (hP.1 w hw).2 with a | a <;> omega⟩
      generalize ht : (fun w => tl_kb (sts j) w && decide (m j ≤ p w)) = t
      have ht1 : ∀ w, w < W → t w = (tl_kb (sts j) w && decide (m j ≤ p w)) := fun w _ => by rw [← ht]
      have ht3 : ∀ w, w < W → (t w = true ↔ (¬ kno (j * 48 + w) = 0 ∧ tl_sn od (m j) w = 0)) := fun w hw => by rw [ht1 w hw]; exact tl_h0 hW hP m2 hK (by omega) w hw
      refine tl_xcg hcc (br_f (by decide) (tl_xrc (M := m j) (od := od) (by omega) m1 (by omega) hV hW ho hX ?_))
      dsimp only
      refine tl_xrt (M := m j) (b := b) (p := p) (t := t) (by omega) m1 (by omega) hV hW (fun i hi => ⟨hB i hi, hS.1 i hi⟩) hp ht1 ⟨ic, ?_⟩
      refine tl_yg hj hrr (br_t rfl (br_f c1 (br_t c2 ?_)))
      refine tl_yr1 (M := m j) (od := od) (b := b) (t := t) (by omega) m1 (by omega) hV hW ho hS ht3 hY hN ⟨ic, rfl, ?_⟩
      have h8 := tl_ts_hi (val := val) (t := t) hV hS.1 (tl_cs_hi (val := val) hV (fun i hi => (ho i hi).2) (m j) (Nat.le_refl _)) W (Nat.le_refl _)
      exact tl_keep G' h8 h8 (tl_to_big hW hS.1 (tl_sn_big hW hP m2))
theorem i_vc_standing {k : Nat} {u : SX} {v : SY} (I : i_Rel k u v) (hk : k + 5 ≤ 2561) (v1 : Int32) (v2 : Int32) : wpX_standing (fun r u' => wpY_standing (fun r' v' => r' = r ∧ i_Rel (k + 5) u' v') v v1 v2) u v1 v2 := by
  have J : i_Rel (k + 5) u v := I
  obtain ⟨rr, W, c, b, od, p, m, org, stp, knd, tgt, val, plc, bys, ord, sts, cms, clk, trm, stx, oux, kno, sty, sny, rfl, rfl, G⟩ := I
  have G' := G
  obtain ⟨⟨hrr, hW⟩, hV, ⟨hB, hS⟩, hP, hK, hM, hX, hY, hN⟩ := G
  have hc := tl_P_le hP
  unfold wpX_standing wpY_standing
  dsimp only
  rcases tl_ix3 v1 (n := rr) (by omega) with hx | ⟨j, hj, rfl⟩
  · exact tl_xb hx (br_t rfl (tl_yb0 hx (br_f (by decide) ⟨rfl, J⟩)))
  · refine tl_xg hj hrr (br_f (by decide) ?_)
    rcases tl_ix3 v2 (n := W) (by omega) with hq | ⟨w, hw, rfl⟩
    · by_cases c1 : v2 < 0
      · exact br_t c1 (tl_yg hj hrr (br_t rfl (br_t c1 ⟨rfl, J⟩)))
      · rcases hq with a | a
        · exact absurd a c1
        · exact br_f c1 (br_t a (tl_yg hj hrr (br_t rfl (br_f c1 (br_t a ⟨rfl, J⟩)))))
    · have c1 : ¬ nI w < 0 := nI_pos (by omega)
      have c2 : ¬ nI W ≤ nI w := nI_ge hw (by omega)
      have iw : vp_in (nI w) 48 := vp_in_nI (by omega) (by omega)
      obtain ⟨m1, m2⟩ := hM.2 j (by omega)
      have hkw := (hK j (by omega) w (by omega)).1
      have ho : ∀ i, i < m j → ord i = nI (od i) ∧ od i < W := fun i hi => ⟨(hP.2.1 i (by omega)).1, (hP.2.1 i (by omega)).2.1⟩
      have hp : ∀ w, w < W → plc w = nI (p w) ∧ p w ≤ 48 := fun w hw => ⟨(hP.1 w hw).1, by rcases (hP.1 w hw).2 with a | a <;> omega⟩
      generalize ht : (fun w => tl_kb (sts j) w && decide (m j ≤ p w)) = t
      have ht1 : ∀ w, w < W → t w = (tl_kb (sts j) w && decide (m j ≤ p w)) := fun w _ => by rw [← ht]
      have ht3 : ∀ w, w < W → (t w = true ↔ (¬ kno (j * 48 + w) = 0 ∧ tl_sn od (m j) w = 0)) := fun w hw => by rw [ht1 w hw]; exact tl_h0 hW hP m2 hK (by omega) w hw
      have h7 := tl_cs_hi (val := val) hV (fun i hi => (ho i hi).2) (m j) (Nat.le_refl _)
      have h8 := tl_ts_hi (val := val) (t := t) hV hS.1 h7 W (Nat.le_refl _)
      have h9 := tl_to_big (tgt := tgt) (knd := knd) (val := val) (t := t) (s0 := tl_cs tgt knd val od (m j)) hW hS.1 (tl_sn_big hW hP m2)
      refine br_f c1 (br_f c2 (tl_xis (by omega) (by omega) ?_))
      rw [tl_ix, nI_clamp (n := j * 48 + w) (by omega)]
      have ik : vp_in (nI (j * 48 + w)) 192 := vp_in_nI (by omega) (by omega)
      by_cases z : tl_kb (sts j) w = true
      · have zk : ¬ kno (j * 48 + w) = 0 := by rw [hkw, z]; decide
        rw [if_pos z]
        refine br_f (by decide) (tl_xten (t := t w) (by omega) (by omega) m1 (by omega) (hp w hw).1 (hp w hw).2 (ht1 w hw) ?_)
        by_cases y : t w = true
        · rw [if_pos y]
          refine br_f (by decide) (tl_xrc (M := m j) (od := od) (by omega) m1 (by omega) hV hW ho hX ?_)
          dsimp only
          refine tl_xrt (M := m j) (b := b) (p := p) (t := t) (by omega) m1 (by omega) hV hW (fun i hi => ⟨hB i hi, hS.1 i hi⟩) hp ht1 ⟨iw, ?_⟩
          refine tl_yg hj hrr (br_t rfl (br_f c1 (br_f c2 ⟨ik, br_f zk ?_⟩)))
          refine tl_yr1 (M := m j) (od := od) (b := b) (t := t) (by omega) m1 (by omega) hV hW ho hS ht3 hY hN ⟨iw, ?_, ?_⟩
          · rw [nI_clamp (n := w) (by omega)]
            obtain ⟨i, hi, rfl⟩ := hS.2.2 w hw
            exact tl_to_eq W i hi y
          · exact tl_keep G' h8 h8 h9
        · rw [if_neg y]
          refine br_t rfl (tl_yg hj hrr (br_t rfl (br_f c1 (br_f c2 ⟨ik, br_f zk ?_⟩))))
          refine tl_yr1 (M := m j) (od := od) (b := b) (t := t) (by omega) m1 (by omega) hV hW ho hS ht3 hY hN ⟨iw, ?_, ?_⟩
          · dsimp only
            rw [nI_clamp (n := w) (by omega), tl_to_hi (w := w) W (fun i _ hi q => y (by rw [← q]; exact hi))]
            refine (tl_sn_p hW hP m2 hw).1 ?_
            rw [ht1 w hw, z] at y
            simp at y
            exact y
          · exact tl_keep G' hX h8 h9
      · have zk : kno (j * 48 + w) = 0 := hkw.mpr (ts_nt z)
        rw [if_neg z]
        exact br_t rfl (tl_yg hj hrr (br_t rfl (br_f c1 (br_f c2 ⟨ik, br_t zk ⟨rfl, J⟩⟩))))
end
