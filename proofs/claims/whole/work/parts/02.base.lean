/-! numbers: an address is good or bad; a byte's word and shift; the two readings of a byte -/
theorem hc_1 : ¬ (1 : Int32) = 0 := by decide
theorem hc_4 : ¬ (4 : Int32) = 0 := by decide
theorem hc_w (x : Int32) : (x < 0 ∨ 256 ≤ x) ∨ ∃ j : Nat, j < 256 ∧ x = nI j := by
  by_cases h : x < 0
  · exact Or.inl (Or.inl h)
  · obtain ⟨j, hj, rfl⟩ := nI_of h
    by_cases h2 : j < 256
    · exact Or.inr ⟨j, h2, rfl⟩
    · exact Or.inl (Or.inr (nI_le (a := 256) (by omega) hj))
theorem hc_b (x : Int32) : (x < 0 ∨ 1024 ≤ x) ∨ ∃ j : Nat, j < 1024 ∧ x = nI j := by
  by_cases h : x < 0
  · exact Or.inl (Or.inl h)
  · obtain ⟨j, hj, rfl⟩ := nI_of h
    by_cases h2 : j < 1024
    · exact Or.inr ⟨j, h2, rfl⟩
    · exact Or.inl (Or.inr (nI_le (a := 1024) (by omega) hj))
theorem hc_div {j : Nat} (hj : j < 1024) : nI j / 4 = nI (j / 4) := pk_div (d := 4) (by omega) (by decide) (by decide)
theorem hc_rem {j : Nat} (hj : j < 1024) : nI j - nI j / 4 * 4 = nI (j % 4) := pk_rem (d := 4) (by omega) (by decide) (by decide)
theorem hc_s1 {j : Nat} (hj : j < 1024) : 8 * (nI j - nI j / 4 * 4) = nI (8 * (j % 4)) := by
  rw [hc_rem hj]
  exact pk_mul 8 (j % 4)
theorem hc_s2 {j : Nat} (hj : j < 1024) : (nI j - nI j / 4 * 4) * 8 = nI (8 * (j % 4)) := by
  rw [hc_rem hj, Nat.mul_comm 8]
  exact pk_mul (j % 4) 8
/-- the word shifted by n places to the right, without its sign -/
def hc_u (w : Int32) (n : Nat) : Int32 := (w.toUInt32 >>> ((nI n).toUInt32 &&& Int32.toUInt32 31)).toInt32
theorem hc_sh (w : Int32) (n : Nat) (hn : n ≤ 24) : (w >>> (nI n &&& 31)) &&& 255 = hc_u w n &&& 255 := by
  apply b_ext
  intro i hi
  unfold hc_u
  rw [b_and, b_and, b_255, b_ushr n (by omega), b_sshr n (by omega) w hi]
  by_cases h : i < 8
  · rw [if_pos (by omega)]
  · simp [h]
theorem hc_t8 : ∀ n, n < 256 → ((Int8.ofNat n).toInt32 &&& 255 ≤ 127 → (Int8.ofNat n).toInt32 &&& 255 = (Int8.ofNat n).toInt32) ∧ (¬ (Int8.ofNat n).toInt32 &&& 255 ≤ 127 → ((Int8.ofNat n).toInt32 &&& 255) - 256 = (Int8.ofNat n).toInt32) := by decide +kernel
theorem hc_i8 (z : Int32) : (z &&& 255 ≤ 127 → z &&& 255 = z.toInt8.toInt32) ∧ (¬ z &&& 255 ≤ 127 → (z &&& 255) - 256 = z.toInt8.toInt32) := by
  have e : Int8.ofNat z.toInt8.toBitVec.toNat = z.toInt8 := by
    apply Int8.toBitVec_inj.mp
    show BitVec.ofNat 8 z.toInt8.toBitVec.toNat = z.toInt8.toBitVec
    simp
  have h := hc_t8 z.toInt8.toBitVec.toNat z.toInt8.toBitVec.isLt
  rw [e, bp_b] at h
  exact h
/-! the questions of both sides -/
theorem hc_xW0 {A B : Prop} {x : Int32} (h : x < 0 ∨ 256 ≤ x) (p : A) : wpX_isWord (fun r => (r = 0 → A) ∧ (¬ r = 0 → B)) x := by
  unfold wpX_isWord
  exact br_c (fun _ => br_t rfl p) (fun h0 => br_t (h.resolve_left h0) (br_t rfl p))
theorem hc_xW1 {A B : Prop} {j : Nat} (hj : j < 256) (p : B) : wpX_isWord (fun r => (r = 0 → A) ∧ (¬ r = 0 → B)) (nI j) := by
  unfold wpX_isWord
  exact br_f (nI_pos (by omega)) (br_f (nI_ge (b := 256) hj (by decide)) (br_f hc_1 p))
theorem hc_yW0 {A B : Prop} {v : SY} {x : Int32} (h : x < 0 ∨ 256 ≤ x) (p : A) : wpY_isWord (fun r => (r = 0 → A) ∧ (¬ r = 0 → B)) v x := by
  obtain ⟨f, a⟩ := v
  unfold wpY_isWord
  exact br_c (fun _ => br_t rfl p) (fun h0 => br_t (h.resolve_left h0) (br_t rfl p))
theorem hc_yW1 {A B : Prop} {v : SY} {j : Nat} (hj : j < 256) (p : B) : wpY_isWord (fun r => (r = 0 → A) ∧ (¬ r = 0 → B)) v (nI j) := by
  obtain ⟨f, a⟩ := v
  unfold wpY_isWord
  exact br_f (nI_pos (by omega)) (br_f (nI_ge (b := 256) hj (by decide)) (br_f hc_1 p))
theorem hc_xB0 {A B : Prop} {x : Int32} (h : x < 0 ∨ 1024 ≤ x) (p : A) : wpX_isByte (fun r => (r = 0 → A) ∧ (¬ r = 0 → B)) x := by
  unfold wpX_isByte
  exact br_c (fun _ => br_t rfl p) (fun h0 => br_t (h.resolve_left h0) (br_t rfl p))
theorem hc_xB1 {A B : Prop} {j : Nat} (hj : j < 1024) (p : B) : wpX_isByte (fun r => (r = 0 → A) ∧ (¬ r = 0 → B)) (nI j) := by
  unfold wpX_isByte
  exact br_f (nI_pos (by omega)) (br_f (nI_ge (b := 1024) hj (by decide)) (br_f hc_1 p))
theorem hc_yB0 {A B : Prop} {v : SY} {x : Int32} (h : x < 0 ∨ 1024 ≤ x) (p : A) : wpY_isByte (fun r => (r = 0 → A) ∧ (¬ r = 0 → B)) v x := by
  obtain ⟨f, a⟩ := v
  unfold wpY_isByte
  exact br_c (fun _ => br_t rfl p) (fun h0 => br_t (h.resolve_left h0) (br_t rfl p))
theorem hc_yB1 {A B : Prop} {v : SY} {j : Nat} (hj : j < 1024) (p : B) : wpY_isByte (fun r => (r = 0 → A) ∧ (¬ r = 0 → B)) v (nI j) := by
  obtain ⟨f, a⟩ := v
  unfold wpY_isByte
  exact br_f (nI_pos (by omega)) (br_f (nI_ge (b := 1024) hj (by decide)) (br_f hc_1 p))
theorem hc_xL0 {A B : Prop} {n L : Int32} (h : n < 0 ∨ L < n) (p : A) : wpX_isLength (fun r => (r = 0 → A) ∧ (¬ r = 0 → B)) n L := by
  unfold wpX_isLength
  exact br_c (fun _ => br_t rfl p) (fun h0 => br_t (h.resolve_left h0) (br_t rfl p))
theorem hc_xL1 {A B : Prop} {n L : Int32} (h : ¬ n < 0) (h2 : ¬ L < n) (p : B) : wpX_isLength (fun r => (r = 0 → A) ∧ (¬ r = 0 → B)) n L := by
  unfold wpX_isLength
  exact br_f h (br_f h2 (br_f hc_1 p))
theorem hc_xF0 {A B : Prop} {x n : Int32} (h : 256 < x + n) (p : A) : wpX_fits (fun r => (r = 0 → A) ∧ (¬ r = 0 → B)) x n := by
  unfold wpX_fits
  exact br_t h (br_t rfl p)
theorem hc_xF1 {A B : Prop} {x n : Int32} (h : ¬ 256 < x + n) (p : B) : wpX_fits (fun r => (r = 0 → A) ∧ (¬ r = 0 → B)) x n := by
  unfold wpX_fits
  exact br_f h (br_f hc_1 p)
theorem hc_xwo {post : Int32 → Prop} {j : Nat} (hj : j < 1024) (p : post (nI (j / 4))) : wpX_wordOf post (nI j) := by
  unfold wpX_wordOf
  rw [hc_div hj]
  exact ⟨hc_4, p⟩
theorem hc_xso {post : Int32 → Prop} {j : Nat} (hj : j < 1024) (p : post (nI (8 * (j % 4)))) : wpX_shiftOf post (nI j) := by
  unfold wpX_shiftOf
  rw [hc_s1 hj]
  exact ⟨hc_4, p⟩
/-! one write: the word, and the reservation if it was there -/
def hc_k (f : Int32) (j : Nat) : Int32 := if f = nI j then -1 else f
theorem hc_k1 {f : Int32} {j : Nat} (h : f = nI j) : hc_k f j = -1 := if_pos h
theorem hc_k0 {f : Int32} {j : Nat} (h : ¬ f = nI j) : hc_k f j = f := if_neg h
theorem hc_xwr {post : SX → Prop} {f : Int32} {a : Nat → Int32} {j : Nat} {y : Int32} (hj : j < 256) (p : post (hc_k f j, upd a j y)) : wpX_write post (f, a) (nI j) y := by
  unfold wpX_write
  refine ⟨vp_in_nI hj (by decide), fun b eb => ?_⟩
  rw [nI_clamp (by omega)] at eb
  subst eb
  refine br_c (fun h => ?_) (fun h => ?_)
  · rw [hc_k1 h] at p
    exact p
  · rw [hc_k0 h] at p
    exact p
theorem hc_ywr {post : SY → Prop} {f : Int32} {a : Nat → Int32} {j : Nat} {y : Int32} (hj : j < 256) (p : post (hc_k f j, upd a j y)) : wpY_write post (f, a) (nI j) y := by
  unfold wpY_write
  refine ⟨vp_in_nI hj (by decide), fun b eb => ?_⟩
  rw [nI_clamp (by omega)] at eb
  subst eb
  refine br_c (fun h => ?_) (fun h => ?_)
  · rw [hc_k1 h] at p
    exact p
  · rw [hc_k0 h] at p
    exact p
/-! the reference's load and store, which other methods of it call -/
theorem hc_yl0 {post : Int32 → Prop} {f : Int32} {a : Nat → Int32} {x : Int32} (h : x < 0 ∨ 256 ≤ x) (p : post (-1)) : wpY_load post (f, a) x := by
  unfold wpY_load
  exact hc_yW0 h p
theorem hc_yl1 {post : Int32 → Prop} {f : Int32} {a : Nat → Int32} {j : Nat} (hj : j < 256) (p : post (a j)) : wpY_load post (f, a) (nI j) := by
  unfold wpY_load
  refine hc_yW1 hj ⟨vp_in_nI hj (by decide), ?_⟩
  rw [nI_clamp (by omega)]
  exact p
theorem hc_ys0 {post : Int32 → SY → Prop} {f : Int32} {a : Nat → Int32} {x y : Int32} (h : x < 0 ∨ 256 ≤ x) (p : post (-1) (f, a)) : wpY_store post (f, a) x y := by
  unfold wpY_store
  exact hc_yW0 h p
theorem hc_ys1 {post : Int32 → SY → Prop} {f : Int32} {a : Nat → Int32} {j : Nat} {y : Int32} (hj : j < 256) (p : post 0 (hc_k f j, upd a j y)) : wpY_store post (f, a) (nI j) y := by
  unfold wpY_store
  exact hc_yW1 hj (hc_ywr hj p)
/-! the loops, both sides in step -/
theorem hc_sum (f : Int32) (a : Nat → Int32) : ∀ d j : Nat, j + d = 256 → ∀ t : Int32, ∃ r : Int32, (∀ post : Int32 → Prop, post r → wX_sum_4 post f a (d + 1) t (nI j)) ∧ (∀ post : Int32 → Prop, post r → wY_sum_4 post f a (d + 1) t (nI j)) := by
  intro d
  induction d with
  | zero =>
    intro j hj t
    have h : (256 : Int32) ≤ nI j := nI_le (a := 256) (by omega) (by omega)
    exact ⟨t, fun _ hp => br_t h hp, fun _ hp => br_t h hp⟩
  | succ d ih =>
    intro j hj t
    have h : ¬ (256 : Int32) ≤ nI j := nI_ge (b := 256) (by omega) (by decide)
    have hi : vp_in (nI j) 256 := vp_in_nI (by omega) (by decide)
    obtain ⟨r, hX, hY⟩ := ih (j + 1) (by omega) (t + a (nI j).toNatClampNeg)
    refine ⟨r, fun post hp => br_f h ⟨hi, fun y ey z ez => ?_⟩, fun post hp => br_f h ⟨hi, fun y ey z ez => ?_⟩⟩
    · rw [ey, ez, nI_1]; exact hX post hp
    · rw [ey, ez, nI_1]; exact hY post hp
theorem hc_cp {p q m : Nat} (hp : p + m ≤ 256) (hq : q + m ≤ 256) : ∀ d i : Nat, i + d = m → ∀ (f : Int32) (a : Nat → Int32), ∃ (g : Int32) (b : Nat → Int32), (∀ post : Int32 → SX → Prop, post (nI m) (g, b) → wX_copy_47 post (nI p) (nI q) (nI m) (d + 1) (nI i) f a) ∧ (∀ post : Int32 → SY → Prop, post (nI m) (g, b) → wY_copy_52 post (nI p) (nI q) (nI m) (d + 1) (nI i) f a) := by
  intro d
  induction d with
  | zero =>
    intro i hi f a
    have h : nI m ≤ nI i := nI_le (by omega) (by omega)
    exact ⟨f, a, fun _ hp => br_t h hp, fun _ hp => br_t h hp⟩
  | succ d ih =>
    intro i hi f a
    have h : ¬ nI m ≤ nI i := nI_ge (by omega) (by omega)
    have hv : vp_in (nI p + nI i) 256 := by
      rw [nI_add]
      exact vp_in_nI (by omega) (by decide)
    obtain ⟨g, b, hX, hY⟩ := ih (i + 1) (by omega) (hc_k f (q + i)) (upd a (q + i) (a (nI p + nI i).toNatClampNeg))
    refine ⟨g, b, fun post hp => br_f h ⟨hv, ?_⟩, fun post hp => br_f h ⟨hv, ?_⟩⟩
    · rw [nI_add q i]
      refine hc_xwr (by omega) (fun y ey => ?_)
      rw [ey, nI_1]
      exact hX post hp
    · rw [nI_add q i]
      refine hc_ywr (by omega) (fun y ey => ?_)
      rw [ey, nI_1]
      exact hY post hp
theorem hc_fl {q m : Nat} (hq : q + m ≤ 256) (w : Int32) : ∀ d i : Nat, i + d = m → ∀ (f : Int32) (a : Nat → Int32), ∃ (g : Int32) (b : Nat → Int32), (∀ post : Int32 → SX → Prop, post (nI m) (g, b) → wX_deviceFill_32 post (nI q) (nI m) w (d + 1) (nI i) f a) ∧ (∀ post : Int32 → SY → Prop, post (nI m) (g, b) → wY_deviceFill_35 post (nI q) (nI m) w (d + 1) (nI i) f a) := by
  intro d
  induction d with
  | zero =>
    intro i hi f a
    have h : nI m ≤ nI i := nI_le (by omega) (by omega)
    exact ⟨f, a, fun _ hp => br_t h hp, fun _ hp => br_t h hp⟩
  | succ d ih =>
    intro i hi f a
    have h : ¬ nI m ≤ nI i := nI_ge (by omega) (by omega)
    obtain ⟨g, b, hX, hY⟩ := ih (i + 1) (by omega) (hc_k f (q + i)) (upd a (q + i) w)
    refine ⟨g, b, fun post hp => br_f h ?_, fun post hp => br_f h ?_⟩
    · rw [nI_add q i]
      refine hc_xwr (by omega) (fun y ey => ?_)
      rw [ey, nI_1]
      exact hX post hp
    · rw [nI_add q i]
      refine hc_ywr (by omega) (fun y ey => ?_)
      rw [ey, nI_1]
      exact hY post hp
