section
theorem pk_sub {a b : Nat} (h : b ≤ a) : nI a - nI b = nI (a - b) := by
  obtain ⟨c, rfl⟩ : ∃ c, a = c + b := ⟨a - b, by omega⟩
  rw [← nI_add, Int32.add_sub_cancel, Nat.add_sub_cancel]
theorem pk_mul (a b : Nat) : nI a * nI b = nI (a * b) := (Int32.ofNat_mul a b).symm
theorem pk_div {a d : Nat} (ha : a < 2 ^ 31) (h0 : 0 < d) (hd : d < 2 ^ 31) : nI a / nI d = nI (a / d) := by
  apply Int32.toInt_inj.mp
  rw [lg_idiv_nonneg (by rw [nI_toInt ha]; omega) (by rw [nI_toInt hd]; omega), nI_toInt ha, nI_toInt hd, nI_toInt (Nat.lt_of_le_of_lt (Nat.div_le_self a d) ha)]
  first | rfl | exact (Int.natCast_ediv _ _).symm
theorem pk_rem {a d : Nat} (ha : a < 2 ^ 31) (h0 : 0 < d) (hd : d < 2 ^ 31) : nI a - nI a / nI d * nI d = nI (a % d) := by
  rw [pk_div ha h0 hd, pk_mul, pk_sub (Nat.div_mul_le_self a d)]
  exact congrArg nI (by have := Nat.div_add_mod' a d; omega)
def bt (x : Int32) (i : Nat) : Bool := x.toBitVec.getLsbD i
theorem b_ext {x y : Int32} (h : ∀ i, i < 32 → bt x i = bt y i) : x = y := Int32.toBitVec_inj.mp (BitVec.eq_of_getLsbD_eq (fun i hi => h i hi))
theorem b_and (x y : Int32) (i : Nat) : bt (x &&& y) i = (bt x i && bt y i) := by unfold bt; rw [Int32.toBitVec_and, BitVec.getLsbD_and]
theorem b_big {x : Int32} {i : Nat} (h : 32 ≤ i) : bt x i = false := BitVec.getLsbD_of_ge _ _ h
theorem b_255 (i : Nat) : bt 255 i = decide (i < 8) := by
  rcases Nat.lt_or_ge i 32 with h | h
  · exact (by decide +kernel : ∀ i, i < 32 → bt 255 i = decide (i < 8)) i h
  · rw [b_big h, decide_eq_false (by omega)]
theorem s_l : ∀ n, n < 32 → ((nI n &&& 31).toBitVec.smod 32).toNat = n := by decide +kernel
theorem s_u : ∀ n, n < 32 → (((nI n).toUInt32 &&& Int32.toUInt32 31).toBitVec % 32).toNat = n := by decide +kernel
theorem b_ushr (n : Nat) (hn : n < 32) (x : Int32) (i : Nat) : bt ((x.toUInt32 >>> ((nI n).toUInt32 &&& Int32.toUInt32 31)).toInt32) i = bt x (n + i) := by
  show (x.toUInt32 >>> ((nI n).toUInt32 &&& Int32.toUInt32 31)).toBitVec.getLsbD i = x.toUInt32.toBitVec.getLsbD (n + i)
  rw [UInt32.toBitVec_shiftRight]
  show (x.toUInt32.toBitVec >>> (((nI n).toUInt32 &&& Int32.toUInt32 31).toBitVec % 32).toNat).getLsbD i = _
  rw [s_u n hn, BitVec.getLsbD_ushiftRight]
theorem b_sshr (n : Nat) (hn : n < 32) (x : Int32) {i : Nat} (hi : i < 32) : bt (x >>> (nI n &&& 31)) i = if n + i < 32 then bt x (n + i) else bt x 31 := by
  unfold bt
  rw [Int32.toBitVec_shiftRight]
  show (x.toBitVec.sshiftRight ((nI n &&& 31).toBitVec.smod 32).toNat).getLsbD i = _
  rw [s_l n hn, BitVec.getLsbD_sshiftRight, BitVec.msb_eq_getLsbD_last]
  simp [hi]
theorem bp_b (x : Int32) : x.toInt8.toInt32 &&& 255 = x &&& 255 := by
  apply Int32.toBitVec_inj.mp
  rw [Int32.toBitVec_and, Int32.toBitVec_and, Int8.toBitVec_toInt32, Int32.toBitVec_toInt8]
  apply BitVec.eq_of_getLsbD_eq
  intro i hi
  rw [BitVec.getLsbD_and, BitVec.getLsbD_and]
  have hm : ∀ i < 32, 8 ≤ i → (255 : Int32).toBitVec.getLsbD i = false := by decide
  rcases Nat.lt_or_ge i 8 with z | z
  · rw [BitVec.getLsbD_signExtend, BitVec.getLsbD_signExtend, if_pos z, if_pos hi]
    simp only [z, hi, decide_true, Bool.true_and]
  · rw [hm i hi z]; simp
end
section
/-! numbers: an address is good or bad; a byte's word and shift; the two readings of a byte -/
theorem hc_1 : ¬ (1 : Int32) = 0 := by decide
theorem hc_4 : ¬ (4 : Int32) = 0 := by decide
theorem hc_w (x : Int32) : (x < 0 ∨ 256 ≤ x) ∨ ∃ j : Nat, j < 256 ∧ x = nI j := by
  by_cases h : x < 0
  · exact Or.inl (Or.inl h)
  · obtain ⟨j, hj, rfl⟩ := nI_of h
    by_cases h2 : j < 256
    · exact Or.inr ⟨j, h2, rfl⟩
    · exact Or.inl (Or.inr (nI_le (a := 256) (by omega) hj))
theorem hc_b (x : Int32) : (x < 0 ∨ 1024 ≤ x) ∨ ∃ j : Nat, j < 1024 ∧ x = nI j := by
  by_cases h : x < 0
  · exact Or.inl (Or.inl h)
  · obtain ⟨j, hj, rfl⟩ := nI_of h
    by_cases h2 : j < 1024
    · exact Or.inr ⟨j, h2, rfl⟩
    · exact Or.inl (Or.inr (nI_le (a := 1024) (by omega) hj))
theorem hc_div {j : Nat} (hj : j < 1024) : nI j / 4 = nI (j / 4) := pk_div (d := 4) (by omega) (by decide) (by decide)
theorem hc_rem {j : Nat} (hj : j < 1024) : nI j - nI j / 4 * 4 = nI (j % 4) := pk_rem (d := 4) (by omega) (by decide) (by decide)
theorem hc_s1 {j : Nat} (hj : j < 1024) : 8 * (nI j - nI j / 4 * 4) = nI (8 * (j % 4)) := by
  rw [hc_rem hj]
  exact pk_mul 8 (j % 4)
theorem hc_s2 {j : Nat} (hj : j < 1024) : (nI j - nI j / 4 * 4) * 8 = nI (8 * (j % 4)) := by
  rw [hc_rem hj, Nat.mul_comm 8]
  exact pk_mul (j % 4) 8
/-- the word shifted by n places to the right, without its sign -/
def hc_u (w : Int32) (n : Nat) : Int32 := (w.toUInt32 >>> ((nI n).toUInt32 &&& Int32.toUInt32 31)).toInt32
theorem hc_sh (w : Int32) (n : Nat) (hn : n ≤ 24) : (w >>> (nI n &&& 31)) &&& 255 = hc_u w n &&& 255 := by
  apply b_ext
  intro i hi
  unfold hc_u
  rw [b_and, b_and, b_255, b_ushr n (by omega), b_sshr n (by omega) w hi]
  by_cases h : i < 8
  · rw [if_pos (by omega)]
  · simp [h]
theorem hc_t8 : ∀ n, n < 256 → ((Int8.ofNat n).toInt32 &&& 255 ≤ 127 → (Int8.ofNat n).toInt32 &&& 255 = (Int8.ofNat n).toInt32) ∧ (¬ (Int8.ofNat n).toInt32 &&& 255 ≤ 127 → ((Int8.ofNat n).toInt32 &&& 255) - 256 = (Int8.ofNat n).toInt32) := by decide +kernel
theorem hc_i8 (z : Int32) : (z &&& 255 ≤ 127 → z &&& 255 = z.toInt8.toInt32) ∧ (¬ z &&& 255 ≤ 127 → (z &&& 255) - 256 = z.toInt8.toInt32) := by
  have e : Int8.ofNat z.toInt8.toBitVec.toNat = z.toInt8 := by
    apply Int8.toBitVec_inj.mp
    show BitVec.ofNat 8 z.toInt8.toBitVec.toNat = z.toInt8.toBitVec
    simp
  have h := hc_t8 z.toInt8.toBitVec.toNat z.toInt8.toBitVec.isLt
  rw [e, bp_b] at h
  exact h
/-! the questions of both sides -/
theorem hc_xW0 {A B : Prop} {x : Int32} (h : x < 0 ∨ 256 ≤ x) (p : A) : wpX_isWord (fun r => (r = 0 → A) ∧ (¬ r = 0 → B)) x := by
  unfold wpX_isWord
  exact br_c (fun _ => br_t rfl p) (fun h0 => br_t (h.resolve_left h0) (br_t rfl p))
theorem hc_xW1 {A B : Prop} {j : Nat} (hj : j < 256) (p : B) : wpX_isWord (fun r => (r = 0 → A) ∧ (¬ r = 0 → B)) (nI j) := by
  unfold wpX_isWord
  exact br_f (nI_pos (by omega)) (br_f (nI_ge (b := 256) hj (by decide)) (br_f hc_1 p))
theorem hc_yW0 {A B : Prop} {v : SY} {x : Int32} (h : x < 0 ∨ 256 ≤ x) (p : A) : wpY_isWord (fun r => (r = 0 → A) ∧ (¬ r = 0 → B)) v x := by
  obtain ⟨f, a⟩ := v
  unfold wpY_isWord
  exact br_c (fun _ => br_t rfl p) (fun h0 => br_t (h.resolve_left h0) (br_t rfl p))
theorem hc_yW1 {A B : Prop} {v : SY} {j : Nat} (hj : j < 256) (p : B) : wpY_isWord (fun r => (r = 0 → A) ∧ (¬ r = 0 → B)) v (nI j) := by
  obtain ⟨f, a⟩ := v
  unfold wpY_isWord
  exact br_f (nI_pos (by omega)) (br_f (nI_ge (b := 256) hj (by decide)) (br_f hc_1 p))
theorem hc_xB0 {A B : Prop} {x : Int32} (h : x < 0 ∨ 1024 ≤ x) (p : A) : wpX_isByte (fun r => (r = 0 → A) ∧ (¬ r = 0 → B)) x := by
  unfold wpX_isByte
  exact br_c (fun _ => br_t rfl p) (fun h0 => br_t (h.resolve_left h0) (br_t rfl p))
theorem hc_xB1 {A B : Prop} {j : Nat} (hj : j < 1024) (p : B) : wpX_isByte (fun r => (r = 0 → A) ∧ (¬ r = 0 → B)) (nI j) := by
  unfold wpX_isByte
  exact br_f (nI_pos (by omega)) (br_f (nI_ge (b := 1024) hj (by decide)) (br_f hc_1 p))
theorem hc_yB0 {A B : Prop} {v : SY} {x : Int32} (h : x < 0 ∨ 1024 ≤ x) (p : A) : wpY_isByte (fun r => (r = 0 → A) ∧ (¬ r = 0 → B)) v x := by
  obtain ⟨f, a⟩ := v
  unfold wpY_isByte
  exact br_c (fun _ => br_t rfl p) (fun h0 => br_t (h.resolve_left h0) (br_t rfl p))
theorem hc_yB1 {A B : Prop} {v : SY} {j : Nat} (hj : j < 1024) (p : B) : wpY_isByte (fun r => (r = 0 → A) ∧ (¬ r = 0 → B)) v (nI j) := by
  obtain ⟨f, a⟩ := v
  unfold wpY_isByte
  exact br_f (nI_pos (by omega)) (br_f (nI_ge (b := 1024) hj (by decide)) (br_f hc_1 p))
theorem hc_xL0 {A B : Prop} {n L : Int32} (h : n < 0 ∨ L < n) (p : A) : wpX_isLength (fun r => (r = 0 → A) ∧ (¬ r = 0 → B)) n L := by
  unfold wpX_isLength
  exact br_c (fun _ => br_t rfl p) (fun h0 => br_t (h.resolve_left h0) (br_t rfl p))
theorem hc_xL1 {A B : Prop} {n L : Int32} (h : ¬ n < 0) (h2 : ¬ L < n) (p : B) : wpX_isLength (fun r => (r = 0 → A) ∧ (¬ r = 0 → B)) n L := by
  unfold wpX_isLength
  exact br_f h (br_f h2 (br_f hc_1 p))
theorem hc_xF0 {A B : Prop} {x n : Int32} (h : 256 < x + n) (p : A) : wpX_fits (fun r => (r = 0 → A) ∧ (¬ r = 0 → B)) x n := by
  unfold wpX_fits
  exact br_t h (br_t rfl p)
theorem hc_xF1 {A B : Prop} {x n : Int32} (h : ¬ 256 < x + n) (p : B) : wpX_fits (fun r => (r = 0 → A) ∧ (¬ r = 0 → B)) x n := by
  unfold wpX_fits
  exact br_f h (br_f hc_1 p)
theorem hc_xwo {post : Int32 → Prop} {j : Nat} (hj : j < 1024) (p : post (nI (j / 4))) : wpX_wordOf post (nI j) := by
  unfold wpX_wordOf
  rw [hc_div hj]
  exact ⟨hc_4, p⟩
theorem hc_xso {post : Int32 → Prop} {j : Nat} (hj : j < 1024) (p : post (nI (8 * (j % 4)))) : wpX_shiftOf post (nI j) := by
  unfold wpX_shiftOf
  rw [hc_s1 hj]
  exact ⟨hc_4, p⟩
/-! one write: the word, and the reservation if it was there -/
def hc_k (f : Int32) (j : Nat) : Int32 := if f = nI j then -1 else f
theorem hc_k1 {f : Int32} {j : Nat} (h : f = nI j) : hc_k f j = -1 := if_pos h
theorem hc_k0 {f : Int32} {j : Nat} (h : ¬ f = nI j) : hc_k f j = f := if_neg h
theorem hc_xwr {post : SX → Prop} {f : Int32} {a : Nat → Int32} {j : Nat} {y : Int32} (hj : j < 256) (p : post (hc_k f j, upd a j y)) : wpX_write post (f, a) (nI j) y := by
  unfold wpX_write
  refine ⟨vp_in_nI hj (by decide), fun b eb => ?_⟩
  rw [nI_clamp (by omega)] at eb
  subst eb
  refine br_c (fun h => ?_) (fun h => ?_)
  · rw [hc_k1 h] at p
    exact p
  · rw [hc_k0 h] at p
    exact p
theorem hc_ywr {post : SY → Prop} {f : Int32} {a : Nat → Int32} {j : Nat} {y : Int32} (hj : j < 256) (p : post (hc_k f j, upd a j y)) : wpY_write post (f, a) (nI j) y := by
  unfold wpY_write
  refine ⟨vp_in_nI hj (by decide), fun b eb => ?_⟩
  rw [nI_clamp (by omega)] at eb
  subst eb
  refine br_c (fun h => ?_) (fun h => ?_)
  · rw [hc_k1 h] at p
    exact p
  · rw [hc_k0 h] at p
    exact p
/-! the reference's load and store, which other methods of it call -/
theorem hc_yl0 {post : Int32 → Prop} {f : Int32} {a : Nat → Int32} {x : Int32} (h : x < 0 ∨ 256 ≤ x) (p : post (-1)) : wpY_load post (f, a) x := by
  unfold wpY_load
  exact hc_yW0 h p
theorem hc_yl1 {post : Int32 → Prop} {f : Int32} {a : Nat → Int32} {j : Nat} (hj : j < 256) (p : post (a j)) : wpY_load post (f, a) (nI j) := by
  unfold wpY_load
  refine hc_yW1 hj ⟨vp_in_nI hj (by decide), ?_⟩
  rw [nI_clamp (by omega)]
  exact p
theorem hc_ys0 {post : Int32 → SY → Prop} {f : Int32} {a : Nat → Int32} {x y : Int32} (h : x < 0 ∨ 256 ≤ x) (p : post (-1) (f, a)) : wpY_store post (f, a) x y := by
  unfold wpY_store
  exact hc_yW0 h p
theorem hc_ys1 {post : Int32 → SY → Prop} {f : Int32} {a : Nat → Int32} {j : Nat} {y : Int32} (hj : j < 256) (p : post 0 (hc_k f j, upd a j y)) : wpY_store post (f, a) (nI j) y := by
  unfold wpY_store
  exact hc_yW1 hj (hc_ywr hj p)
/-! the loops, both sides in step -/
theorem hc_sum (f : Int32) (a : Nat → Int32) : ∀ d j : Nat, j + d = 256 → ∀ t : Int32, ∃ r : Int32, (∀ post : Int32 → Prop, post r → wX_sum_4 post f a (d + 1) t (nI j)) ∧ (∀ post : Int32 → Prop, post r → wY_sum_4 post f a (d + 1) t (nI j)) := by
  intro d
  induction d with
  | zero =>
    intro j hj t
    have h : (256 : Int32) ≤ nI j := nI_le (a := 256) (by omega) (by omega)
    exact ⟨t, fun _ hp => br_t h hp, fun _ hp => br_t h hp⟩
  | succ d ih =>
    intro j hj t
    have h : ¬ (256 : Int32) ≤ nI j := nI_ge (b := 256) (by omega) (by decide)
    have hi : vp_in (nI j) 256 := vp_in_nI (by omega) (by decide)
    obtain ⟨r, hX, hY⟩ := ih (j + 1) (by omega) (t + a (nI j).toNatClampNeg)
    refine ⟨r, fun post hp => br_f h ⟨hi, fun y ey z ez => ?_⟩, fun post hp => br_f h ⟨hi, fun y ey z ez => ?_⟩⟩
    · rw [ey, ez, nI_1]; exact hX post hp
    · rw [ey, ez, nI_1]; exact hY post hp
theorem hc_cp {p q m : Nat} (hp : p + m ≤ 256) (hq : q + m ≤ 256) : ∀ d i : Nat, i + d = m → ∀ (f : Int32) (a : Nat → Int32), ∃ (g : Int32) (b : Nat → Int32), (∀ post : Int32 → SX → Prop, post (nI m) (g, b) → wX_copy_47 post (nI p) (nI q) (nI m) (d + 1) (nI i) f a) ∧ (∀ post : Int32 → SY → Prop, post (nI m) (g, b) → wY_copy_52 post (nI p) (nI q) (nI m) (d + 1) (nI i) f a) := by
  intro d
  induction d with
  | zero =>
    intro i hi f a
    have h : nI m ≤ nI i := nI_le (by omega) (by omega)
    exact ⟨f, a, fun _ hp => br_t h hp, fun _ hp => br_t h hp⟩
  | succ d ih =>
    intro i hi f a
    have h : ¬ nI m ≤ nI i := nI_ge (by omega) (by omega)
    have hv : vp_in (nI p + nI i) 256 := by
      rw [nI_add]
      exact vp_in_nI (by omega) (by decide)
    obtain ⟨g, b, hX, hY⟩ := ih (i + 1) (by omega) (hc_k f (q + i)) (upd a (q + i) (a (nI p + nI i).toNatClampNeg))
    refine ⟨g, b, fun post hp => br_f h ⟨hv, ?_⟩, fun post hp => br_f h ⟨hv, ?_⟩⟩
    · rw [nI_add q i]
      refine hc_xwr (by omega) (fun y ey => ?_)
      rw [ey, nI_1]
      exact hX post hp
    · rw [nI_add q i]
      refine hc_ywr (by omega) (fun y ey => ?_)
      rw [ey, nI_1]
      exact hY post hp
theorem hc_fl {q m : Nat} (hq : q + m ≤ 256) (w : Int32) : ∀ d i : Nat, i + d = m → ∀ (f : Int32) (a : Nat → Int32), ∃ (g : Int32) (b : Nat → Int32), (∀ post : Int32 → SX → Prop, post (nI m) (g, b) → wX_deviceFill_32 post (nI q) (nI m) w (d + 1) (nI i) f a) ∧ (∀ post : Int32 → SY → Prop, post (nI m) (g, b) → wY_deviceFill_35 post (nI q) (nI m) w (d + 1) (nI i) f a) := by
  intro d
  induction d with
  | zero =>
    intro i hi f a
    have h : nI m ≤ nI i := nI_le (by omega) (by omega)
    exact ⟨f, a, fun _ hp => br_t h hp, fun _ hp => br_t h hp⟩
  | succ d ih =>
    intro i hi f a
    have h : ¬ nI m ≤ nI i := nI_ge (by omega) (by omega)
    obtain ⟨g, b, hX, hY⟩ := ih (i + 1) (by omega) (hc_k f (q + i)) (upd a (q + i) w)
    refine ⟨g, b, fun post hp => br_f h ?_, fun post hp => br_f h ?_⟩
    · rw [nI_add q i]
      refine hc_xwr (by omega) (fun y ey => ?_)
      rw [ey, nI_1]
      exact hX post hp
    · rw [nI_add q i]
      refine hc_ywr (by omega) (fun y ey => ?_)
      rw [ey, nI_1]
      exact hY post hp
end
section
/-- both sides keep the same words and the same reserved word -/
def i_Rel (_ : Nat) (u : SX) (v : SY) : Prop := u = v
theorem i_up {k : Nat} {u : SX} {v : SY} (h : i_Rel k u v) : i_Rel (k + 4) u v := h
theorem i_vc0 (k0 : Int32) : wpX_init (fun u => wpY_init (fun v => i_Rel 1 u v) k0) k0 := rfl
theorem i_vc_load {k : Nat} {u : SX} {v : SY} (I : i_Rel k u v) (hk : k + 4 ≤ 2049) (v1 : Int32) : wpX_load (fun r => wpY_load (fun r' => r' = r ∧ i_Rel (k + 4) u v) v v1) u v1 := by
  cases I
  obtain ⟨f, a⟩ := u
  unfold wpX_load
  rcases hc_w v1 with h | ⟨j, hj, rfl⟩
  · exact hc_xW0 h (hc_yl0 h ⟨rfl, rfl⟩)
  · refine hc_xW1 hj ⟨vp_in_nI hj (by decide), hc_yl1 hj ⟨?_, rfl⟩⟩
    rw [nI_clamp (by omega)]
theorem i_vc_store {k : Nat} {u : SX} {v : SY} (I : i_Rel k u v) (hk : k + 4 ≤ 2049) (v1 : Int32) (v2 : Int32) : wpX_store (fun r u' => wpY_store (fun r' v' => r' = r ∧ i_Rel (k + 4) u' v') v v1 v2) u v1 v2 := by
  cases I
  obtain ⟨f, a⟩ := u
  unfold wpX_store
  rcases hc_w v1 with h | ⟨j, hj, rfl⟩
  · exact hc_xW0 h (hc_ys0 h ⟨rfl, rfl⟩)
  · exact hc_xW1 hj (hc_xwr hj (hc_ys1 hj ⟨rfl, rfl⟩))
theorem i_vc_loadByte {k : Nat} {u : SX} {v : SY} (I : i_Rel k u v) (hk : k + 4 ≤ 2049) (v1 : Int32) (v2 : Int32) : wpX_loadByte (fun r => wpY_loadByte (fun r' => r' = r ∧ i_Rel (k + 4) u v) v v1 (lw_bz v2)) u v1 (lw_bz v2) := by
  cases I
  obtain ⟨f, a⟩ := u
  unfold wpX_loadByte wpY_loadByte
  rcases hc_b v1 with h | ⟨j, hj, rfl⟩
  · exact hc_xB0 h (hc_yB0 h ⟨rfl, rfl⟩)
  · refine hc_xB1 hj (hc_xwo hj ⟨vp_in_nI (by omega) (by decide), hc_xso hj ?_⟩)
    rw [nI_clamp (by omega), hc_s2 hj, hc_div hj, nI_clamp (by omega)]
    intro x ex
    have e : x = hc_u (a (j / 4)) (8 * (j % 4)) := ex
    have hs := hc_sh (a (j / 4)) (8 * (j % 4)) (by omega)
    rw [← e] at hs
    have h8 := hc_i8 x
    rw [← hs] at h8
    refine br_c (fun z => ?_) (fun z => ?_)
    · refine hc_yB1 hj ⟨hc_4, vp_in_nI (by omega) (by decide), hc_4, fun y ey => br_t z ⟨?_, rfl⟩⟩
      rw [ey, hs]
    · refine hc_yB1 hj ⟨hc_4, vp_in_nI (by omega) (by decide), hc_4, fun y ey => br_f z ?_⟩
      rw [ey]
      exact ⟨fun c => ⟨h8.1 c, rfl⟩, fun c => ⟨h8.2 c, rfl⟩⟩
theorem i_vc_storeByte {k : Nat} {u : SX} {v : SY} (I : i_Rel k u v) (hk : k + 4 ≤ 2049) (v1 : Int32) (v2 : Int32) : wpX_storeByte (fun r u' => wpY_storeByte (fun r' v' => r' = r ∧ i_Rel (k + 4) u' v') v v1 v2) u v1 v2 := by
  cases I
  obtain ⟨f, a⟩ := u
  unfold wpX_storeByte wpY_storeByte
  rcases hc_b v1 with h | ⟨j, hj, rfl⟩
  · exact hc_xB0 h (hc_yB0 h ⟨rfl, rfl⟩)
  · refine hc_xB1 hj (hc_xwo hj (hc_xso hj ⟨vp_in_nI (by omega) (by decide), fun x ex => hc_xwr (by omega) ?_⟩))
    rw [hc_s2 hj, hc_div hj]
    refine hc_yB1 hj ⟨hc_4, fun s es => ⟨hc_4, vp_in_nI (by omega) (by decide), fun y ey => ⟨hc_4, hc_ywr (by omega) ⟨rfl, ?_⟩⟩⟩⟩
    rw [ey, es, ex]
    exact rfl
theorem i_vc_swap {k : Nat} {u : SX} {v : SY} (I : i_Rel k u v) (hk : k + 4 ≤ 2049) (v1 : Int32) (v2 : Int32) : wpX_swap (fun r u' => wpY_swap (fun r' v' => r' = r ∧ i_Rel (k + 4) u' v') v v1 v2) u v1 v2 := by
  cases I
  obtain ⟨f, a⟩ := u
  unfold wpX_swap wpY_swap
  rcases hc_w v1 with h | ⟨j, hj, rfl⟩
  · exact hc_xW0 h (hc_yl0 h (hc_ys0 h ⟨rfl, rfl⟩))
  · refine hc_xW1 hj ⟨vp_in_nI hj (by decide), fun x ex => hc_xwr hj (hc_yl1 hj (hc_ys1 hj ⟨?_, rfl⟩))⟩
    rw [ex, nI_clamp (by omega)]
theorem i_vc_addTo {k : Nat} {u : SX} {v : SY} (I : i_Rel k u v) (hk : k + 4 ≤ 2049) (v1 : Int32) (v2 : Int32) : wpX_addTo (fun r u' => wpY_addTo (fun r' v' => r' = r ∧ i_Rel (k + 4) u' v') v v1 v2) u v1 v2 := by
  cases I
  obtain ⟨f, a⟩ := u
  unfold wpX_addTo wpY_addTo
  rcases hc_w v1 with h | ⟨j, hj, rfl⟩
  · exact hc_xW0 h (hc_yW0 h ⟨rfl, rfl⟩)
  · have hv : vp_in (nI j) 256 := vp_in_nI hj (by decide)
    exact hc_xW1 hj ⟨hv, hc_xwr hj ⟨hv, hc_yW1 hj ⟨hv, hc_ywr hj ⟨hv, rfl, rfl⟩⟩⟩⟩
theorem i_vc_loadReserved {k : Nat} {u : SX} {v : SY} (I : i_Rel k u v) (hk : k + 4 ≤ 2049) (v1 : Int32) : wpX_loadReserved (fun r u' => wpY_loadReserved (fun r' v' => r' = r ∧ i_Rel (k + 4) u' v') v v1) u v1 := by
  cases I
  obtain ⟨f, a⟩ := u
  unfold wpX_loadReserved wpY_loadReserved
  rcases hc_w v1 with h | ⟨j, hj, rfl⟩
  · refine hc_xW0 h (hc_yW0 h ?_)
    unfold wY_loadReserved_13
    exact hc_yl0 h ⟨rfl, rfl⟩
  · refine hc_xW1 hj ⟨vp_in_nI hj (by decide), hc_yW1 hj ?_⟩
    unfold wY_loadReserved_13
    refine hc_yl1 hj ⟨?_, rfl⟩
    rw [nI_clamp (by omega)]
theorem i_vc_storeConditional {k : Nat} {u : SX} {v : SY} (I : i_Rel k u v) (hk : k + 4 ≤ 2049) (v1 : Int32) (v2 : Int32) : wpX_storeConditional (fun r u' => wpY_storeConditional (fun r' v' => r' = r ∧ i_Rel (k + 4) u' v') v v1 v2) u v1 v2 := by
  cases I
  obtain ⟨f, a⟩ := u
  unfold wpX_storeConditional wpY_storeConditional
  rcases hc_w v1 with h | ⟨j, hj, rfl⟩
  · exact hc_xW0 h (hc_yW0 h ⟨rfl, rfl⟩)
  · refine hc_xW1 hj (br_c (fun c => ?_) (fun c => ?_))
    · unfold wX_storeConditional_22
      refine br_f hc_1 (hc_xwr hj ?_)
      show wX_storeConditional_33 _ _ _ _
      unfold wX_storeConditional_33
      refine br_f hc_1 (hc_yW1 hj (br_t c ?_))
      unfold wY_storeConditional_23
      refine br_f hc_1 (hc_ywr hj ?_)
      show wY_storeConditional_34 _ _ _ _
      unfold wY_storeConditional_34
      exact br_f hc_1 ⟨rfl, rfl⟩
    · unfold wX_storeConditional_22 wX_storeConditional_33
      refine br_t rfl (br_t rfl (hc_yW1 hj (br_f c ?_)))
      unfold wY_storeConditional_23 wY_storeConditional_34
      exact br_t rfl (br_t rfl ⟨rfl, rfl⟩)
theorem i_vc_copy {k : Nat} {u : SX} {v : SY} (I : i_Rel k u v) (hk : k + 4 ≤ 2049) (v1 : Int32) (v2 : Int32) (v3 : Int32) : wpX_copy (fun r u' => wpY_copy (fun r' v' => r' = r ∧ i_Rel (k + 4) u' v') v v1 v2 v3) u v1 v2 v3 := by
  cases I
  obtain ⟨f, a⟩ := u
  unfold wpX_copy wpY_copy
  rcases hc_w v1 with h | ⟨p, hp, rfl⟩
  · exact hc_xW0 h (hc_yW0 h ⟨rfl, rfl⟩)
  rcases hc_w v2 with h | ⟨q, hq, rfl⟩
  · exact hc_xW1 hp (hc_xW0 h (hc_yW1 hp (hc_yW0 h ⟨rfl, rfl⟩)))
  by_cases h0 : v3 < 0
  · exact hc_xW1 hp (hc_xW1 hq (hc_xL0 (Or.inl h0) (hc_yW1 hp (hc_yW1 hq (br_t h0 ⟨rfl, rfl⟩)))))
  by_cases h1 : 32 < v3
  · exact hc_xW1 hp (hc_xW1 hq (hc_xL0 (Or.inr h1) (hc_yW1 hp (hc_yW1 hq (br_f h0 (br_t h1 ⟨rfl, rfl⟩))))))
  by_cases h2 : 256 < nI p + v3
  · exact hc_xW1 hp (hc_xW1 hq (hc_xL1 h0 h1 (hc_xF0 h2 (hc_yW1 hp (hc_yW1 hq (br_f h0 (br_f h1 (br_t h2 ⟨rfl, rfl⟩))))))))
  by_cases h3 : 256 < nI q + v3
  · exact hc_xW1 hp (hc_xW1 hq (hc_xL1 h0 h1 (hc_xF1 h2 (hc_xF0 h3 (hc_yW1 hp (hc_yW1 hq (br_f h0 (br_f h1 (br_f h2 (br_f (Int32.not_le.mpr h3) ⟨rfl, rfl⟩))))))))))
  obtain ⟨m, hm, rfl⟩ := nI_of h0
  have m1 : m ≤ 32 := (nI_leI (b := 32) hm (by decide)).mp (Int32.not_lt.mp h1)
  have m2 : p + m ≤ 256 := by
    rw [nI_add] at h2
    exact (nI_leI (b := 256) (by omega) (by decide)).mp (Int32.not_lt.mp h2)
  have m3 : q + m ≤ 256 := by
    rw [nI_add] at h3
    exact (nI_leI (b := 256) (by omega) (by decide)).mp (Int32.not_lt.mp h3)
  obtain ⟨g, b, hX, hY⟩ := hc_cp m2 m3 m 0 (by omega) f a
  rw [nI_0] at hX hY
  exact hc_xW1 hp (hc_xW1 hq (hc_xL1 h0 h1 (hc_xF1 h2 (hc_xF1 h3 ⟨_, hX _ (hc_yW1 hp (hc_yW1 hq (br_f h0 (br_f h1 (br_f h2 (br_t (Int32.not_lt.mp h3) ⟨_, hY _ ⟨rfl, rfl⟩⟩))))))⟩))))
theorem i_vc_deviceRead {k : Nat} {u : SX} {v : SY} (I : i_Rel k u v) (hk : k + 4 ≤ 2049) (v1 : Int32) : wpX_deviceRead (fun r => wpY_deviceRead (fun r' => r' = r ∧ i_Rel (k + 4) u v) v v1) u v1 := by
  cases I
  obtain ⟨f, a⟩ := u
  unfold wpX_deviceRead wpY_deviceRead
  rcases hc_w v1 with h | ⟨j, hj, rfl⟩
  · exact hc_xW0 h (hc_yl0 h ⟨rfl, rfl⟩)
  · refine hc_xW1 hj ⟨vp_in_nI hj (by decide), hc_yl1 hj ⟨?_, rfl⟩⟩
    rw [nI_clamp (by omega)]
theorem i_vc_deviceWrite {k : Nat} {u : SX} {v : SY} (I : i_Rel k u v) (hk : k + 4 ≤ 2049) (v1 : Int32) (v2 : Int32) : wpX_deviceWrite (fun r u' => wpY_deviceWrite (fun r' v' => r' = r ∧ i_Rel (k + 4) u' v') v v1 v2) u v1 v2 := by
  cases I
  obtain ⟨f, a⟩ := u
  unfold wpX_deviceWrite wpY_deviceWrite
  rcases hc_w v1 with h | ⟨j, hj, rfl⟩
  · exact hc_xW0 h (hc_ys0 h ⟨rfl, rfl⟩)
  · exact hc_xW1 hj (hc_xwr hj (hc_ys1 hj ⟨rfl, rfl⟩))
theorem i_vc_deviceFill {k : Nat} {u : SX} {v : SY} (I : i_Rel k u v) (hk : k + 4 ≤ 2049) (v1 : Int32) (v2 : Int32) (v3 : Int32) : wpX_deviceFill (fun r u' => wpY_deviceFill (fun r' v' => r' = r ∧ i_Rel (k + 4) u' v') v v1 v2 v3) u v1 v2 v3 := by
  cases I
  obtain ⟨f, a⟩ := u
  unfold wpX_deviceFill wpY_deviceFill
  rcases hc_w v1 with h | ⟨q, hq, rfl⟩
  · exact hc_xW0 h (hc_yW0 h ⟨rfl, rfl⟩)
  by_cases h0 : v2 < 0
  · exact hc_xW1 hq (hc_xL0 (Or.inl h0) (hc_yW1 hq (br_t h0 ⟨rfl, rfl⟩)))
  by_cases h1 : 64 < v2
  · exact hc_xW1 hq (hc_xL0 (Or.inr h1) (hc_yW1 hq (br_f h0 (br_t h1 ⟨rfl, rfl⟩))))
  by_cases h3 : 256 < nI q + v2
  · exact hc_xW1 hq (hc_xL1 h0 h1 (hc_xF0 h3 (hc_yW1 hq (br_f h0 (br_f h1 (br_f (Int32.not_le.mpr h3) ⟨rfl, rfl⟩))))))
  obtain ⟨m, hm, rfl⟩ := nI_of h0
  have m1 : m ≤ 64 := (nI_leI (b := 64) hm (by decide)).mp (Int32.not_lt.mp h1)
  have m3 : q + m ≤ 256 := by
    rw [nI_add] at h3
    exact (nI_leI (b := 256) (by omega) (by decide)).mp (Int32.not_lt.mp h3)
  obtain ⟨g, b, hX, hY⟩ := hc_fl m3 v3 m 0 (by omega) f a
  rw [nI_0] at hX hY
  exact hc_xW1 hq (hc_xL1 h0 h1 (hc_xF1 h3 ⟨_, hX _ (hc_yW1 hq (br_f h0 (br_f h1 (br_t (Int32.not_lt.mp h3) ⟨_, hY _ ⟨rfl, rfl⟩⟩))))⟩))
theorem i_vc_hint {k : Nat} {u : SX} {v : SY} (I : i_Rel k u v) (hk : k + 4 ≤ 2049) (v1 : Int32) (v2 : Int32) : wpX_hint (fun r => wpY_hint (fun r' => r' = r ∧ i_Rel (k + 4) u v) v v1 v2) u v1 v2 := by
  cases I
  obtain ⟨f, a⟩ := u
  unfold wpX_hint wpY_hint
  rcases hc_w v1 with h | ⟨j, hj, rfl⟩
  · exact hc_xW0 h (hc_yW0 h ⟨rfl, rfl⟩)
  · exact hc_xW1 hj (hc_yW1 hj ⟨rfl, rfl⟩)
theorem i_vc_sum {k : Nat} {u : SX} {v : SY} (I : i_Rel k u v) (hk : k + 4 ≤ 2049) : wpX_sum (fun r => wpY_sum (fun r' => r' = r ∧ i_Rel (k + 4) u v) v) u := by
  cases I
  obtain ⟨f, a⟩ := u
  unfold wpX_sum wpY_sum
  obtain ⟨r, hX, hY⟩ := hc_sum f a 256 0 rfl 0
  rw [nI_0] at hX hY
  exact ⟨_, hX _ ⟨_, hY _ ⟨rfl, rfl⟩⟩⟩
theorem i_vc_reserved {k : Nat} {u : SX} {v : SY} (I : i_Rel k u v) (hk : k + 4 ≤ 2049) : wpX_reserved (fun r => wpY_reserved (fun r' => r' = r ∧ i_Rel (k + 4) u v) v) u := by
  cases I
  obtain ⟨f, a⟩ := u
  exact ⟨rfl, rfl⟩
end
