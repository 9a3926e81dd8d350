/-- both sides keep the same words and the same reserved word -/
def i_Rel (_ : Nat) (u : SX) (v : SY) : Prop := u = v
theorem i_up {k : Nat} {u : SX} {v : SY} (h : i_Rel k u v) : i_Rel (k + 4) u v := h
theorem i_vc0 (k0 : Int32) : wpX_init (fun u => wpY_init (fun v => i_Rel 1 u v) k0) k0 := rfl
theorem i_vc_load {k : Nat} {u : SX} {v : SY} (I : i_Rel k u v) (hk : k + 4 ≤ 2049) (v1 : Int32) : wpX_load (fun r => wpY_load (fun r' => r' = r ∧ i_Rel (k + 4) u v) v v1) u v1 := by
  cases I
  obtain ⟨f, a⟩ := u
  unfold wpX_load
  rcases hc_w v1 with h | ⟨j, hj, rfl⟩
  · exact hc_xW0 h (hc_yl0 h ⟨rfl, rfl⟩)
  · refine hc_xW1 hj ⟨vp_in_nI hj (by decide), hc_yl1 hj ⟨?_, rfl⟩⟩
    rw [nI_clamp (by omega)]
theorem i_vc_store {k : Nat} {u : SX} {v : SY} (I : i_Rel k u v) (hk : k + 4 ≤ 2049) (v1 : Int32) (v2 : Int32) : wpX_store (fun r u' => wpY_store (fun r' v' => r' = r ∧ i_Rel (k + 4) u' v') v v1 v2) u v1 v2 := by
  cases I
  obtain ⟨f, a⟩ := u
  unfold wpX_store
  rcases hc_w v1 with h | ⟨j, hj, rfl⟩
  · exact hc_xW0 h (hc_ys0 h ⟨rfl, rfl⟩)
  · exact hc_xW1 hj (hc_xwr hj (hc_ys1 hj ⟨rfl, rfl⟩))
theorem i_vc_loadByte {k : Nat} {u : SX} {v : SY} (I : i_Rel k u v) (hk : k + 4 ≤ 2049) (v1 : Int32) (v2 : Int32) : wpX_loadByte (fun r => wpY_loadByte (fun r' => r' = r ∧ i_Rel (k + 4) u v) v v1 (lw_bz v2)) u v1 (lw_bz v2) := by
  cases I
  obtain ⟨f, a⟩ := u
  unfold wpX_loadByte wpY_loadByte
  rcases hc_b v1 with h | ⟨j, hj, rfl⟩
  · exact hc_xB0 h (hc_yB0 h ⟨rfl, rfl⟩)
  · refine hc_xB1 hj (hc_xwo hj ⟨vp_in_nI (by omega) (by decide), hc_xso hj ?_⟩)
    rw [nI_clamp (by omega), hc_s2 hj, hc_div hj, nI_clamp (by omega)]
    intro x ex
    have e : x = hc_u (a (j / 4)) (8 * (j % 4)) := ex
    have hs := hc_sh (a (j / 4)) (8 * (j % 4)) (by omega)
    rw [← e] at hs
    have h8 := hc_i8 x
    rw [← hs] at h8
    refine br_c (fun z => ?_) (fun z => ?_)
    · refine hc_yB1 hj ⟨hc_4, vp_in_nI (by omega) (by decide), hc_4, fun y ey => br_t z ⟨?_, rfl⟩⟩
      rw [ey, hs]
    · refine hc_yB1 hj ⟨hc_4, vp_in_nI (by omega) (by decide), hc_4, fun y ey => br_f z ?_⟩
      rw [ey]
      exact ⟨fun c => ⟨h8.1 c, rfl⟩, fun c => ⟨h8.2 c, rfl⟩⟩
theorem i_vc_storeByte {k : Nat} {u : SX} {v : SY} (I : i_Rel k u v) (hk : k + 4 ≤ 2049) (v1 : Int32) (v2 : Int32) : wpX_storeByte (fun r u' => wpY_storeByte (fun r' v' => r' = r ∧ i_Rel (k + 4) u' v') v v1 v2) u v1 v2 := by
  cases I
  obtain ⟨f, a⟩ := u
  unfold wpX_storeByte wpY_storeByte
  rcases hc_b v1 with h | ⟨j, hj, rfl⟩
  · exact hc_xB0 h (hc_yB0 h ⟨rfl, rfl⟩)
  · refine hc_xB1 hj (hc_xwo hj (hc_xso hj ⟨vp_in_nI (by omega) (by decide), fun x ex => hc_xwr (by omega) ?_⟩))
    rw [hc_s2 hj, hc_div hj]
    refine hc_yB1 hj ⟨hc_4, fun s es => ⟨hc_4, vp_in_nI (by omega) (by decide), fun y ey => ⟨hc_4, hc_ywr (by omega) ⟨rfl, ?_⟩⟩⟩⟩
    rw [ey, es, ex]
    exact rfl
theorem i_vc_swap {k : Nat} {u : SX} {v : SY} (I : i_Rel k u v) (hk : k + 4 ≤ 2049) (v1 : Int32) (v2 : Int32) : wpX_swap (fun r u' => wpY_swap (fun r' v' => r' = r ∧ i_Rel (k + 4) u' v') v v1 v2) u v1 v2 := by
  cases I
  obtain ⟨f, a⟩ := u
  unfold wpX_swap wpY_swap
  rcases hc_w v1 with h | ⟨j, hj, rfl⟩
  · exact hc_xW0 h (hc_yl0 h (hc_ys0 h ⟨rfl, rfl⟩))
  · refine hc_xW1 hj ⟨vp_in_nI hj (by decide), fun x ex => hc_xwr hj (hc_yl1 hj (hc_ys1 hj ⟨?_, rfl⟩))⟩
    rw [ex, nI_clamp (by omega)]
theorem i_vc_addTo {k : Nat} {u : SX} {v : SY} (I : i_Rel k u v) (hk : k + 4 ≤ 2049) (v1 : Int32) (v2 : Int32) : wpX_addTo (fun r u' => wpY_addTo (fun r' v' => r' = r ∧ i_Rel (k + 4) u' v') v v1 v2) u v1 v2 := by
  cases I
  obtain ⟨f, a⟩ := u
  unfold wpX_addTo wpY_addTo
  rcases hc_w v1 with h | ⟨j, hj, rfl⟩
  · exact hc_xW0 h (hc_yW0 h ⟨rfl, rfl⟩)
  · have hv : vp_in (nI j) 256 := vp_in_nI hj (by decide)
    exact hc_xW1 hj ⟨hv, hc_xwr hj ⟨hv, hc_yW1 hj ⟨hv, hc_ywr hj ⟨hv, rfl, rfl⟩⟩⟩⟩
theorem i_vc_loadReserved {k : Nat} {u : SX} {v : SY} (I : i_Rel k u v) (hk : k + 4 ≤ 2049) (v1 : Int32) : wpX_loadReserved (fun r u' => wpY_loadReserved (fun r' v' => r' = r ∧ i_Rel (k + 4) u' v') v v1) u v1 := by
  cases I
  obtain ⟨f, a⟩ := u
  unfold wpX_loadReserved wpY_loadReserved
  rcases hc_w v1 with h | ⟨j, hj, rfl⟩
  · refine hc_xW0 h (hc_yW0 h ?_)
    unfold wY_loadReserved_13
    exact hc_yl0 h ⟨rfl, rfl⟩
  · refine hc_xW1 hj ⟨vp_in_nI hj (by decide), hc_yW1 hj ?_⟩
    unfold wY_loadReserved_13
    refine hc_yl1 hj ⟨?_, rfl⟩
    rw [nI_clamp (by omega)]
theorem i_vc_storeConditional {k : Nat} {u : SX} {v : SY} (I : i_Rel k u v) (hk : k + 4 ≤ 2049) (v1 : Int32) (v2 : Int32) : wpX_storeConditional (fun r u' => wpY_storeConditional (fun r' v' => r' = r ∧ i_Rel (k + 4) u' v') v v1 v2) u v1 v2 := by
  cases I
  obtain ⟨f, a⟩ := u
  unfold wpX_storeConditional wpY_storeConditional
  rcases hc_w v1 with h | ⟨j, hj, rfl⟩
  · exact hc_xW0 h (hc_yW0 h ⟨rfl, rfl⟩)
  · refine hc_xW1 hj (br_c (fun c => ?_) (fun c => ?_))
    · unfold wX_storeConditional_22
      refine br_f hc_1 (hc_xwr hj ?_)
      show wX_storeConditional_33 _ _ _ _
      unfold wX_storeConditional_33
      refine br_f hc_1 (hc_yW1 hj (br_t c ?_))
      unfold wY_storeConditional_23
      refine br_f hc_1 (hc_ywr hj ?_)
      show wY_storeConditional_34 _ _ _ _
      unfold wY_storeConditional_34
      exact br_f hc_1 ⟨rfl, rfl⟩
    · unfold wX_storeConditional_22 wX_storeConditional_33
      refine br_t rfl (br_t rfl (hc_yW1 hj (br_f c ?_)))
      unfold wY_storeConditional_23 wY_storeConditional_34
      exact br_t rfl (br_t rfl ⟨rfl, rfl⟩)
theorem i_vc_copy {k : Nat} {u : SX} {v : SY} (I : i_Rel k u v) (hk : k + 4 ≤ 2049) (v1 : Int32) (v2 : Int32) (v3 : Int32) : wpX_copy (fun r u' => wpY_copy (fun r' v' => r' = r ∧ i_Rel (k + 4) u' v') v v1 v2 v3) u v1 v2 v3 := by
  cases I
  obtain ⟨f, a⟩ := u
  unfold wpX_copy wpY_copy
  rcases hc_w v1 with h | ⟨p, hp, rfl⟩
  · exact hc_xW0 h (hc_yW0 h ⟨rfl, rfl⟩)
  rcases hc_w v2 with h | ⟨q, hq, rfl⟩
  · exact hc_xW1 hp (hc_xW0 h (hc_yW1 hp (hc_yW0 h ⟨rfl, rfl⟩)))
  by_cases h0 : v3 < 0
  · exact hc_xW1 hp (hc_xW1 hq (hc_xL0 (Or.inl h0) (hc_yW1 hp (hc_yW1 hq (br_t h0 ⟨rfl, rfl⟩)))))
  by_cases h1 : 32 < v3
  · exact hc_xW1 hp (hc_xW1 hq (hc_xL0 (Or.inr h1) (hc_yW1 hp (hc_yW1 hq (br_f h0 (br_t h1 ⟨rfl, rfl⟩))))))
  by_cases h2 : 256 < nI p + v3
  · exact hc_xW1 hp (hc_xW1 hq (hc_xL1 h0 h1 (hc_xF0 h2 (hc_yW1 hp (hc_yW1 hq (br_f h0 (br_f h1 (br_t h2 ⟨rfl, rfl⟩))))))))
  by_cases h3 : 256 < nI q + v3
  · exact hc_xW1 hp (hc_xW1 hq (hc_xL1 h0 h1 (hc_xF1 h2 (hc_xF0 h3 (hc_yW1 hp (hc_yW1 hq (br_f h0 (br_f h1 (br_f h2 (br_f (Int32.not_le.mpr h3) ⟨rfl, rfl⟩))))))))))
  obtain ⟨m, hm, rfl⟩ := nI_of h0
  have m1 : m ≤ 32 := (nI_leI (b := 32) hm (by decide)).mp (Int32.not_lt.mp h1)
  have m2 : p + m ≤ 256 := by
    rw [nI_add] at h2
    exact (nI_leI (b := 256) (by omega) (by decide)).mp (Int32.not_lt.mp h2)
  have m3 : q + m ≤ 256 := by
    rw [nI_add] at h3
    exact (nI_leI (b := 256) (by omega) (by decide)).mp (Int32.not_lt.mp h3)
  obtain ⟨g, b, hX, hY⟩ := hc_cp m2 m3 m 0 (by omega) f a
  rw [nI_0] at hX hY
  exact hc_xW1 hp (hc_xW1 hq (hc_xL1 h0 h1 (hc_xF1 h2 (hc_xF1 h3 ⟨_, hX _ (hc_yW1 hp (hc_yW1 hq (br_f h0 (br_f h1 (br_f h2 (br_t (Int32.not_lt.mp h3) ⟨_, hY _ ⟨rfl, rfl⟩⟩))))))⟩))))
theorem i_vc_deviceRead {k : Nat} {u : SX} {v : SY} (I : i_Rel k u v) (hk : k + 4 ≤ 2049) (v1 : Int32) : wpX_deviceRead (fun r => wpY_deviceRead (fun r' => r' = r ∧ i_Rel (k + 4) u v) v v1) u v1 := by
  cases I
  obtain ⟨f, a⟩ := u
  unfold wpX_deviceRead wpY_deviceRead
  rcases hc_w v1 with h | ⟨j, hj, rfl⟩
  · exact hc_xW0 h (hc_yl0 h ⟨rfl, rfl⟩)
  · refine hc_xW1 hj ⟨vp_in_nI hj (by decide), hc_yl1 hj ⟨?_, rfl⟩⟩
    rw [nI_clamp (by omega)]
theorem i_vc_deviceWrite {k : Nat} {u : SX} {v : SY} (I : i_Rel k u v) (hk : k + 4 ≤ 2049) (v1 : Int32) (v2 : Int32) : wpX_deviceWrite (fun r u' => wpY_deviceWrite (fun r' v' => r' = r ∧ i_Rel (k + 4) u' v') v v1 v2) u v1 v2 := by
  cases I
  obtain ⟨f, a⟩ := u
  unfold wpX_deviceWrite wpY_deviceWrite
  rcases hc_w v1 with h | ⟨j, hj, rfl⟩
  · exact hc_xW0 h (hc_ys0 h ⟨rfl, rfl⟩)
  · exact hc_xW1 hj (hc_xwr hj (hc_ys1 hj ⟨rfl, rfl⟩))
theorem i_vc_deviceFill {k : Nat} {u : SX} {v : SY} (I : i_Rel k u v) (hk : k + 4 ≤ 2049) (v1 : Int32) (v2 : Int32) (v3 : Int32) : wpX_deviceFill (fun r u' => wpY_deviceFill (fun r' v' => r' = r ∧ i_Rel (k + 4) u' v') v v1 v2 v3) u v1 v2 v3 := by
  cases I
  obtain ⟨f, a⟩ := u
  unfold wpX_deviceFill wpY_deviceFill
  rcases hc_w v1 with h | ⟨q, hq, rfl⟩
  · exact hc_xW0 h (hc_yW0 h ⟨rfl, rfl⟩)
  by_cases h0 : v2 < 0
  · exact hc_xW1 hq (hc_xL0 (Or.inl h0) (hc_yW1 hq (br_t h0 ⟨rfl, rfl⟩)))
  by_cases h1 : 64 < v2
  · exact hc_xW1 hq (hc_xL0 (Or.inr h1) (hc_yW1 hq (br_f h0 (br_t h1 ⟨rfl, rfl⟩))))
  by_cases h3 : 256 < nI q + v2
  · exact hc_xW1 hq (hc_xL1 h0 h1 (hc_xF0 h3 (hc_yW1 hq (br_f h0 (br_f h1 (br_f (Int32.not_le.mpr h3) ⟨rfl, rfl⟩))))))
  obtain ⟨m, hm, rfl⟩ := nI_of h0
  have m1 : m ≤ 64 := (nI_leI (b := 64) hm (by decide)).mp (Int32.not_lt.mp h1)
  have m3 : q + m ≤ 256 := by
    rw [nI_add] at h3
    exact (nI_leI (b := 256) (by omega) (by decide)).mp (Int32.not_lt.mp h3)
  obtain ⟨g, b, hX, hY⟩ := hc_fl m3 v3 m 0 (by omega) f a
  rw [nI_0] at hX hY
  exact hc_xW1 hq (hc_xL1 h0 h1 (hc_xF1 h3 ⟨_, hX _ (hc_yW1 hq (br_f h0 (br_f h1 (br_t (Int32.not_lt.mp h3) ⟨_, hY _ ⟨rfl, rfl⟩⟩))))⟩))
theorem i_vc_hint {k : Nat} {u : SX} {v : SY} (I : i_Rel k u v) (hk : k + 4 ≤ 2049) (v1 : Int32) (v2 : Int32) : wpX_hint (fun r => wpY_hint (fun r' => r' = r ∧ i_Rel (k + 4) u v) v v1 v2) u v1 v2 := by
  cases I
  obtain ⟨f, a⟩ := u
  unfold wpX_hint wpY_hint
  rcases hc_w v1 with h | ⟨j, hj, rfl⟩
  · exact hc_xW0 h (hc_yW0 h ⟨rfl, rfl⟩)
  · exact hc_xW1 hj (hc_yW1 hj ⟨rfl, rfl⟩)
theorem i_vc_sum {k : Nat} {u : SX} {v : SY} (I : i_Rel k u v) (hk : k + 4 ≤ 2049) : wpX_sum (fun r => wpY_sum (fun r' => r' = r ∧ i_Rel (k + 4) u v) v) u := by
  cases I
  obtain ⟨f, a⟩ := u
  unfold wpX_sum wpY_sum
  obtain ⟨r, hX, hY⟩ := hc_sum f a 256 0 rfl 0
  rw [nI_0] at hX hY
  exact ⟨_, hX _ ⟨_, hY _ ⟨rfl, rfl⟩⟩⟩
theorem i_vc_reserved {k : Nat} {u : SX} {v : SY} (I : i_Rel k u v) (hk : k + 4 ≤ 2049) : wpX_reserved (fun r => wpY_reserved (fun r' => r' = r ∧ i_Rel (k + 4) u v) v) u := by
  cases I
  obtain ⟨f, a⟩ := u
  exact ⟨rfl, rfl⟩
