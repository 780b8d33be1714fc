/-- the same array, the same versions, the same marks; what either side keeps as a scratch array for copy is free -/
def i_Rel (k : Nat) (u : SX) (v : SY) : Prop := ∃ A V K b b' : Nat → Int32, u = (A, V, K, b) ∧ v = (A, b', V, K)
theorem i_up {k : Nat} {u : SX} {v : SY} (h : i_Rel k u v) : i_Rel (k + 4) u v := h
theorem i_vc0 : wpX_init (fun u => wpY_init (fun v => i_Rel 0 u v)) := ⟨_, _, _, _, _, rfl, rfl⟩
theorem i_vc_fill {k : Nat} {u : SX} {v : SY} (I : i_Rel k u v) (hk : k + 4 ≤ 2048) (v1 : Int32) (v2 : Int32) (v3 : Int32) : wpX_fill (fun r u' => wpY_fill (fun r' v' => r' = r ∧ i_Rel (k + 4) u' v') v v1 v2 v3) u v1 v2 v3 := by
  obtain ⟨A, V, K, b, b', rfl, rfl⟩ := I
  unfold wpX_fill
  dsimp only
  rcases cb_two v1 v2 with hb | ⟨p, q, hp, hq, rfl, rfl⟩
  · refine cx_change0 hb ?_
    dsimp only
    unfold wpY_fill
    dsimp only
    exact cy_change0 hb ⟨rfl, A, V, K, b, b', rfl, rfl⟩
  · refine cx_change1 (fun _ => v3) (fun x => by rw [Int32.mul_zero, Int32.zero_add]) A V K b hp hq ?_
    dsimp only
    unfold wpY_fill
    dsimp only
    exact cy_change1 (fun _ => v3) (Or.inl ⟨rfl, fun _ => rfl⟩) A b' V K hp hq ⟨rfl, _, V, K, b, b', rfl, rfl⟩
theorem i_vc_add {k : Nat} {u : SX} {v : SY} (I : i_Rel k u v) (hk : k + 4 ≤ 2048) (v1 : Int32) (v2 : Int32) (v3 : Int32) : wpX_add (fun r u' => wpY_add (fun r' v' => r' = r ∧ i_Rel (k + 4) u' v') v v1 v2 v3) u v1 v2 v3 := by
  obtain ⟨A, V, K, b, b', rfl, rfl⟩ := I
  unfold wpX_add
  dsimp only
  rcases cb_two v1 v2 with hb | ⟨p, q, hp, hq, rfl, rfl⟩
  · refine cx_change0 hb ?_
    dsimp only
    unfold wpY_add
    dsimp only
    exact cy_change0 hb ⟨rfl, A, V, K, b, b', rfl, rfl⟩
  · refine cx_change1 (fun x => x + v3) (fun x => by rw [Int32.mul_one]) A V K b hp hq ?_
    dsimp only
    unfold wpY_add
    dsimp only
    exact cy_change1 (fun x => x + v3) (Or.inr (Or.inl ⟨rfl, fun _ => rfl⟩)) A b' V K hp hq ⟨rfl, _, V, K, b, b', rfl, rfl⟩
theorem i_vc_scale {k : Nat} {u : SX} {v : SY} (I : i_Rel k u v) (hk : k + 4 ≤ 2048) (v1 : Int32) (v2 : Int32) (v3 : Int32) : wpX_scale (fun r u' => wpY_scale (fun r' v' => r' = r ∧ i_Rel (k + 4) u' v') v v1 v2 v3) u v1 v2 v3 := by
  obtain ⟨A, V, K, b, b', rfl, rfl⟩ := I
  unfold wpX_scale
  dsimp only
  rcases cb_two v1 v2 with hb | ⟨p, q, hp, hq, rfl, rfl⟩
  · refine cx_change0 hb ?_
    dsimp only
    unfold wpY_scale
    dsimp only
    exact cy_change0 hb ⟨rfl, A, V, K, b, b', rfl, rfl⟩
  · refine cx_change1 (fun x => x * v3) (fun x => by rw [Int32.add_zero]) A V K b hp hq ?_
    dsimp only
    unfold wpY_scale
    dsimp only
    exact cy_change1 (fun x => x * v3) (Or.inr (Or.inr ⟨rfl, fun _ => rfl⟩)) A b' V K hp hq ⟨rfl, _, V, K, b, b', rfl, rfl⟩
theorem i_vc_copy {k : Nat} {u : SX} {v : SY} (I : i_Rel k u v) (hk : k + 4 ≤ 2048) (v1 : Int32) (v2 : Int32) (v3 : Int32) : wpX_copy (fun r u' => wpY_copy (fun r' v' => r' = r ∧ i_Rel (k + 4) u' v') v v1 v2 v3) u v1 v2 v3 := by
  obtain ⟨A, V, K, b, b', rfl, rfl⟩ := I
  rcases cb_two v1 v2 with hb | ⟨p, q, hp, hq, rfl, rfl⟩
  · unfold wpX_copy
    dsimp only
    refine cx_reg0 hb (br_t rfl ?_)
    unfold wpY_copy
    dsimp only
    exact cy_reg0 hb ⟨rfl, A, V, K, b, b', rfl, rfl⟩
  · rcases cb_cell v3 with hb | ⟨a, ha, rfl⟩
    · unfold wpX_copy
      dsimp only
      refine cx_reg1 hp hq (br_f cb_1 (cx_cell0 hb (br_t rfl ?_)))
      unfold wpY_copy
      dsimp only
      exact cy_cell1 hp (br_f cb_1 (cy_cell1 hq (br_f cb_1 (cy_cell0 hb (br_t rfl ⟨rfl, A, V, K, b, b', rfl, rfl⟩)))))
    · exact cx_copy1 A V K b hp hq ha (fun r0 R c0 C rows cols e1 e2 e3 e4 e5 e6 c => cy_copy1 A b' V K hp hq ha e1 e2 e3 e4 e5 e6 (fun c' => ⟨rfl, _, V, K, c, c', rfl, rfl⟩))
theorem i_vc_keep {k : Nat} {u : SX} {v : SY} (I : i_Rel k u v) (hk : k + 4 ≤ 2048) (v1 : Int32) : wpX_keep (fun r u' => wpY_keep (fun r' v' => r' = r ∧ i_Rel (k + 4) u' v') v v1) u v1 := by
  obtain ⟨A, V, K, b, b', rfl, rfl⟩ := I
  unfold wpX_keep
  dsimp only
  rcases cb_ver v1 with hb | ⟨j, hj, rfl⟩
  · refine cx_ver0 hb (br_t rfl ?_)
    unfold wpY_keep
    dsimp only
    rcases hb with hb | ⟨m, h1, h2, rfl⟩
    · exact br_t hb ⟨rfl, A, V, K, b, b', rfl, rfl⟩
    · exact br_f (nI_pos h2) (br_f (nI_ge (a := 3) h1 h2) ⟨rfl, A, V, K, b, b', rfl, rfl⟩)
  · refine cx_ver1 hj (br_f cb_1 ⟨vp_in_nI hj (by decide), ?_⟩)
    rw [cb_at (K := K) hj]
    by_cases z : K j = 0
    · refine br_t z (cx_keepL A V K b hj ?_)
      unfold wpY_keep
      dsimp only
      refine br_f (nI_pos (by omega)) (br_t (nI_le (b := 3) (by omega) (by decide)) ⟨vp_in_nI hj (by decide), ?_⟩)
      rw [cb_at (K := K) hj, nI_clamp (n := j) (by omega)]
      exact br_t z ⟨vp_in_nI hj (by decide), nm_e (cy_keepL A b' V _ hj ⟨rfl, A, _, _, b, b', rfl, rfl⟩)⟩
    · refine br_f z ?_
      unfold wpY_keep
      dsimp only
      refine br_f (nI_pos (by omega)) (br_t (nI_le (b := 3) (by omega) (by decide)) ⟨vp_in_nI hj (by decide), ?_⟩)
      rw [cb_at (K := K) hj]
      exact br_f z ⟨rfl, A, V, K, b, b', rfl, rfl⟩
theorem i_vc_restore {k : Nat} {u : SX} {v : SY} (I : i_Rel k u v) (hk : k + 4 ≤ 2048) (v1 : Int32) : wpX_restore (fun r u' => wpY_restore (fun r' v' => r' = r ∧ i_Rel (k + 4) u' v') v v1) u v1 := by
  obtain ⟨A, V, K, b, b', rfl, rfl⟩ := I
  unfold wpX_restore
  dsimp only
  rcases cb_vcase K v1 with hb | ⟨j, hj, rfl, hk⟩
  · refine cx_kept0 hb (br_t rfl ?_)
    unfold wpY_restore
    dsimp only
    exact cy_diff0 hb ⟨1, br_f (by decide) (br_t (by decide) ⟨rfl, A, V, K, b, b', rfl, rfl⟩)⟩
  · refine cx_kept1 hj hk (br_f cb_1 (cx_diff A V K b hj (cx_restL A V K b _ hj ?_)))
    unfold wpY_restore
    dsimp only
    have hc : ca_C (ca_D A V j) 256 ≤ 256 := ca_Cle _ _
    exact cy_diff1 A b' V K hj hk (cy_restL A b' V K (nI_pos (by omega)) hj ⟨rfl, _, V, K, b, b', rfl, rfl⟩)
theorem i_vc_drop {k : Nat} {u : SX} {v : SY} (I : i_Rel k u v) (hk : k + 4 ≤ 2048) (v1 : Int32) : wpX_drop (fun r u' => wpY_drop (fun r' v' => r' = r ∧ i_Rel (k + 4) u' v') v v1) u v1 := by
  obtain ⟨A, V, K, b, b', rfl, rfl⟩ := I
  unfold wpX_drop
  dsimp only
  rcases cb_vcase K v1 with hb | ⟨j, hj, rfl, hk'⟩
  · refine cx_kept0 hb (br_t rfl ?_)
    unfold wpY_drop
    dsimp only
    exact cy_kept0 hb (br_t rfl ⟨rfl, A, V, K, b, b', rfl, rfl⟩)
  · refine cx_kept1 hj hk' (br_f cb_1 ⟨vp_in_nI hj (by decide), nm_e ?_⟩)
    unfold wpY_drop
    dsimp only
    exact cy_kept1 hj hk' (br_f cb_1 ⟨vp_in_nI hj (by decide), nm_e ⟨rfl, A, V, _, b, b', rfl, rfl⟩⟩)
theorem i_vc_get {k : Nat} {u : SX} {v : SY} (I : i_Rel k u v) (hk : k + 4 ≤ 2048) (v1 : Int32) : wpX_get (fun r => wpY_get (fun r' => r' = r ∧ i_Rel (k + 4) u v) v v1) u v1 := by
  obtain ⟨A, V, K, b, b', rfl, rfl⟩ := I
  unfold wpX_get
  dsimp only
  rcases cb_cell v1 with hb | ⟨p, hp, rfl⟩
  · refine cx_cell0 hb (br_t rfl ?_)
    unfold wpY_get
    dsimp only
    exact cy_cell0 hb (br_t rfl ⟨rfl, A, V, K, b, b', rfl, rfl⟩)
  · refine cx_cell1 hp (br_f cb_1 ⟨vp_in_nI hp (by decide), ?_⟩)
    unfold wpY_get
    dsimp only
    exact cy_cell1 hp (br_f cb_1 ⟨vp_in_nI hp (by decide), ⟨rfl, A, V, K, b, b', rfl, rfl⟩⟩)
theorem i_vc_getOf {k : Nat} {u : SX} {v : SY} (I : i_Rel k u v) (hk : k + 4 ≤ 2048) (v1 : Int32) (v2 : Int32) : wpX_getOf (fun r => wpY_getOf (fun r' => r' = r ∧ i_Rel (k + 4) u v) v v1 v2) u v1 v2 := by
  obtain ⟨A, V, K, b, b', rfl, rfl⟩ := I
  unfold wpX_getOf
  dsimp only
  rcases cb_cell v2 with hb | ⟨p, hp, rfl⟩
  · refine cx_cell0 hb (br_t rfl ?_)
    unfold wpY_getOf
    dsimp only
    exact cy_cell0 hb (br_t rfl ⟨rfl, A, V, K, b, b', rfl, rfl⟩)
  · refine cx_cell1 hp (br_f cb_1 ?_)
    rcases cb_vcase K v1 with hb | ⟨j, hj, rfl, hk'⟩
    · refine cx_kept0 hb (br_t rfl ?_)
      unfold wpY_getOf
      dsimp only
      exact cy_cell1 hp (br_f cb_1 (cy_kept0 hb (br_t rfl ⟨rfl, A, V, K, b, b', rfl, rfl⟩)))
    · have vi : vp_in (nI j * 256 + nI p) 1024 := by
        rw [cb_vc]
        exact vp_in_nI (by omega) (by decide)
      refine cx_kept1 hj hk' (br_f cb_1 ⟨vi, ?_⟩)
      unfold wpY_getOf
      dsimp only
      exact cy_cell1 hp (br_f cb_1 (cy_kept1 hj hk' (br_f cb_1 ⟨vi, ⟨rfl, A, V, K, b, b', rfl, rfl⟩⟩)))
theorem i_vc_sum {k : Nat} {u : SX} {v : SY} (I : i_Rel k u v) (hk : k + 4 ≤ 2048) (v1 : Int32) (v2 : Int32) : wpX_sum (fun r => wpY_sum (fun r' => r' = r ∧ i_Rel (k + 4) u v) v v1 v2) u v1 v2 := by
  obtain ⟨A, V, K, b, b', rfl, rfl⟩ := I
  rcases cb_two v1 v2 with hb | ⟨p, q, hp, hq, rfl, rfl⟩
  · unfold wpX_sum
    dsimp only
    refine cx_reg0 hb (br_t rfl ?_)
    unfold wpY_sum
    dsimp only
    exact cy_reg0 hb ⟨rfl, A, V, K, b, b', rfl, rfl⟩
  · refine cx_sum1 A V K b hp hq ?_
    unfold wpY_sum
    dsimp only
    exact cy_reg1 hp hq (cy_sumL A b' V K hp hq ⟨rfl, A, V, K, b, b', rfl, rfl⟩)
theorem i_vc_greatest {k : Nat} {u : SX} {v : SY} (I : i_Rel k u v) (hk : k + 4 ≤ 2048) (v1 : Int32) (v2 : Int32) : wpX_greatest (fun r => wpY_greatest (fun r' => r' = r ∧ i_Rel (k + 4) u v) v v1 v2) u v1 v2 := by
  obtain ⟨A, V, K, b, b', rfl, rfl⟩ := I
  rcases cb_two v1 v2 with hb | ⟨p, q, hp, hq, rfl, rfl⟩
  · unfold wpX_greatest
    dsimp only
    refine cx_reg0 hb (br_t rfl ?_)
    unfold wpY_greatest
    dsimp only
    exact cy_reg0 hb ⟨rfl, A, V, K, b, b', rfl, rfl⟩
  · refine cx_greatest1 A V K b hp hq ?_
    unfold wpY_greatest
    dsimp only
    exact cy_reg1 hp hq ⟨vp_in_nI hp (by decide), nm_r (by rw [nI_clamp (n := p) (by omega)]) (cy_greatestL A b' V K (A p) hp hq ⟨rfl, A, V, K, b, b', rfl, rfl⟩)⟩
theorem i_vc_differ {k : Nat} {u : SX} {v : SY} (I : i_Rel k u v) (hk : k + 4 ≤ 2048) (v1 : Int32) : wpX_differ (fun r => wpY_differ (fun r' => r' = r ∧ i_Rel (k + 4) u v) v v1) u v1 := by
  obtain ⟨A, V, K, b, b', rfl, rfl⟩ := I
  unfold wpX_differ
  dsimp only
  rcases cb_vcase K v1 with hb | ⟨j, hj, rfl, hk'⟩
  · exact cx_kept0 hb (br_t rfl (cy_diff0 hb ⟨rfl, A, V, K, b, b', rfl, rfl⟩))
  · exact cx_kept1 hj hk' (br_f cb_1 (cx_diff A V K b hj (cy_diff1 A b' V K hj hk' ⟨rfl, A, V, K, b, b', rfl, rfl⟩)))
theorem i_vc_count {k : Nat} {u : SX} {v : SY} (I : i_Rel k u v) (hk : k + 4 ≤ 2048) (v1 : Int32) (v2 : Int32) (v3 : Int32) : wpX_count (fun r => wpY_count (fun r' => r' = r ∧ i_Rel (k + 4) u v) v v1 v2 v3) u v1 v2 v3 := by
  obtain ⟨A, V, K, b, b', rfl, rfl⟩ := I
  rcases cb_two v1 v2 with hb | ⟨p, q, hp, hq, rfl, rfl⟩
  · unfold wpX_count
    dsimp only
    refine cx_reg0 hb (br_t rfl ?_)
    unfold wpY_count
    dsimp only
    exact cy_reg0 hb ⟨rfl, A, V, K, b, b', rfl, rfl⟩
  · refine cx_count1 A V K b v3 hp hq ?_
    unfold wpY_count
    dsimp only
    exact cy_reg1 hp hq (cy_countL A b' V K v3 hp hq ⟨rfl, A, V, K, b, b', rfl, rfl⟩)
