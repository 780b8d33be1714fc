/-! versions: both sides walk in one step -/
def ca_T (_ : Nat) : Bool := true
def ca_kp (A : Nat → Int32) (j c : Nat) (s : Nat → Int32) : Nat → Int32 := upd s (j * 256 + c) (A c)
def ca_rs (V : Nat → Int32) (j c : Nat) (s : Nat → Int32) : Nat → Int32 := upd s c (V (j * 256 + c))
def ca_D (A V : Nat → Int32) (j c : Nat) : Bool := decide (¬ A c = V (j * 256 + c))
theorem cx_keepL {post : Int32 → SX → Prop} (A V K b : Nat → Int32) {j : Nat} (hj : j < 4)
    (h : post 0 (A, ca_F ca_T (ca_kp A j) V 256, upd K j (vp_nar .boolean 1), b)) : ∃ n, wX_keep_24 post (nI j) n 0 A V K b := by
  refine loop_0 (fun n i s => wX_keep_24 post (nI j) n (nI i) A s K b) (fun i s => s = ca_F ca_T (ca_kp A j) V i) 256 V rfl ?_ ?_
  · rintro n s rfl
    exact br_t (nI_le (a := 256) (by decide) (by decide)) ⟨vp_in_nI hj (by decide), nm_r (by rw [nI_clamp (n := j) (by omega)]) h⟩
  · rintro n i s hi rfl ih
    refine br_f (nI_ge (b := 256) hi (by decide)) ?_
    rw [cb_vc, nI_clamp (n := i) (by omega), nI_clamp (n := j * 256 + i) (by omega)]
    exact ⟨vp_in_nI hi (by decide), vp_in_nI (by omega) (by decide), nm_e (nm_r (nI_1 i) (ih _ rfl))⟩
theorem cy_keepL {post : Int32 → SY → Prop} (A b V K : Nat → Int32) {j : Nat} (hj : j < 4)
    (h : post 0 (A, b, ca_F ca_T (ca_kp A j) V 256, K)) : ∃ n, wY_keep_33 post (nI j) n 0 A b V K := by
  refine loop_0 (fun n i s => wY_keep_33 post (nI j) n (nI i) A b s K) (fun i s => s = ca_F ca_T (ca_kp A j) V i) 256 V rfl ?_ ?_
  · rintro n s rfl
    exact br_t (nI_le (a := 256) (by decide) (by decide)) h
  · rintro n i s hi rfl ih
    refine br_f (nI_ge (b := 256) hi (by decide)) ?_
    rw [cb_vc, nI_clamp (n := i) (by omega), nI_clamp (n := j * 256 + i) (by omega)]
    exact ⟨vp_in_nI hi (by decide), vp_in_nI (by omega) (by decide), nm_e (nm_r (nI_1 i) (ih _ rfl))⟩
theorem cx_diff {post : Int32 → Prop} (A V K b : Nat → Int32) {j : Nat} (hj : j < 4) (h : post (nI (ca_C (ca_D A V j) 256))) : wpX_differences post (A, V, K, b) (nI j) := by
  unfold wpX_differences
  dsimp only
  refine loop_0 (fun n i s => wX_differences_4 post (nI j) A V K b n s (nI i)) (fun i s => s = nI (ca_C (ca_D A V j) i)) 256 0 rfl ?_ ?_
  · rintro n s rfl
    exact br_t (nI_le (a := 256) (by decide) (by decide)) h
  · rintro n i s hi es ih
    refine br_f (nI_ge (b := 256) hi (by decide)) ?_
    rw [cb_vc, nI_clamp (n := i) (by omega), nI_clamp (n := j * 256 + i) (by omega)]
    refine ⟨vp_in_nI hi (by decide), vp_in_nI (by omega) (by decide), ?_⟩
    by_cases z : A i = V (j * 256 + i)
    · exact br_t z (nm_r (nI_1 i) (ih _ (by rw [ca_Cf (decide_eq_false (fun y => y z)), es])))
    · exact br_f z (nm_e (nm_r (nI_1 i) (ih _ (by rw [ca_Ct (decide_eq_true z), es, nI_1]))))
theorem cy_diffL {post : Int32 → Prop} (A b V K : Nat → Int32) {j : Nat} (hj : j < 4) (h : post (nI (ca_C (ca_D A V j) 256))) : ∃ n, wY_differ_15 post (nI j) A b V K n 0 0 := by
  refine loop_0 (fun n i s => wY_differ_15 post (nI j) A b V K n s (nI i)) (fun i s => s = nI (ca_C (ca_D A V j) i)) 256 0 rfl ?_ ?_
  · rintro n s rfl
    exact br_t (nI_le (a := 256) (by decide) (by decide)) h
  · rintro n i s hi es ih
    refine br_f (nI_ge (b := 256) hi (by decide)) ?_
    rw [cb_vc, nI_clamp (n := i) (by omega), nI_clamp (n := j * 256 + i) (by omega)]
    refine ⟨vp_in_nI hi (by decide), vp_in_nI (by omega) (by decide), ?_⟩
    by_cases z : A i = V (j * 256 + i)
    · exact br_t z (nm_r (nI_1 i) (ih _ (by rw [ca_Cf (decide_eq_false (fun y => y z)), es])))
    · exact br_f z (nm_e (nm_r (nI_1 i) (ih _ (by rw [ca_Ct (decide_eq_true z), es, nI_1]))))
theorem cy_diff1 {post : Int32 → Prop} (A b V K : Nat → Int32) {j : Nat} (hj : j < 4) (hk : ¬ K j = 0) (h : post (nI (ca_C (ca_D A V j) 256))) : wpY_differ post (A, b, V, K) (nI j) := by
  unfold wpY_differ
  dsimp only
  exact cy_kept1 hj hk (br_f cb_1 (cy_diffL A b V K hj h))
theorem cy_diff0 {post : Int32 → Prop} {A b V K : Nat → Int32} {v : Int32} (hv : cb_none K v) (h : post (-2)) : wpY_differ post (A, b, V, K) v := by
  unfold wpY_differ
  dsimp only
  exact cy_kept0 hv (br_t rfl h)
theorem cx_restL {post : Int32 → SX → Prop} (A V K b : Nat → Int32) (x : Int32) {j : Nat} (hj : j < 4)
    (h : post x (ca_F ca_T (ca_rs V j) A 256, V, K, b)) : ∃ n, wX_restore_19 post (nI j) x n 0 A V K b := by
  refine loop_0 (fun n i s => wX_restore_19 post (nI j) x n (nI i) s V K b) (fun i s => s = ca_F ca_T (ca_rs V j) A i) 256 A rfl ?_ ?_
  · rintro n s rfl
    exact br_t (nI_le (a := 256) (by decide) (by decide)) h
  · rintro n i s hi rfl ih
    refine br_f (nI_ge (b := 256) hi (by decide)) ?_
    rw [cb_vc, nI_clamp (n := i) (by omega), nI_clamp (n := j * 256 + i) (by omega)]
    exact ⟨vp_in_nI (by omega) (by decide), vp_in_nI hi (by decide), nm_e (nm_r (nI_1 i) (ih _ rfl))⟩
theorem cy_restL {post : Int32 → SY → Prop} (A b V K : Nat → Int32) {x : Int32} (hx : ¬ x < 0) {j : Nat} (hj : j < 4)
    (h : post x (ca_F ca_T (ca_rs V j) A 256, b, V, K)) : ∃ n, wY_restore_8 post (nI j) x n 0 A b V K := by
  refine loop_0 (fun n i s => wY_restore_8 post (nI j) x n (nI i) s b V K) (fun i s => s = ca_F ca_T (ca_rs V j) A i) 256 A rfl ?_ ?_
  · rintro n s rfl
    exact br_t (nI_le (a := 256) (by decide) (by decide)) h
  · rintro n i s hi rfl ih
    refine br_f (nI_ge (b := 256) hi (by decide)) (br_f hx ?_)
    rw [cb_vc, nI_clamp (n := i) (by omega), nI_clamp (n := j * 256 + i) (by omega)]
    exact ⟨vp_in_nI (by omega) (by decide), vp_in_nI hi (by decide), nm_e (nm_r (nI_1 i) (ih _ rfl))⟩
