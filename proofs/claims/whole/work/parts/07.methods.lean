/-! the methods that read or change a region -/
theorem cx_change1 {post : Int32 → SX → Prop} {f m : Int32} (g : Int32 → Int32) (hg : ∀ x, x * f + m = g x) (A V K b : Nat → Int32) {p q : Nat} (hp : p < 256) (hq : q < 256)
    (h : post (nI (ca_C (ca_R p q) 256)) (ca_F (ca_R p q) (ca_ch g) A 256, V, K, b)) : wpX_change post (A, V, K, b) (nI p) (nI q) f m := by
  unfold wpX_change
  dsimp only
  refine cx_open hp hq (fun r0 R c0 C e1 e2 e3 e4 => ?_)
  have e : ca_R p q = ca_B r0 (R + 1) c0 (C + 1) := by rw [e1, e2, e3, e4]; rfl
  rw [e, ca_cnt (by omega) (by omega) (by omega) (by omega)] at h
  exact cx_changeL g hg A V K b (by omega) (by omega) (by omega) (by omega) h
theorem cx_change0 {post : Int32 → SX → Prop} {f m : Int32} {A V K b : Nat → Int32} {v1 v2 : Int32} (hv : cb_bad v1 ∨ cb_bad v2) (h : post (-1) (A, V, K, b)) : wpX_change post (A, V, K, b) v1 v2 f m := by
  unfold wpX_change
  dsimp only
  exact cx_reg0 hv (br_t rfl h)
theorem cy_change1 {post : Int32 → SY → Prop} {kd val : Int32} (g : Int32 → Int32)
    (hk : (kd = 0 ∧ ∀ x, val = g x) ∨ (kd = 1 ∧ ∀ x, x + val = g x) ∨ (kd = 2 ∧ ∀ x, x * val = g x)) (A b V K : Nat → Int32) {p q : Nat} (hp : p < 256) (hq : q < 256)
    (h : post (nI (ca_C (ca_R p q) 256)) (ca_F (ca_R p q) (ca_ch g) A 256, b, V, K)) : wpY_change post (A, b, V, K) kd (nI p) (nI q) val := by
  unfold wpY_change
  dsimp only
  exact cy_reg1 hp hq (cy_changeL g hk A b V K hp hq h)
theorem cy_change0 {post : Int32 → SY → Prop} {kd val : Int32} {A b V K : Nat → Int32} {v1 v2 : Int32} (hv : cb_bad v1 ∨ cb_bad v2) (h : post (-1) (A, b, V, K)) : wpY_change post (A, b, V, K) kd v1 v2 val := by
  unfold wpY_change
  dsimp only
  exact cy_reg0 hv h
theorem cx_sum1 {post : Int32 → Prop} (A V K b : Nat → Int32) {p q : Nat} (hp : p < 256) (hq : q < 256) (h : post (ca_F (ca_R p q) (ca_s A) 0 256)) : wpX_sum post (A, V, K, b) (nI p) (nI q) := by
  unfold wpX_sum
  dsimp only
  refine cx_open hp hq (fun r0 R c0 C e1 e2 e3 e4 => ?_)
  have e : ca_R p q = ca_B r0 (R + 1) c0 (C + 1) := by rw [e1, e2, e3, e4]; rfl
  rw [e] at h
  exact cx_sumL A V K b (by omega) (by omega) (by omega) (by omega) h
theorem cx_count1 {post : Int32 → Prop} (A V K b : Nat → Int32) (v : Int32) {p q : Nat} (hp : p < 256) (hq : q < 256) (h : post (ca_F (ca_R p q) (ca_n A v) 0 256)) : wpX_count post (A, V, K, b) (nI p) (nI q) v := by
  unfold wpX_count
  dsimp only
  refine cx_open hp hq (fun r0 R c0 C e1 e2 e3 e4 => ?_)
  have e : ca_R p q = ca_B r0 (R + 1) c0 (C + 1) := by rw [e1, e2, e3, e4]; rfl
  rw [e] at h
  exact cx_countL A V K b v (by omega) (by omega) (by omega) (by omega) h
theorem cx_greatest1 {post : Int32 → Prop} (A V K b : Nat → Int32) {p q : Nat} (hp : p < 256) (hq : q < 256) (h : post (ca_F (ca_R p q) (ca_g A) (A p) 256)) : wpX_greatest post (A, V, K, b) (nI p) (nI q) := by
  unfold wpX_greatest
  dsimp only
  refine cx_open hp hq (fun r0 R c0 C e1 e2 e3 e4 => ?_)
  have e : ca_R p q = ca_B r0 (R + 1) c0 (C + 1) := by rw [e1, e2, e3, e4]; rfl
  rw [e] at h
  exact ⟨vp_in_nI hp (by decide), nm_r (by rw [nI_clamp (n := p) (by omega)]) (cx_greatestL A V K b (A p) (by omega) (by omega) (by omega) (by omega) h)⟩
theorem cx_copy1 {post : Int32 → SX → Prop} (A V K b : Nat → Int32) {p q a : Nat} (hp : p < 256) (hq : q < 256) (ha : a < 256)
    (h : ∀ r0 R c0 C rows cols : Nat, r0 = min (p % 16) (q % 16) → R = max (p % 16) (q % 16) → c0 = min (p / 16) (q / 16) → C = max (p / 16) (q / 16) →
      rows = min (R - r0 + 1) (16 - a % 16) → cols = min (C - c0 + 1) (16 - a / 16) → ∀ b' : Nat → Int32,
      post (nI (ca_C (ca_B r0 (r0 + rows) c0 (c0 + cols)) 256)) (ca_F (ca_B r0 (r0 + rows) c0 (c0 + cols)) (ca_cp A r0 c0 (a % 16) (a / 16)) A 256, V, K, b')) :
    wpX_copy post (A, V, K, b) (nI p) (nI q) (nI a) := by
  unfold wpX_copy
  dsimp only
  refine cx_reg1 hp hq (br_f cb_1 (cx_cell1 ha (br_f cb_1 (cx_corners hp hq (fun r0 R c0 C e1 e2 e3 e4 => ?_)))))
  refine ⟨cb_16, nm_r (cb_rem ha) ⟨cb_16, nm_r (cb_div ha) ?_⟩⟩
  rw [pk_sub (a := R) (b := r0) (by omega), pk_sub (a := C) (b := c0) (by omega), nI_1, nI_1,
    show (16 : Int32) - nI (a % 16) = nI (16 - a % 16) from pk_sub (a := 16) (by omega), show (16 : Int32) - nI (a / 16) = nI (16 - a / 16) from pk_sub (a := 16) (by omega)]
  refine cx_smaller (by omega) (by omega) (cx_smaller (by omega) (by omega) (cx_rem A V K b (fun b' hb => ?_)))
  have h' := h r0 R c0 C _ _ e1 e2 e3 e4 rfl rfl b'
  rw [ca_cnt (by omega) (by omega) (by omega) (by omega), Nat.add_sub_cancel_left, Nat.add_sub_cancel_left] at h'
  exact cx_copyL A V K b' hb (by omega) (by omega) (by omega) (by omega) h'
theorem cy_copy1 {post : Int32 → SY → Prop} (A b V K : Nat → Int32) {p q a : Nat} (hp : p < 256) (hq : q < 256) (ha : a < 256)
    {r0 R c0 C rows cols : Nat} (e1 : r0 = min (p % 16) (q % 16)) (e2 : R = max (p % 16) (q % 16)) (e3 : c0 = min (p / 16) (q / 16)) (e4 : C = max (p / 16) (q / 16))
    (e5 : rows = min (R - r0 + 1) (16 - a % 16)) (e6 : cols = min (C - c0 + 1) (16 - a / 16))
    (h : ∀ b' : Nat → Int32, post (nI (ca_C (ca_B r0 (r0 + rows) c0 (c0 + cols)) 256)) (ca_F (ca_B r0 (r0 + rows) c0 (c0 + cols)) (ca_cp A r0 c0 (a % 16) (a / 16)) A 256, b', V, K)) :
    wpY_copy post (A, b, V, K) (nI p) (nI q) (nI a) := by
  have m : ∃ n, wY_copy_76 post (nI p) (nI q) (nI a) (nI r0) (nI c0) 0 n 0 A b V K :=
    cy_rem A V K (fun b' hb => cy_copyL A b' V K hb hp hq ha e1 e2 e3 e4 e5 e6 (h b')) b
  have m2 : wY_copy_48 post (nI p) (nI q) (nI a) (nI r0) A b V K := by
    unfold wY_copy_48
    rw [cb_shr hp, cb_shr hq]
    refine pk_le (q / 16) (p / 16) (fun y => nm_r (e' := nI c0) ?_ m) (fun y => nm_r (e' := nI c0) ?_ m)
    · rw [e3, Nat.min_eq_right y]
    · rw [e3, Nat.min_eq_left (Nat.le_of_lt y)]
  unfold wpY_copy
  dsimp only
  refine cy_cell1 hp (br_f cb_1 (cy_cell1 hq (br_f cb_1 (cy_cell1 ha (br_f cb_1 ?_)))))
  rw [cb_and hp, cb_and hq]
  refine pk_le (q % 16) (p % 16) (fun y => ?_) (fun y => ?_)
  · rwa [e1, Nat.min_eq_right y] at m2
  · rwa [e1, Nat.min_eq_left (Nat.le_of_lt y)] at m2
