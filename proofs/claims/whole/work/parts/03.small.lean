theorem cb_16 : ¬ (16 : Int32) = 0 := by decide
theorem cb_1 : ¬ (1 : Int32) = 0 := by decide
def cb_bad (v : Int32) : Prop := v < 0 ∨ ∃ m : Nat, 256 ≤ m ∧ m < 2 ^ 31 ∧ v = nI m
def cb_badV (v : Int32) : Prop := v < 0 ∨ ∃ m : Nat, 4 ≤ m ∧ m < 2 ^ 31 ∧ v = nI m
theorem cb_cell (v : Int32) : cb_bad v ∨ ∃ p : Nat, p < 256 ∧ v = nI p := by
  by_cases h : v < 0
  · exact Or.inl (Or.inl h)
  · obtain ⟨j, hj, rfl⟩ := nI_of h
    by_cases h2 : j < 256
    · exact Or.inr ⟨j, h2, rfl⟩
    · exact Or.inl (Or.inr ⟨j, by omega, hj, rfl⟩)
theorem cb_ver (v : Int32) : cb_badV v ∨ ∃ p : Nat, p < 4 ∧ v = nI p := by
  by_cases h : v < 0
  · exact Or.inl (Or.inl h)
  · obtain ⟨j, hj, rfl⟩ := nI_of h
    by_cases h2 : j < 4
    · exact Or.inr ⟨j, h2, rfl⟩
    · exact Or.inl (Or.inr ⟨j, by omega, hj, rfl⟩)
theorem cb_two (v1 v2 : Int32) : (cb_bad v1 ∨ cb_bad v2) ∨ ∃ p q : Nat, p < 256 ∧ q < 256 ∧ v1 = nI p ∧ v2 = nI q := by
  rcases cb_cell v1 with h | ⟨p, hp, e⟩
  · exact Or.inl (Or.inl h)
  · rcases cb_cell v2 with h | ⟨q, hq, e'⟩
    · exact Or.inl (Or.inr h)
    · exact Or.inr ⟨p, q, hp, hq, e, e'⟩
theorem cb_and {c : Nat} (h : c < 256) : nI c &&& 15 = nI (c % 16) := pk_andN (n := c) (by omega) (m := 15) 4 (by decide)
theorem cb_shr {c : Nat} (h : c < 256) : nI c >>> ((4 : Int32) &&& 31) = nI (c / 16) := pk_shrN (n := c) (by omega) ((4 : Int32) &&& 31) 4 (by decide)
theorem cb_rem {c : Nat} (h : c < 256) : nI c - nI c / 16 * 16 = nI (c % 16) := pk_rem (a := c) (d := 16) (by omega) (by decide) (by decide)
theorem cb_div {c : Nat} (h : c < 256) : nI c / 16 = nI (c / 16) := pk_div (a := c) (d := 16) (by omega) (by decide) (by decide)
theorem cb_rc (r k : Nat) : nI r + 16 * nI k = nI (r + 16 * k) := by
  rw [show (16 : Int32) = nI 16 from rfl, pk_mul, nI_add]
theorem cb_vc (j c : Nat) : nI j * 256 + nI c = nI (j * 256 + c) := by
  rw [show (256 : Int32) = nI 256 from rfl, pk_mul, nI_add]
/-! X's small methods -/
theorem cx_cell1 {post : Int32 → Prop} {p : Nat} (hp : p < 256) (h : post 1) : wpX_isCell post (nI p) := by
  unfold wpX_isCell
  exact br_f (nI_pos (by omega)) (br_f (nI_ge (b := 256) hp (by decide)) h)
theorem cx_cell0 {post : Int32 → Prop} {v : Int32} (hv : cb_bad v) (h : post 0) : wpX_isCell post v := by
  unfold wpX_isCell
  rcases hv with hv | ⟨m, h1, h2, rfl⟩
  · exact br_t hv h
  · exact br_f (nI_pos h2) (br_t (nI_le (a := 256) h1 h2) h)
theorem cx_reg1 {post : Int32 → Prop} {p q : Nat} (hp : p < 256) (hq : q < 256) (h : post 1) : wpX_isRegion post (nI p) (nI q) := by
  unfold wpX_isRegion
  exact cx_cell1 hp (br_f cb_1 (cx_cell1 hq (br_f cb_1 h)))
theorem cx_reg0 {post : Int32 → Prop} {v1 v2 : Int32} (hv : cb_bad v1 ∨ cb_bad v2) (h : post 0) : wpX_isRegion post v1 v2 := by
  unfold wpX_isRegion
  rcases cb_cell v1 with b | ⟨p, hp, rfl⟩
  · exact cx_cell0 b (br_t rfl h)
  · rcases hv with b | b
    · exact cx_cell0 b (br_t rfl h)
    · exact cx_cell1 hp (br_f cb_1 (cx_cell0 b (br_t rfl h)))
theorem cx_smaller {post : Int32 → Prop} {a b : Nat} (ha : a < 2 ^ 31) (hb : b < 2 ^ 31) (h : post (nI (min a b))) : wpX_smaller post (nI a) (nI b) := by
  unfold wpX_smaller
  refine pk_le b a (fun z => ?_) (fun z => ?_) rfl rfl hb ha
  · rwa [Nat.min_eq_right z] at h
  · rwa [Nat.min_eq_left (Nat.le_of_lt z)] at h
theorem cx_greater {post : Int32 → Prop} {a b : Nat} (ha : a < 2 ^ 31) (hb : b < 2 ^ 31) (h : post (nI (max a b))) : wpX_greater post (nI a) (nI b) := by
  unfold wpX_greater
  refine pk_le a b (fun z => ?_) (fun z => ?_) rfl rfl ha hb
  · rwa [Nat.max_eq_right z] at h
  · rwa [Nat.max_eq_left (Nat.le_of_lt z)] at h
theorem cx_lowRow {post : Int32 → Prop} {p q : Nat} (hp : p < 256) (hq : q < 256) (h : post (nI (min (p % 16) (q % 16)))) : wpX_lowRow post (nI p) (nI q) := by
  unfold wpX_lowRow
  rw [cb_rem hp, cb_rem hq]
  exact ⟨cb_16, cb_16, cx_smaller (by omega) (by omega) h⟩
theorem cx_highRow {post : Int32 → Prop} {p q : Nat} (hp : p < 256) (hq : q < 256) (h : post (nI (max (p % 16) (q % 16)))) : wpX_highRow post (nI p) (nI q) := by
  unfold wpX_highRow
  rw [cb_rem hp, cb_rem hq]
  exact ⟨cb_16, cb_16, cx_greater (by omega) (by omega) h⟩
theorem cx_lowColumn {post : Int32 → Prop} {p q : Nat} (hp : p < 256) (hq : q < 256) (h : post (nI (min (p / 16) (q / 16)))) : wpX_lowColumn post (nI p) (nI q) := by
  unfold wpX_lowColumn
  rw [cb_div hp, cb_div hq]
  exact ⟨cb_16, cb_16, cx_smaller (by omega) (by omega) h⟩
theorem cx_highColumn {post : Int32 → Prop} {p q : Nat} (hp : p < 256) (hq : q < 256) (h : post (nI (max (p / 16) (q / 16)))) : wpX_highColumn post (nI p) (nI q) := by
  unfold wpX_highColumn
  rw [cb_div hp, cb_div hq]
  exact ⟨cb_16, cb_16, cx_greater (by omega) (by omega) h⟩
/-- the four corners, one behind the other -/
theorem cx_corners {Q : Int32 → Int32 → Int32 → Int32 → Prop} {p q : Nat} (hp : p < 256) (hq : q < 256)
    (h : ∀ r0 R c0 C : Nat, r0 = min (p % 16) (q % 16) → R = max (p % 16) (q % 16) → c0 = min (p / 16) (q / 16) → C = max (p / 16) (q / 16) → Q (nI r0) (nI R) (nI c0) (nI C)) :
    wpX_lowRow (fun r3 => wpX_highRow (fun r4 => wpX_lowColumn (fun r5 => wpX_highColumn (fun r6 => Q r3 r4 r5 r6) (nI p) (nI q)) (nI p) (nI q)) (nI p) (nI q)) (nI p) (nI q) :=
  cx_lowRow hp hq (cx_highRow hp hq (cx_lowColumn hp hq (cx_highColumn hp hq (h _ _ _ _ rfl rfl rfl rfl))))
theorem cx_open {Q0 : Prop} {Q : Int32 → Int32 → Int32 → Int32 → Prop} {p q : Nat} (hp : p < 256) (hq : q < 256)
    (h : ∀ r0 R c0 C : Nat, r0 = min (p % 16) (q % 16) → R = max (p % 16) (q % 16) → c0 = min (p / 16) (q / 16) → C = max (p / 16) (q / 16) → Q (nI r0) (nI R) (nI c0) (nI C)) :
    wpX_isRegion (fun r_1 => ((r_1 = 0 → Q0) ∧ (¬ r_1 = 0 → wpX_lowRow (fun r3 => wpX_highRow (fun r4 => wpX_lowColumn (fun r5 => wpX_highColumn (fun r6 => Q r3 r4 r5 r6) (nI p) (nI q)) (nI p) (nI q)) (nI p) (nI q)) (nI p) (nI q)))) (nI p) (nI q) :=
  cx_reg1 hp hq (br_f cb_1 (cx_corners hp hq h))
/-! Y's small methods -/
theorem cy_cell1 {post : Int32 → Prop} {a b c d : Nat → Int32} {p : Nat} (hp : p < 256) (h : post 1) : wpY_isCell post (a, b, c, d) (nI p) := by
  unfold wpY_isCell
  exact br_f (nI_pos (by omega)) (br_f (nI_ge (b := 256) hp (by decide)) h)
theorem cy_cell0 {post : Int32 → Prop} {a b c d : Nat → Int32} {v : Int32} (hv : cb_bad v) (h : post 0) : wpY_isCell post (a, b, c, d) v := by
  unfold wpY_isCell
  rcases hv with hv | ⟨m, h1, h2, rfl⟩
  · exact br_t hv h
  · exact br_f (nI_pos h2) (br_t (nI_le (a := 256) h1 h2) h)
theorem cy_reg1 {Q0 Q : Prop} {a b c d : Nat → Int32} {p q : Nat} (hp : p < 256) (hq : q < 256) (h : Q) :
    wpY_isCell (fun r_1 => ((r_1 = 0 → Q0) ∧ (¬ r_1 = 0 → wpY_isCell (fun r_7 => ((r_7 = 0 → Q0) ∧ (¬ r_7 = 0 → Q))) (a, b, c, d) (nI q)))) (a, b, c, d) (nI p) :=
  cy_cell1 hp (br_f cb_1 (cy_cell1 hq (br_f cb_1 h)))
theorem cy_reg0 {Q0 Q : Prop} {a b c d : Nat → Int32} {v1 v2 : Int32} (hv : cb_bad v1 ∨ cb_bad v2) (h : Q0) :
    wpY_isCell (fun r_1 => ((r_1 = 0 → Q0) ∧ (¬ r_1 = 0 → wpY_isCell (fun r_7 => ((r_7 = 0 → Q0) ∧ (¬ r_7 = 0 → Q))) (a, b, c, d) v2))) (a, b, c, d) v1 := by
  rcases cb_cell v1 with z | ⟨p, hp, rfl⟩
  · exact cy_cell0 z (br_t rfl h)
  · rcases hv with z | z
    · exact cy_cell0 z (br_t rfl h)
    · exact cy_cell1 hp (br_f cb_1 (cy_cell0 z (br_t rfl h)))
theorem cy_bt {post : Int32 → Prop} {A B C D : Nat → Int32} {n a b : Nat} (hn : n < 2 ^ 31) (ha : a < 2 ^ 31) (hb : b < 2 ^ 31)
    (h1 : min a b ≤ n ∧ n ≤ max a b → post 1) (h0 : ¬ (min a b ≤ n ∧ n ≤ max a b) → post 0) : wpY_between post (A, B, C, D) (nI n) (nI a) (nI b) := by
  unfold wpY_between wY_between_10
  dsimp only
  rw [nI_ltI hn ha, nI_leI hn hb, nI_ltI hn hb, nI_ltI ha hn]
  refine ⟨fun z1 => ⟨fun z2 => h0 (by omega), fun z2 => ⟨fun z3 => h0 (by omega), fun z3 => h1 (by omega)⟩⟩, fun z1 => ⟨fun z2 => h1 (by omega), fun z2 => ⟨fun z3 => h0 (by omega), fun z3 => ⟨fun z4 => h0 (by omega), fun z4 => h1 (by omega)⟩⟩⟩⟩
/-- the region of two corner cells -/
def ca_R (p q : Nat) : Nat → Bool := ca_B (min (p % 16) (q % 16)) (max (p % 16) (q % 16) + 1) (min (p / 16) (q / 16)) (max (p / 16) (q / 16) + 1)
theorem cy_in {post : Int32 → Prop} {A B C D : Nat → Int32} {c p q : Nat} (hc : c < 256) (hp : p < 256) (hq : q < 256)
    (h1 : ca_R p q c = true → post 1) (h0 : ca_R p q c = false → post 0) : wpY_inside post (A, B, C, D) (nI c) (nI p) (nI q) := by
  unfold wpY_inside
  dsimp only
  rw [cb_and hc, cb_and hp, cb_and hq, cb_shr hc, cb_shr hp, cb_shr hq]
  refine cy_bt (by omega) (by omega) (by omega) (fun z => br_f cb_1 (cy_bt (by omega) (by omega) (by omega) (fun y => br_f cb_1 (h1 ?_)) (fun y => br_t rfl (h0 ?_)))) (fun z => br_t rfl (h0 ?_))
  · exact decide_eq_true ⟨z.1, Nat.lt_succ_of_le z.2, y.1, Nat.lt_succ_of_le y.2⟩
  · exact decide_eq_false (fun w => y ⟨w.2.2.1, Nat.le_of_lt_succ w.2.2.2⟩)
  · exact decide_eq_false (fun w => z ⟨w.1, Nat.le_of_lt_succ w.2.1⟩)
/-! versions -/
def cb_none (K : Nat → Int32) (v : Int32) : Prop := cb_badV v ∨ ∃ j : Nat, j < 4 ∧ v = nI j ∧ K j = 0
theorem cb_vcase (K : Nat → Int32) (v : Int32) : cb_none K v ∨ ∃ j : Nat, j < 4 ∧ v = nI j ∧ ¬ K j = 0 := by
  rcases cb_ver v with h | ⟨j, hj, e⟩
  · exact Or.inl (Or.inl h)
  · by_cases z : K j = 0
    · exact Or.inl (Or.inr ⟨j, hj, e, z⟩)
    · exact Or.inr ⟨j, hj, e, z⟩
theorem cx_ver1 {post : Int32 → Prop} {j : Nat} (hj : j < 4) (h : post 1) : wpX_isVersionNumber post (nI j) := by
  unfold wpX_isVersionNumber
  exact br_f (nI_pos (by omega)) (br_f (nI_ge (b := 4) hj (by decide)) h)
theorem cx_ver0 {post : Int32 → Prop} {v : Int32} (hv : cb_badV v) (h : post 0) : wpX_isVersionNumber post v := by
  unfold wpX_isVersionNumber
  rcases hv with hv | ⟨m, h1, h2, rfl⟩
  · exact br_t hv h
  · exact br_f (nI_pos h2) (br_t (nI_le (a := 4) h1 h2) h)
theorem cb_at {K : Nat → Int32} {j : Nat} (hj : j < 4) : K (nI j).toNatClampNeg = K j := by rw [nI_clamp (by omega)]
theorem cx_kept1 {post : Int32 → Prop} {A V K b : Nat → Int32} {j : Nat} (hj : j < 4) (hk : ¬ K j = 0) (h : post 1) : wpX_isKept post (A, V, K, b) (nI j) := by
  unfold wpX_isKept
  dsimp only
  refine cx_ver1 hj (br_f cb_1 ⟨vp_in_nI hj (by decide), ?_⟩)
  rw [cb_at (K := K) hj]
  exact br_f hk h
theorem cx_kept0 {post : Int32 → Prop} {A V K b : Nat → Int32} {v : Int32} (hv : cb_none K v) (h : post 0) : wpX_isKept post (A, V, K, b) v := by
  unfold wpX_isKept
  dsimp only
  rcases hv with hv | ⟨j, hj, rfl, hk⟩
  · exact cx_ver0 hv (br_t rfl h)
  · refine cx_ver1 hj (br_f cb_1 ⟨vp_in_nI hj (by decide), ?_⟩)
    rw [cb_at (K := K) hj]
    exact br_t hk h
theorem cy_kept1 {post : Int32 → Prop} {A V K b : Nat → Int32} {j : Nat} (hj : j < 4) (hk : ¬ K j = 0) (h : post 1) : wpY_isVersion post (A, b, V, K) (nI j) := by
  unfold wpY_isVersion
  dsimp only
  refine br_f (nI_pos (by omega)) (br_f (nI_ge (b := 4) hj (by decide)) ⟨vp_in_nI hj (by decide), ?_⟩)
  rw [cb_at (K := K) hj]
  exact br_f hk h
theorem cy_kept0 {post : Int32 → Prop} {A V K b : Nat → Int32} {v : Int32} (hv : cb_none K v) (h : post 0) : wpY_isVersion post (A, b, V, K) v := by
  unfold wpY_isVersion
  dsimp only
  rcases hv with (hv | ⟨m, h1, h2, rfl⟩) | ⟨j, hj, rfl, hk⟩
  · exact br_t hv h
  · exact br_f (nI_pos h2) (br_t (nI_le (a := 4) h1 h2) h)
  · refine br_f (nI_pos (by omega)) (br_f (nI_ge (b := 4) hj (by decide)) ⟨vp_in_nI hj (by decide), ?_⟩)
    rw [cb_at (K := K) hj]
    exact br_t hk h
