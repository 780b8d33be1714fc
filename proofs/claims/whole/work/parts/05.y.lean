/-! Y's walks over all cells -/
theorem cy_sumL {post : Int32 → Prop} (A b V K : Nat → Int32) {p q : Nat} (hp : p < 256) (hq : q < 256) (h : post (ca_F (ca_R p q) (ca_s A) 0 256)) :
    ∃ n, wY_sum_23 post (nI p) (nI q) A b V K n 0 0 := by
  refine loop_0 (fun n i s => wY_sum_23 post (nI p) (nI q) A b V K n s (nI i)) (fun i s => s = ca_F (ca_R p q) (ca_s A) 0 i) 256 0 rfl ?_ ?_
  · rintro n s rfl
    exact br_t (nI_le (a := 256) (by decide) (by decide)) h
  · rintro n i s hi rfl ih
    refine br_f (nI_ge (b := 256) hi (by decide)) (cy_in hi hp hq (fun z => br_f cb_1 ⟨vp_in_nI hi (by decide), ?_⟩) (fun z => br_t rfl (nm_r (nI_1 i) (ih _ (ca_Ff z).symm))))
    rw [nI_clamp (n := i) (by omega)]
    exact nm_e (nm_r (nI_1 i) (ih _ (ca_Ft (st := ca_s A) (s := 0) z).symm))
theorem cy_greatestL {post : Int32 → Prop} (A b V K : Nat → Int32) (s0 : Int32) {p q : Nat} (hp : p < 256) (hq : q < 256) (h : post (ca_F (ca_R p q) (ca_g A) s0 256)) :
    ∃ n, wY_greatest_28 post (nI p) (nI q) A b V K n s0 0 := by
  refine loop_0 (fun n i s => wY_greatest_28 post (nI p) (nI q) A b V K n s (nI i)) (fun i s => s = ca_F (ca_R p q) (ca_g A) s0 i) 256 s0 rfl ?_ ?_
  · rintro n s rfl
    exact br_t (nI_le (a := 256) (by decide) (by decide)) h
  · rintro n i s hi es ih
    refine br_f (nI_ge (b := 256) hi (by decide)) (cy_in hi hp hq (fun z => br_f cb_1 ⟨vp_in_nI hi (by decide), ?_⟩) (fun z => br_t rfl (nm_r (nI_1 i) (ih _ (es.trans (ca_Ff z).symm)))))
    rw [nI_clamp (n := i) (by omega)]
    have e : ca_F (ca_R p q) (ca_g A) s0 (i + 1) = ca_g A i s := by rw [ca_Ft z, ← es]
    by_cases y : A i ≤ s
    · exact br_t y (nm_r (nI_1 i) (ih _ (by rw [e, ca_gt y])))
    · exact br_f y ⟨vp_in_nI hi (by decide), nm_e (nm_r (nI_1 i) (ih _ (by rw [e, ca_gf y])))⟩
theorem cy_countL {post : Int32 → Prop} (A b V K : Nat → Int32) (v : Int32) {p q : Nat} (hp : p < 256) (hq : q < 256) (h : post (ca_F (ca_R p q) (ca_n A v) 0 256)) :
    ∃ n, wY_count_24 post (nI p) (nI q) v A b V K n 0 0 := by
  refine loop_0 (fun n i s => wY_count_24 post (nI p) (nI q) v A b V K n s (nI i)) (fun i s => s = ca_F (ca_R p q) (ca_n A v) 0 i) 256 0 rfl ?_ ?_
  · rintro n s rfl
    exact br_t (nI_le (a := 256) (by decide) (by decide)) h
  · rintro n i s hi es ih
    refine br_f (nI_ge (b := 256) hi (by decide)) (cy_in hi hp hq (fun z => br_f cb_1 ⟨vp_in_nI hi (by decide), ?_⟩) (fun z => br_t rfl (nm_r (nI_1 i) (ih _ (es.trans (ca_Ff z).symm)))))
    rw [nI_clamp (n := i) (by omega)]
    have e : ca_F (ca_R p q) (ca_n A v) 0 (i + 1) = ca_n A v i s := by rw [ca_Ft z, ← es]
    by_cases y : A i = v
    · exact br_t y (nm_e (nm_r (nI_1 i) (ih _ (by rw [e, ca_nt y]))))
    · exact br_f y (nm_r (nI_1 i) (ih _ (by rw [e, ca_nf y])))
theorem cy_changeL {post : Int32 → SY → Prop} {kd val : Int32} (g : Int32 → Int32)
    (hk : (kd = 0 ∧ ∀ x, val = g x) ∨ (kd = 1 ∧ ∀ x, x + val = g x) ∨ (kd = 2 ∧ ∀ x, x * val = g x)) (A b V K : Nat → Int32) {p q : Nat} (hp : p < 256) (hq : q < 256)
    (h : post (nI (ca_C (ca_R p q) 256)) (ca_F (ca_R p q) (ca_ch g) A 256, b, V, K)) :
    ∃ n, wY_change_24 post kd (nI p) (nI q) val n 0 0 A b V K := by
  refine loop_0 (fun n i s => wY_change_24 post kd (nI p) (nI q) val n s.1 (nI i) s.2 b V K) (fun i s => s = (nI (ca_C (ca_R p q) i), ca_F (ca_R p q) (ca_ch g) A i)) 256 ((0 : Int32), A) rfl ?_ ?_
  · rintro n s rfl
    exact br_t (nI_le (a := 256) (by decide) (by decide)) h
  · rintro n i ⟨s1, s2⟩ hi es ih
    cases es
    have vi : vp_in (nI i) 256 := vp_in_nI hi (by decide)
    have key := ih _ rfl
    refine br_f (nI_ge (b := 256) hi (by decide)) (cy_in hi hp hq (fun z => br_f cb_1 ?_) (fun z => br_t rfl (nm_r (nI_1 i) ?_)))
    · rw [ca_Ct z, ca_Ft z] at key
      rw [nI_clamp (n := i) (by omega)]
      rcases hk with ⟨rfl, hg⟩ | ⟨rfl, hg⟩ | ⟨rfl, hg⟩
      · exact br_t rfl ⟨vi, nm_r (by rw [hg]; rfl) (nm_r (nI_1 _) (nm_r (nI_1 i) key))⟩
      · exact br_f cb_1 (br_t rfl ⟨vi, vi, nm_r (by rw [hg]; rfl) (nm_r (nI_1 _) (nm_r (nI_1 i) key))⟩)
      · exact br_f (by decide) (br_f (by decide) ⟨vi, vi, nm_r (by rw [hg]; rfl) (nm_r (nI_1 _) (nm_r (nI_1 i) key))⟩)
    · rw [ca_Cf z, ca_Ff z] at key
      exact key
/-! Y's copy -/
theorem cy_rem {post : Int32 → SY → Prop} (A V K : Nat → Int32) {x1 x2 x3 x4 x5 x6 : Int32}
    (h : ∀ b' : Nat → Int32, (∀ j, j < 256 → b' j = A j) → ∃ n, wY_copy_107 post x1 x2 x3 x4 x5 n x6 0 A b' V K) (b : Nat → Int32) :
    ∃ n, wY_copy_76 post x1 x2 x3 x4 x5 x6 n 0 A b V K := by
  refine loop_0 (fun n i s => wY_copy_76 post x1 x2 x3 x4 x5 x6 n (nI i) A s V K) (fun i s => ∀ j, j < i → s j = A j) 256 b (fun j hj => absurd hj (Nat.not_lt_zero j)) ?_ ?_
  · intro n s hs
    exact br_t (nI_le (a := 256) (by decide) (by decide)) (h s hs)
  · intro n i s hi hs ih
    refine br_f (nI_ge (b := 256) hi (by decide)) ⟨vp_in_nI hi (by decide), vp_in_nI hi (by decide), ?_⟩
    rw [nI_clamp (n := i) (by omega)]
    refine nm_e (nm_r (nI_1 i) (ih _ ?_))
    intro j hj
    by_cases z : j = i
    · rw [z]; exact pk_us
    · rw [pk_un z]; exact hs j (by omega)
theorem cy_copyL {post : Int32 → SY → Prop} (A b V K : Nat → Int32) (hb : ∀ j, j < 256 → b j = A j) {p q a : Nat} (hp : p < 256) (hq : q < 256) (ha : a < 256)
    {r0 R c0 C rows cols : Nat} (e1 : r0 = min (p % 16) (q % 16)) (e2 : R = max (p % 16) (q % 16)) (e3 : c0 = min (p / 16) (q / 16)) (e4 : C = max (p / 16) (q / 16))
    (e5 : rows = min (R - r0 + 1) (16 - a % 16)) (e6 : cols = min (C - c0 + 1) (16 - a / 16))
    (h : post (nI (ca_C (ca_B r0 (r0 + rows) c0 (c0 + cols)) 256)) (ca_F (ca_B r0 (r0 + rows) c0 (c0 + cols)) (ca_cp A r0 c0 (a % 16) (a / 16)) A 256, b, V, K)) :
    ∃ n, wY_copy_107 post (nI p) (nI q) (nI a) (nI r0) (nI c0) n 0 0 A b V K := by
  refine loop_0 (fun n i s => wY_copy_107 post (nI p) (nI q) (nI a) (nI r0) (nI c0) n s.1 (nI i) s.2 b V K)
    (fun i s => s = (nI (ca_C (ca_B r0 (r0 + rows) c0 (c0 + cols)) i), ca_F (ca_B r0 (r0 + rows) c0 (c0 + cols)) (ca_cp A r0 c0 (a % 16) (a / 16)) A i)) 256 ((0 : Int32), A) rfl ?_ ?_
  · rintro n s rfl
    exact br_t (nI_le (a := 256) (by decide) (by decide)) h
  · rintro n i ⟨s1, s2⟩ hi es ih
    cases es
    have vi : vp_in (nI i) 256 := vp_in_nI hi (by decide)
    have key := ih _ rfl
    have no : ca_B r0 (r0 + rows) c0 (c0 + cols) i = false → wY_copy_107 post (nI p) (nI q) (nI a) (nI r0) (nI c0) n (nI (ca_C (ca_B r0 (r0 + rows) c0 (c0 + cols)) i)) (nI (i + 1)) (ca_F (ca_B r0 (r0 + rows) c0 (c0 + cols)) (ca_cp A r0 c0 (a % 16) (a / 16)) A i) b V K := by
      intro z
      rw [ca_Cf z, ca_Ff z] at key
      exact key
    refine br_f (nI_ge (b := 256) hi (by decide)) ?_
    rw [cb_and hi, cb_shr hi, cb_and ha, cb_shr ha]
    intro x8 ex8 x9 ex9
    refine cy_in hi hp hq (fun z => br_f cb_1 ?_) (fun z => br_t rfl (nm_r (nI_1 i) (no ?_)))
    · have z' := of_decide_eq_true z
      rw [← e1, ← e2, ← e3, ← e4] at z'
      rw [pk_sub z'.1, nI_add] at ex8
      rw [pk_sub z'.2.2.1, nI_add] at ex9
      subst ex8 ex9
      refine pk_le 16 (i % 16 - r0 + a % 16) (fun y => nm_r (nI_1 i) (no (ca_Bf (by omega)))) (fun y => ?_)
      refine pk_le 16 (i / 16 - c0 + a / 16) (fun w => nm_r (nI_1 i) (no (ca_Bf (by omega)))) (fun w => ?_)
      have t : ca_B r0 (r0 + rows) c0 (c0 + cols) i = true := decide_eq_true ⟨by omega, by omega, by omega, by omega⟩
      rw [ca_Ct t, ca_Ft t] at key
      rw [cb_rc, nI_clamp (n := i) (by omega), nI_clamp (n := i % 16 - r0 + a % 16 + 16 * (i / 16 - c0 + a / 16)) (by omega), hb i hi]
      refine ⟨vi, vp_in_nI (by omega) (by decide), nm_r (e' := ca_cp A r0 c0 (a % 16) (a / 16) i (ca_F (ca_B r0 (r0 + rows) c0 (c0 + cols)) (ca_cp A r0 c0 (a % 16) (a / 16)) A i)) ?_ (nm_r (nI_1 _) (nm_r (nI_1 i) key))⟩
      unfold ca_cp
      rw [Nat.add_comm (i % 16 - r0), Nat.add_comm (i / 16 - c0)]
    · have z' := of_decide_eq_false z
      rw [← e1, ← e2, ← e3, ← e4] at z'
      exact ca_Bf (by omega)
