/-! steps of the folds -/
def ca_s (A : Nat → Int32) (c : Nat) (s : Int32) : Int32 := s + A c
def ca_g (A : Nat → Int32) (c : Nat) (s : Int32) : Int32 := if A c ≤ s then s else A c
def ca_n (A : Nat → Int32) (v : Int32) (c : Nat) (s : Int32) : Int32 := if A c = v then s + 1 else s
def ca_ch (g : Int32 → Int32) (c : Nat) (s : Nat → Int32) : Nat → Int32 := upd s c (g (s c))
def ca_cp (A : Nat → Int32) (r0 c0 ar ac : Nat) (c : Nat) (s : Nat → Int32) : Nat → Int32 := upd s ((ar + (c % 16 - r0)) + 16 * (ac + (c / 16 - c0))) (A c)
theorem ca_gt {A : Nat → Int32} {c : Nat} {s : Int32} (h : A c ≤ s) : ca_g A c s = s := if_pos h
theorem ca_gf {A : Nat → Int32} {c : Nat} {s : Int32} (h : ¬ A c ≤ s) : ca_g A c s = A c := if_neg h
theorem ca_nt {A : Nat → Int32} {v : Int32} {c : Nat} {s : Int32} (h : A c = v) : ca_n A v c s = s + 1 := if_pos h
theorem ca_nf {A : Nat → Int32} {v : Int32} {c : Nat} {s : Int32} (h : ¬ A c = v) : ca_n A v c s = s := if_neg h
/-! X's nested loops -/
theorem cx_sumL {post : Int32 → Prop} (A V K b : Nat → Int32) {r0 R c0 C : Nat} (hr : r0 ≤ R) (hR : R < 16) (hc : c0 ≤ C) (hC : C < 16)
    (h : post (ca_F (ca_B r0 (R + 1) c0 (C + 1)) (ca_s A) 0 256)) : ∃ n, wX_sum_44 post (nI r0) (nI R) (nI C) A V K b n 0 (nI c0) := by
  refine ca_nest (ca_s A) 0 r0 (R + 1) c0 (C + 1) (by omega) (by omega) (by omega) (by omega)
    (fun n k s => wX_sum_44 post (nI r0) (nI R) (nI C) A V K b n s (nI k))
    (fun n k m r s => wX_sum_54 post (wX_sum_44 post (nI r0) (nI R) (nI C) A V K b n) (nI r0) (nI R) (nI C) (nI k) A V K b m s (nI r)) ?_ ?_ ?_ ?_
  · intro n
    exact br_t (nI_lt (by omega) (by omega)) h
  · intro n k s h1 h2 h3
    exact br_f (nI_nlt (by omega) (by omega)) h3
  · intro n k m s h1 h2 h3
    exact br_t (nI_lt (by omega) (by omega)) (nm_r (nI_1 k) h3)
  · intro n k m r s h1 h2 h3 h4 h5
    refine br_f (nI_nlt (by omega) (by omega)) ?_
    rw [cb_rc, nI_clamp (n := r + 16 * k) (by omega)]
    exact ⟨vp_in_nI (by omega) (by decide), nm_e (nm_r (nI_1 r) h5)⟩
theorem cx_greatestL {post : Int32 → Prop} (A V K b : Nat → Int32) (s0 : Int32) {r0 R c0 C : Nat} (hr : r0 ≤ R) (hR : R < 16) (hc : c0 ≤ C) (hC : C < 16)
    (h : post (ca_F (ca_B r0 (R + 1) c0 (C + 1)) (ca_g A) s0 256)) : ∃ n, wX_greatest_49 post (nI r0) (nI R) (nI C) A V K b n s0 (nI c0) := by
  refine ca_nest (ca_g A) s0 r0 (R + 1) c0 (C + 1) (by omega) (by omega) (by omega) (by omega)
    (fun n k s => wX_greatest_49 post (nI r0) (nI R) (nI C) A V K b n s (nI k))
    (fun n k m r s => wX_greatest_59 post (wX_greatest_49 post (nI r0) (nI R) (nI C) A V K b n) (nI r0) (nI R) (nI C) (nI k) A V K b m s (nI r)) ?_ ?_ ?_ ?_
  · intro n
    exact br_t (nI_lt (by omega) (by omega)) h
  · intro n k s h1 h2 h3
    exact br_f (nI_nlt (by omega) (by omega)) h3
  · intro n k m s h1 h2 h3
    exact br_t (nI_lt (by omega) (by omega)) (nm_r (nI_1 k) h3)
  · intro n k m r s h1 h2 h3 h4 h5
    refine br_f (nI_nlt (by omega) (by omega)) ?_
    rw [cb_rc, nI_clamp (n := r + 16 * k) (by omega)]
    refine ⟨vp_in_nI (by omega) (by decide), nm_e ?_⟩
    by_cases z : A (r + 16 * k) ≤ s
    · rw [ca_gt z] at h5
      exact br_t z (nm_r (nI_1 r) h5)
    · rw [ca_gf z] at h5
      exact br_f z (nm_r (nI_1 r) h5)
theorem cx_countL {post : Int32 → Prop} (A V K b : Nat → Int32) (v : Int32) {r0 R c0 C : Nat} (hr : r0 ≤ R) (hR : R < 16) (hc : c0 ≤ C) (hC : C < 16)
    (h : post (ca_F (ca_B r0 (R + 1) c0 (C + 1)) (ca_n A v) 0 256)) : ∃ n, wX_count_45 post v (nI r0) (nI R) (nI C) A V K b n 0 (nI c0) := by
  refine ca_nest (ca_n A v) 0 r0 (R + 1) c0 (C + 1) (by omega) (by omega) (by omega) (by omega)
    (fun n k s => wX_count_45 post v (nI r0) (nI R) (nI C) A V K b n s (nI k))
    (fun n k m r s => wX_count_56 post (wX_count_45 post v (nI r0) (nI R) (nI C) A V K b n) v (nI r0) (nI R) (nI C) (nI k) A V K b m s (nI r)) ?_ ?_ ?_ ?_
  · intro n
    exact br_t (nI_lt (by omega) (by omega)) h
  · intro n k s h1 h2 h3
    exact br_f (nI_nlt (by omega) (by omega)) h3
  · intro n k m s h1 h2 h3
    exact br_t (nI_lt (by omega) (by omega)) (nm_r (nI_1 k) h3)
  · intro n k m r s h1 h2 h3 h4 h5
    refine br_f (nI_nlt (by omega) (by omega)) ?_
    rw [cb_rc, nI_clamp (n := r + 16 * k) (by omega)]
    refine ⟨vp_in_nI (by omega) (by decide), ?_⟩
    by_cases z : A (r + 16 * k) = v
    · rw [ca_nt z] at h5
      exact br_t z (nm_e (nm_r (nI_1 r) h5))
    · rw [ca_nf z] at h5
      exact br_f z (nm_r (nI_1 r) h5)
theorem cb_area {r0 R c0 C : Nat} (hr : r0 ≤ R) (hc : c0 ≤ C) : ((nI R - nI r0) + 1) * ((nI C - nI c0) + 1) = nI ((R + 1 - r0) * (C + 1 - c0)) := by
  rw [pk_sub hr, pk_sub hc, nI_1, nI_1, pk_mul, show R - r0 + 1 = R + 1 - r0 by omega, show C - c0 + 1 = C + 1 - c0 by omega]
theorem cx_changeL {post : Int32 → SX → Prop} {f m : Int32} (g : Int32 → Int32) (hg : ∀ x, x * f + m = g x) (A V K b : Nat → Int32) {r0 R c0 C : Nat} (hr : r0 ≤ R) (hR : R < 16) (hc : c0 ≤ C) (hC : C < 16)
    (h : post (nI ((R + 1 - r0) * (C + 1 - c0))) (ca_F (ca_B r0 (R + 1) c0 (C + 1)) (ca_ch g) A 256, V, K, b)) :
    ∃ n, wX_change_42 post f m (nI r0) (nI R) (nI c0) (nI C) n (nI c0) A V K b := by
  refine ca_nest (ca_ch g) A r0 (R + 1) c0 (C + 1) (by omega) (by omega) (by omega) (by omega)
    (fun n k s => wX_change_42 post f m (nI r0) (nI R) (nI c0) (nI C) n (nI k) s V K b)
    (fun n k m' r s => wX_change_53 post (wX_change_42 post f m (nI r0) (nI R) (nI c0) (nI C) n) f m (nI r0) (nI R) (nI c0) (nI C) (nI k) m' (nI r) s V K b) ?_ ?_ ?_ ?_
  · intro n
    rw [← cb_area hr hc] at h
    exact br_t (nI_lt (by omega) (by omega)) h
  · intro n k s h1 h2 h3
    exact br_f (nI_nlt (by omega) (by omega)) h3
  · intro n k m' s h1 h2 h3
    exact br_t (nI_lt (by omega) (by omega)) (nm_r (nI_1 k) h3)
  · intro n k m' r s h1 h2 h3 h4 h5
    refine br_f (nI_nlt (by omega) (by omega)) (nm_r (cb_rc r k) ⟨vp_in_nI (by omega) (by decide), vp_in_nI (by omega) (by decide), ?_⟩)
    refine nm_r (e' := ca_ch g (r + 16 * k) s) ?_ (nm_r (nI_1 r) h5)
    rw [nI_clamp (n := r + 16 * k) (by omega), hg]
    rfl
theorem cx_rem {post : SX → Prop} (A V K b : Nat → Int32) (h : ∀ b' : Nat → Int32, (∀ j, j < 256 → b' j = A j) → post (A, V, K, b')) : wpX_rememberPresent post (A, V, K, b) := by
  unfold wpX_rememberPresent
  dsimp only
  refine loop_0 (fun n i s => wX_rememberPresent_2 post n (nI i) A V K s) (fun i s => ∀ j, j < i → s j = A j) 256 b (fun j hj => absurd hj (Nat.not_lt_zero j)) ?_ ?_
  · intro n s hs
    exact br_t (nI_le (a := 256) (by decide) (by decide)) (h s hs)
  · intro n i s hi hs ih
    refine br_f (nI_ge (b := 256) hi (by decide)) ⟨vp_in_nI hi (by decide), vp_in_nI hi (by decide), ?_⟩
    rw [nI_clamp (n := i) (by omega)]
    refine nm_e (nm_r (nI_1 i) (ih _ ?_))
    intro j hj
    by_cases z : j = i
    · rw [z]; exact pk_us
    · rw [pk_un z]; exact hs j (by omega)
theorem cx_copyL {post : Int32 → SX → Prop} (A V K b : Nat → Int32) (hb : ∀ j, j < 256 → b j = A j) {r0 c0 ar ac rows cols : Nat} (h1 : r0 + rows ≤ 16) (h2 : c0 + cols ≤ 16) (h3 : ar + rows ≤ 16) (h4 : ac + cols ≤ 16)
    (h : post (nI (rows * cols)) (ca_F (ca_B r0 (r0 + rows) c0 (c0 + cols)) (ca_cp A r0 c0 ar ac) A 256, V, K, b)) :
    ∃ n, wX_copy_98 post (nI r0) (nI c0) (nI ar) (nI ac) (nI rows) (nI cols) n 0 A V K b := by
  have key := ca_nest (ca_cp A r0 c0 ar ac) A r0 (r0 + rows) c0 (c0 + cols) (by omega) (by omega) (by omega) (by omega)
    (fun n k s => wX_copy_98 post (nI r0) (nI c0) (nI ar) (nI ac) (nI rows) (nI cols) n (nI (k - c0)) s V K b)
    (fun n k m r s => wX_copy_108 post (wX_copy_98 post (nI r0) (nI c0) (nI ar) (nI ac) (nI rows) (nI cols) n) (nI r0) (nI c0) (nI ar) (nI ac) (nI rows) (nI cols) (nI (k - c0)) m (nI (r - r0)) s V K b) ?_ ?_ ?_ ?_
  · obtain ⟨n, hn⟩ := key
    rw [Nat.sub_self] at hn
    exact ⟨n, hn⟩
  · intro n
    rw [← pk_mul] at h
    exact br_t (nI_le (by omega) (by omega)) h
  · intro n k s z1 z2 z3
    obtain ⟨m, z3⟩ := z3
    rw [Nat.sub_self] at z3
    exact br_f (nI_ge (by omega) (by omega)) ⟨m, z3⟩
  · intro n k m s z1 z2 z3
    rw [show k + 1 - c0 = k - c0 + 1 by omega] at z3
    exact br_t (nI_le (by omega) (by omega)) (nm_r (nI_1 (k - c0)) z3)
  · intro n k m r s z1 z2 z3 z4 z5
    rw [show r + 1 - r0 = r - r0 + 1 by omega] at z5
    refine br_f (nI_ge (by omega) (by omega)) ?_
    refine nm_r (e' := nI (r + 16 * k)) ?_ (nm_r (e' := nI (ar + (r - r0) + 16 * (ac + (k - c0)))) ?_ ⟨vp_in_nI (by omega) (by decide), vp_in_nI (by omega) (by decide), ?_⟩)
    · rw [nI_add, nI_add, cb_rc, show r0 + (r - r0) = r by omega, show c0 + (k - c0) = k by omega]
    · rw [nI_add, nI_add, cb_rc]
    · refine nm_r (e' := ca_cp A r0 c0 ar ac (r + 16 * k) s) ?_ (nm_r (nI_1 (r - r0)) z5)
      rw [nI_clamp (n := r + 16 * k) (by omega), nI_clamp (n := ar + (r - r0) + 16 * (ac + (k - c0))) (by omega), hb (r + 16 * k) (by omega)]
      unfold ca_cp
      rw [show (r + 16 * k) % 16 = r by omega, show (r + 16 * k) / 16 = k by omega]
