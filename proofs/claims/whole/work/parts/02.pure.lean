/-- the state behind the cells below c, each cell that P holds taken by st, in their order -/
def ca_F {σ : Type} (P : Nat → Bool) (st : Nat → σ → σ) (s : σ) : Nat → σ
  | 0 => s
  | c + 1 => if P c = true then st c (ca_F P st s c) else ca_F P st s c
theorem ca_Ft {σ : Type} {P : Nat → Bool} {st : Nat → σ → σ} {s : σ} {c : Nat} (h : P c = true) : ca_F P st s (c + 1) = st c (ca_F P st s c) := if_pos h
theorem ca_Ff {σ : Type} {P : Nat → Bool} {st : Nat → σ → σ} {s : σ} {c : Nat} (h : P c = false) : ca_F P st s (c + 1) = ca_F P st s c := if_neg (by rw [h]; decide)
theorem ca_Fs {σ : Type} {P : Nat → Bool} {st : Nat → σ → σ} {s : σ} (a : Nat) : ∀ d : Nat, (∀ c, a ≤ c → c < a + d → P c = false) → ca_F P st s (a + d) = ca_F P st s a
  | 0, _ => rfl
  | d + 1, h => (ca_Ff (c := a + d) (h (a + d) (by omega) (by omega))).trans (ca_Fs a d (fun c h1 h2 => h c h1 (by omega)))
theorem ca_Fk {σ : Type} (P : Nat → Bool) (st : Nat → σ → σ) (s : σ) {a b : Nat} (hab : a ≤ b) (h : ∀ c, a ≤ c → c < b → P c = false) : ca_F P st s b = ca_F P st s a := by
  have e := ca_Fs (P := P) (st := st) (s := s) a (b - a) (fun c h1 h2 => h c h1 (by omega))
  rwa [show a + (b - a) = b by omega] at e
/-- the box of the rows r0 .. r1 - 1 and the columns c0 .. c1 - 1 -/
def ca_B (r0 r1 c0 c1 c : Nat) : Bool := decide (r0 ≤ c % 16 ∧ c % 16 < r1 ∧ c0 ≤ c / 16 ∧ c / 16 < c1)
theorem ca_Bt {r0 r1 c0 c1 r k : Nat} (h : r0 ≤ r) (h1 : r < r1) (h2 : c0 ≤ k) (h3 : k < c1) (h4 : r1 ≤ 16) : ca_B r0 r1 c0 c1 (r + 16 * k) = true := decide_eq_true ⟨by omega, by omega, by omega, by omega⟩
theorem ca_Bf {r0 r1 c0 c1 c : Nat} (h : ¬ (r0 ≤ c % 16 ∧ c % 16 < r1 ∧ c0 ≤ c / 16 ∧ c / 16 < c1)) : ca_B r0 r1 c0 c1 c = false := decide_eq_false h
/-- X's nested loops walk the box in the order of its cells -/
theorem ca_nest {σ : Type} (st : Nat → σ → σ) (s0 : σ) (r0 r1 c0 c1 : Nat) (hr : r0 ≤ r1) (hr' : r1 ≤ 16) (hc : c0 ≤ c1) (hc' : c1 ≤ 16)
    (WO : Nat → Nat → σ → Prop) (WI : Nat → Nat → Nat → Nat → σ → Prop)
    (hx : ∀ n, WO (n + 1) c1 (ca_F (ca_B r0 r1 c0 c1) st s0 256))
    (hO : ∀ n k s, c0 ≤ k → k < c1 → (∃ m, WI n k m r0 s) → WO (n + 1) k s)
    (hX : ∀ n k m s, c0 ≤ k → k < c1 → WO n (k + 1) s → WI n k (m + 1) r1 s)
    (hI : ∀ n k m r s, c0 ≤ k → k < c1 → r0 ≤ r → r < r1 → WI n k m (r + 1) (st (r + 16 * k) s) → WI n k (m + 1) r s) :
    ∃ n, WO n c0 s0 := by
  refine pk_loop WO (fun k s => c0 ≤ k ∧ s = ca_F (ca_B r0 r1 c0 c1) st s0 (16 * k)) c1 c0 s0 hc ⟨Nat.le_refl _, ?_⟩ ?_ ?_
  · exact (ca_Fk (ca_B r0 r1 c0 c1) st s0 (a := 0) (b := 16 * c0) (Nat.zero_le _) (fun c _ h => ca_Bf (by omega))).symm
  · rintro n s ⟨_, rfl⟩
    have e := ca_Fk (ca_B r0 r1 c0 c1) st s0 (a := 16 * c1) (b := 256) (by omega) (fun c h h' => ca_Bf (by omega))
    rw [← e]
    exact hx n
  · rintro n k s hk ⟨hk0, rfl⟩ ih
    refine hO n k _ hk0 hk ?_
    have e := ca_Fk (ca_B r0 r1 c0 c1) st s0 (a := 16 * k) (b := r0 + 16 * k) (by omega) (fun c h h' => ca_Bf (by omega))
    rw [← e]
    refine pk_loop (fun m r s => WI n k m r s) (fun r s => r0 ≤ r ∧ s = ca_F (ca_B r0 r1 c0 c1) st s0 (r + 16 * k)) r1 r0 _ hr ⟨Nat.le_refl _, rfl⟩ ?_ ?_
    · rintro m s ⟨_, rfl⟩
      refine hX n k m _ hk0 hk (ih _ ⟨by omega, ?_⟩)
      exact (ca_Fk (ca_B r0 r1 c0 c1) st s0 (a := r1 + 16 * k) (b := 16 * (k + 1)) (by omega) (fun c h h' => ca_Bf (by omega))).symm
    · rintro m r s hr2 ⟨hr3, rfl⟩ ih2
      refine hI n k m r _ hk0 hk hr3 hr2 (ih2 _ ⟨by omega, ?_⟩)
      rw [show r + 1 + 16 * k = r + 16 * k + 1 by omega]
      exact (ca_Ft (ca_Bt hr3 hr2 hk0 hk hr')).symm
/-- how many cells below c P holds -/
def ca_C (P : Nat → Bool) (c : Nat) : Nat := ca_F P (fun _ n => n + 1) 0 c
theorem ca_Cle (P : Nat → Bool) : ∀ c, ca_C P c ≤ c
  | 0 => Nat.le_refl 0
  | c + 1 => by
    have ih := ca_Cle P c
    unfold ca_C at ih ⊢
    by_cases h : P c = true
    · rw [ca_Ft h]; omega
    · rw [ca_Ff (Bool.eq_false_iff.mpr h)]; omega
theorem ca_Ct {P : Nat → Bool} {c : Nat} (h : P c = true) : ca_C P (c + 1) = ca_C P c + 1 := ca_Ft h
theorem ca_Cf {P : Nat → Bool} {c : Nat} (h : P c = false) : ca_C P (c + 1) = ca_C P c := ca_Ff h
theorem ca_c1 {r0 r1 c0 c1 k : Nat} (hr : r0 ≤ 16) (hr' : r1 ≤ 16) (h2 : c0 ≤ k) (h3 : k < c1) : ∀ j, r0 + j ≤ r1 → ca_C (ca_B r0 r1 c0 c1) (r0 + j + 16 * k) = ca_C (ca_B r0 r1 c0 c1) (16 * k) + j
  | 0, _ => ca_Fk (ca_B r0 r1 c0 c1) (fun _ n => n + 1) 0 (a := 16 * k) (b := r0 + 0 + 16 * k) (by omega) (fun c h h' => ca_Bf (by omega))
  | j + 1, h => by
    have e := ca_c1 hr hr' h2 h3 j (by omega)
    rw [show r0 + (j + 1) + 16 * k = (r0 + j + 16 * k) + 1 by omega, ca_Ct (ca_Bt (by omega) (by omega) h2 h3 hr'), e]
    omega
theorem ca_c2 {r0 r1 c0 c1 : Nat} (hr : r0 ≤ r1) (hr' : r1 ≤ 16) : ∀ i, c0 + i ≤ c1 → ca_C (ca_B r0 r1 c0 c1) (16 * (c0 + i)) = (r1 - r0) * i
  | 0, _ => ca_Fk (ca_B r0 r1 c0 c1) (fun _ n => n + 1) 0 (a := 0) (b := 16 * (c0 + 0)) (by omega) (fun c h h' => ca_Bf (by omega))
  | i + 1, h => by
    have e := ca_c2 (c0 := c0) (c1 := c1) hr hr' i (by omega)
    have e1 := ca_c1 (r0 := r0) (r1 := r1) (c0 := c0) (c1 := c1) (k := c0 + i) (by omega) hr' (by omega) (by omega) (r1 - r0) (by omega)
    have e2 : ca_C (ca_B r0 r1 c0 c1) (16 * (c0 + (i + 1))) = ca_C (ca_B r0 r1 c0 c1) (r0 + (r1 - r0) + 16 * (c0 + i)) :=
      ca_Fk (ca_B r0 r1 c0 c1) (fun _ n => n + 1) 0 (by omega) (fun c h h' => ca_Bf (by omega))
    rw [e2, e1, e, Nat.mul_succ]
theorem ca_cnt {r0 r1 c0 c1 : Nat} (hr : r0 ≤ r1) (hr' : r1 ≤ 16) (hc : c0 ≤ c1) (hc' : c1 ≤ 16) : ca_C (ca_B r0 r1 c0 c1) 256 = (r1 - r0) * (c1 - c0) := by
  have e := ca_c2 (c0 := c0) (c1 := c1) hr hr' (c1 - c0) (by omega)
  rw [← e]
  exact ca_Fk (ca_B r0 r1 c0 c1) (fun _ n => n + 1) 0 (by omega) (fun c h h' => ca_Bf (by omega))
