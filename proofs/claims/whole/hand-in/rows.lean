section
theorem pk_us {f : Nat → Int32} {k : Nat} {x : Int32} : upd f k x k = x := if_pos rfl
theorem pk_un {f : Nat → Int32} {k j : Nat} {x : Int32} (h : j ≠ k) : upd f k x j = f j := if_neg h
theorem pk_sub {a b : Nat} (h : b ≤ a) : nI a - nI b = nI (a - b) := by
  obtain ⟨c, rfl⟩ : ∃ c, a = c + b := ⟨a - b, by omega⟩
  rw [← nI_add, Int32.add_sub_cancel, Nat.add_sub_cancel]
theorem pk_mul (a b : Nat) : nI a * nI b = nI (a * b) := (Int32.ofNat_mul a b).symm
theorem pk_div {a d : Nat} (ha : a < 2 ^ 31) (h0 : 0 < d) (hd : d < 2 ^ 31) : nI a / nI d = nI (a / d) := by
  apply Int32.toInt_inj.mp
  rw [lg_idiv_nonneg (by rw [nI_toInt ha]; omega) (by rw [nI_toInt hd]; omega), nI_toInt ha, nI_toInt hd, nI_toInt (Nat.lt_of_le_of_lt (Nat.div_le_self a d) ha)]
  first | rfl | exact (Int.natCast_ediv _ _).symm
theorem pk_rem {a d : Nat} (ha : a < 2 ^ 31) (h0 : 0 < d) (hd : d < 2 ^ 31) : nI a - nI a / nI d * nI d = nI (a % d) := by
  rw [pk_div ha h0 hd, pk_mul, pk_sub (Nat.div_mul_le_self a d)]
  exact congrArg nI (by have := Nat.div_add_mod' a d; omega)
theorem pk_sub_toInt {a b : Nat} (ha : a < 2 ^ 30) (hb : b < 2 ^ 30) : (nI a - nI b).toInt = (a : Int) - b := by
  rw [Int32.toInt_sub, nI_toInt (by omega), nI_toInt (by omega)]
  exact Int.bmod_eq_of_le (by omega) (by omega)
theorem pk_ix (x : Int32) {n : Nat} (hn : n < 2 ^ 31) : x < 0 ∨ nI n ≤ x ∨ ∃ j : Nat, j < n ∧ x = nI j := by
  by_cases h : x < 0
  · exact Or.inl h
  · obtain ⟨j, hj, rfl⟩ := nI_of h
    by_cases h2 : j < n
    · exact Or.inr (Or.inr ⟨j, h2, rfl⟩)
    · exact Or.inr (Or.inl (nI_le (by omega) hj))
theorem pk_le {x y : Int32} {A B : Prop} (a b : Nat) (f : a ≤ b → A) (g : b < a → B) (hx : x = nI a := by rfl) (hy : y = nI b := by rfl) (ha : a < 2 ^ 31 := by omega) (hb : b < 2 ^ 31 := by omega) : (x ≤ y → A) ∧ (¬ x ≤ y → B) := by
  subst hx hy
  rw [nI_leI ha hb]
  exact ⟨f, fun z => g (by omega)⟩
theorem pk_lt {x y : Int32} {A B : Prop} (a b : Nat) (f : a < b → A) (g : b ≤ a → B) (hx : x = nI a := by rfl) (hy : y = nI b := by rfl) (ha : a < 2 ^ 31 := by omega) (hb : b < 2 ^ 31 := by omega) : (x < y → A) ∧ (¬ x < y → B) := by
  subst hx hy
  rw [nI_ltI ha hb]
  exact ⟨f, fun z => g (by omega)⟩
theorem pk_eq {x y : Int32} {A B : Prop} (a b : Nat) (f : a = b → A) (g : a ≠ b → B) (hx : x = nI a := by rfl) (hy : y = nI b := by rfl) (ha : a < 2 ^ 31 := by omega) (hb : b < 2 ^ 31 := by omega) : (x = y → A) ∧ (¬ x = y → B) := by
  subst hx hy
  rw [nI_eq ha hb]
  exact ⟨f, g⟩
theorem pk_in {x : Int32} (n N : Nat) (h : n < N) (hx : x = nI n := by rfl) (hN : N < 2 ^ 31 := by omega) : vp_in x N := by
  subst hx
  exact vp_in_nI h hN
theorem pk_cl {x : Int32} (n : Nat) (hx : x = nI n := by rfl) (h : n < 2 ^ 31 := by omega) : x.toNatClampNeg = n := by
  subst hx
  exact nI_clamp h
theorem pk_tn {n : Nat} (h : n < 2 ^ 32) : (nI n).toBitVec.toNat = n := Nat.mod_eq_of_lt h
theorem pk_and (x : Int32) {m : Int32} (k : Nat) (hm : m.toBitVec.toNat = 2 ^ k - 1) : x &&& m = nI (x.toBitVec.toNat % 2 ^ k) := by
  apply Int32.toBitVec_inj.mp
  apply BitVec.eq_of_toNat_eq
  rw [Int32.toBitVec_and, BitVec.toNat_and, hm, Nat.and_two_pow_sub_one_eq_mod]
  show _ = (BitVec.ofNat 32 _).toNat
  rw [BitVec.toNat_ofNat]
  exact (Nat.mod_eq_of_lt (Nat.lt_of_le_of_lt (Nat.mod_le _ _) x.toBitVec.isLt)).symm
theorem pk_andN {n : Nat} (h : n < 2 ^ 32) {m : Int32} (k : Nat) (hm : m.toBitVec.toNat = 2 ^ k - 1) : nI n &&& m = nI (n % 2 ^ k) := by
  rw [pk_and _ k hm, pk_tn h]
theorem pk_shr (a s : Int32) (k : Nat) (hs : (s.toBitVec.smod 32).toNat = k) : (a >>> s).toInt = a.toInt >>> k := by
  show (a.toBitVec.sshiftRight (s.toBitVec.smod 32).toNat).toInt = _
  rw [hs, BitVec.toInt_sshiftRight]
  rfl
theorem pk_shrN {n : Nat} (h : n < 2 ^ 31) (s : Int32) (k : Nat) (hs : (s.toBitVec.smod 32).toNat = k) : nI n >>> s = nI (n / 2 ^ k) := by
  apply Int32.toInt_inj.mp
  have h2 : n / 2 ^ k ≤ n := Nat.div_le_self _ _
  rw [pk_shr _ _ k hs, nI_toInt h, nI_toInt (by omega), Int.shiftRight_eq_div_pow]
  rfl
theorem pk_loop {σ : Type} (W : Nat → Nat → σ → Prop) (I : Nat → σ → Prop) (e i0 : Nat) (s : σ) (hi : i0 ≤ e) (h0 : I i0 s) (hx : ∀ n s, I e s → W (n + 1) e s)
    (hs : ∀ n i s, i < e → I i s → (∀ s', I (i + 1) s' → W n (i + 1) s') → W (n + 1) i s) : ∃ n, W n i0 s :=
  ⟨e + 1, loop_i W I e hx hs (e + 1) i0 s hi (by omega) h0⟩
end
section
/-- the state behind the cells below c, each cell that P holds taken by st, in their order -/
def ca_F {σ : Type} (P : Nat → Bool) (st : Nat → σ → σ) (s : σ) : Nat → σ
  | 0 => s
  | c + 1 => if P c = true then st c (ca_F P st s c) else ca_F P st s c
theorem ca_Ft {σ : Type} {P : Nat → Bool} {st : Nat → σ → σ} {s : σ} {c : Nat} (h : P c = true) : ca_F P st s (c + 1) = st c (ca_F P st s c) := if_pos h
theorem ca_Ff {σ : Type} {P : Nat → Bool} {st : Nat → σ → σ} {s : σ} {c : Nat} (h : P c = false) : ca_F P st s (c + 1) = ca_F P st s c := if_neg (by rw [h]; decide)
theorem ca_Fs {σ : Type} {P : Nat → Bool} {st : Nat → σ → σ} {s : σ} (a : Nat) : ∀ d : Nat, (∀ c, a ≤ c → c < a + d → P c = false) → ca_F P st s (a + d) = ca_F P st s a
  | 0, _ => rfl
  | d + 1, h => (ca_Ff (c := a + d) (h (a + d) (by omega) (by omega))).trans (ca_Fs a d (fun c h1 h2 => h c h1 (by omega)))
theorem ca_Fk {σ : Type} (P : Nat → Bool) (st : Nat → σ → σ) (s : σ) {a b : Nat} (hab : a ≤ b) (h : ∀ c, a ≤ c → c < b → P c = false) : ca_F P st s b = ca_F P st s a := by
  have e := ca_Fs (P := P) (st := st) (s := s) a (b - a) (fun c h1 h2 => h c h1 (by omega))
  rwa [show a + (b - a) = b by omega] at e
/-- the box of the rows r0 .. r1 - 1 and the columns c0 .. c1 - 1 -/
def ca_B (r0 r1 c0 c1 c : Nat) : Bool := decide (r0 ≤ c % 16 ∧ c % 16 < r1 ∧ c0 ≤ c / 16 ∧ c / 16 < c1)
theorem ca_Bt {r0 r1 c0 c1 r k : Nat} (h : r0 ≤ r) (h1 : r < r1) (h2 : c0 ≤ k) (h3 : k < c1) (h4 : r1 ≤ 16) : ca_B r0 r1 c0 c1 (r + 16 * k) = true := decide_eq_true ⟨by omega, by omega, by omega, by omega⟩
theorem ca_Bf {r0 r1 c0 c1 c : Nat} (h : ¬ (r0 ≤ c % 16 ∧ c % 16 < r1 ∧ c0 ≤ c / 16 ∧ c / 16 < c1)) : ca_B r0 r1 c0 c1 c = false := decide_eq_false h
/-- X's nested loops walk the box in the order of its cells -/
theorem ca_nest {σ : Type} (st : Nat → σ → σ) (s0 : σ) (r0 r1 c0 c1 : Nat) (hr : r0 ≤ r1) (hr' : r1 ≤ 16) (hc : c0 ≤ c1) (hc' : c1 ≤ 16)
    (WO : Nat → Nat → σ → Prop) (WI : Nat → Nat → Nat → Nat → σ → Prop)
    (hx : ∀ n, WO (n + 1) c1 (ca_F (ca_B r0 r1 c0 c1) st s0 256))
    (hO : ∀ n k s, c0 ≤ k → k < c1 → (∃ m, WI n k m r0 s) → WO (n + 1) k s)
    (hX : ∀ n k m s, c0 ≤ k → k < c1 → WO n (k + 1) s → WI n k (m + 1) r1 s)
    (hI : ∀ n k m r s, c0 ≤ k → k < c1 → r0 ≤ r → r < r1 → WI n k m (r + 1) (st (r + 16 * k) s) → WI n k (m + 1) r s) :
    ∃ n, WO n c0 s0 := by
  refine pk_loop WO (fun k s => c0 ≤ k ∧ s = ca_F (ca_B r0 r1 c0 c1) st s0 (16 * k)) c1 c0 s0 hc ⟨Nat.le_refl _, ?_⟩ ?_ ?_
  · exact (ca_Fk (ca_B r0 r1 c0 c1) st s0 (a := 0) (b := 16 * c0) (Nat.zero_le _) (fun c _ h => ca_Bf (by omega))).symm
  · rintro n s ⟨_, rfl⟩
    have e := ca_Fk (ca_B r0 r1 c0 c1) st s0 (a := 16 * c1) (b := 256) (by omega) (fun c h h' => ca_Bf (by omega))
    rw [← e]
    exact hx n
  · rintro n k s hk ⟨hk0, rfl⟩ ih
    refine hO n k _ hk0 hk ?_
    have e := ca_Fk (ca_B r0 r1 c0 c1) st s0 (a := 16 * k) (b := r0 + 16 * k) (by omega) (fun c h h' => ca_Bf (by omega))
    rw [← e]
    refine pk_loop (fun m r s => WI n k m r s) (fun r s => r0 ≤ r ∧ s = ca_F (ca_B r0 r1 c0 c1) st s0 (r + 16 * k)) r1 r0 _ hr ⟨Nat.le_refl _, rfl⟩ ?_ ?_
    · rintro m s ⟨_, rfl⟩
      refine hX n k m _ hk0 hk (ih _ ⟨by omega, ?_⟩)
      exact (ca_Fk (ca_B r0 r1 c0 c1) st s0 (a := r1 + 16 * k) (b := 16 * (k + 1)) (by omega) (fun c h h' => ca_Bf (by omega))).symm
    · rintro m r s hr2 ⟨hr3, rfl⟩ ih2
      refine hI n k m r _ hk0 hk hr3 hr2 (ih2 _ ⟨by omega, ?_⟩)
      rw [show r + 1 + 16 * k = r + 16 * k + 1 by omega]
      exact (ca_Ft (ca_Bt hr3 hr2 hk0 hk hr')).symm
/-- how many cells below c P holds -/
def ca_C (P : Nat → Bool) (c : Nat) : Nat := ca_F P (fun _ n => n + 1) 0 c
theorem ca_Cle (P : Nat → Bool) : ∀ c, ca_C P c ≤ c
  | 0 => Nat.le_refl 0
  | c + 1 => by
    have ih := ca_Cle P c
    unfold ca_C at ih ⊢
    by_cases h : P c = true
    · rw [ca_Ft h]; omega
    · rw [ca_Ff (Bool.eq_false_iff.mpr h)]; omega
theorem ca_Ct {P : Nat → Bool} {c : Nat} (h : P c = true) : ca_C P (c + 1) = ca_C P c + 1 := ca_Ft h
theorem ca_Cf {P : Nat → Bool} {c : Nat} (h : P c = false) : ca_C P (c + 1) = ca_C P c := ca_Ff h
theorem ca_c1 {r0 r1 c0 c1 k : Nat} (hr : r0 ≤ 16) (hr' : r1 ≤ 16) (h2 : c0 ≤ k) (h3 : k < c1) : ∀ j, r0 + j ≤ r1 → ca_C (ca_B r0 r1 c0 c1) (r0 + j + 16 * k) = ca_C (ca_B r0 r1 c0 c1) (16 * k) + j
  | 0, _ => ca_Fk (ca_B r0 r1 c0 c1) (fun _ n => n + 1) 0 (a := 16 * k) (b := r0 + 0 + 16 * k) (by omega) (fun c h h' => ca_Bf (by omega))
  | j + 1, h => by
    have e := ca_c1 hr hr' h2 h3 j (by omega)
    rw [show r0 + (j + 1) + 16 * k = (r0 + j + 16 * k) + 1 by omega, ca_Ct (ca_Bt (by omega) (by omega) h2 h3 hr'), e]
    omega
theorem ca_c2 {r0 r1 c0 c1 : Nat} (hr : r0 ≤ r1) (hr' : r1 ≤ 16) : ∀ i, c0 + i ≤ c1 → ca_C (ca_B r0 r1 c0 c1) (16 * (c0 + i)) = (r1 - r0) * i
  | 0, _ => ca_Fk (ca_B r0 r1 c0 c1) (fun _ n => n + 1) 0 (a := 0) (b := 16 * (c0 + 0)) (by omega) (fun c h h' => ca_Bf (by omega))
  | i + 1, h => by
    have e := ca_c2 (c0 := c0) (c1 := c1) hr hr' i (by omega)
    have e1 := ca_c1 (r0 := r0) (r1 := r1) (c0 := c0) (c1 := c1) (k := c0 + i) (by omega) hr' (by omega) (by omega) (r1 - r0) (by omega)
    have e2 : ca_C (ca_B r0 r1 c0 c1) (16 * (c0 + (i + 1))) = ca_C (ca_B r0 r1 c0 c1) (r0 + (r1 - r0) + 16 * (c0 + i)) :=
      ca_Fk (ca_B r0 r1 c0 c1) (fun _ n => n + 1) 0 (by omega) (fun c h h' => ca_Bf (by omega))
    rw [e2, e1, e, Nat.mul_succ]
theorem ca_cnt {r0 r1 c0 c1 : Nat} (hr : r0 ≤ r1) (hr' : r1 ≤ 16) (hc : c0 ≤ c1) (hc' : c1 ≤ 16) : ca_C (ca_B r0 r1 c0 c1) 256 = (r1 - r0) * (c1 - c0) := by
  have e := ca_c2 (c0 := c0) (c1 := c1) hr hr' (c1 - c0) (by omega)
  rw [← e]
  exact ca_Fk (ca_B r0 r1 c0 c1) (fun _ n => n + 1) 0 (by omega) (fun c h h' => ca_Bf (by omega))
end
section
theorem cb_16 : ¬ (16 : Int32) = 0 := by decide
theorem cb_1 : ¬ (1 : Int32) = 0 := by decide
def cb_bad (v : Int32) : Prop := v < 0 ∨ ∃ m : Nat, 256 ≤ m ∧ m < 2 ^ 31 ∧ v = nI m
def cb_badV (v : Int32) : Prop := v < 0 ∨ ∃ m : Nat, 4 ≤ m ∧ m < 2 ^ 31 ∧ v = nI m
theorem cb_cell (v : Int32) : cb_bad v ∨ ∃ p : Nat, p < 256 ∧ v = nI p := by
  by_cases h : v < 0
  · exact Or.inl (Or.inl h)
  · obtain ⟨j, hj, rfl⟩ := nI_of h
    by_cases h2 : j < 256
    · exact Or.inr ⟨j, h2, rfl⟩
    · exact Or.inl (Or.inr ⟨j, by omega, hj, rfl⟩)
theorem cb_ver (v : Int32) : cb_badV v ∨ ∃ p : Nat, p < 4 ∧ v = nI p := by
  by_cases h : v < 0
  · exact Or.inl (Or.inl h)
  · obtain ⟨j, hj, rfl⟩ := nI_of h
    by_cases h2 : j < 4
    · exact Or.inr ⟨j, h2, rfl⟩
    · exact Or.inl (Or.inr ⟨j, by omega, hj, rfl⟩)
theorem cb_two (v1 v2 : Int32) : (cb_bad v1 ∨ cb_bad v2) ∨ ∃ p q : Nat, p < 256 ∧ q < 256 ∧ v1 = nI p ∧ v2 = nI q := by
  rcases cb_cell v1 with h | ⟨p, hp, e⟩
  · exact Or.inl (Or.inl h)
  · rcases cb_cell v2 with h | ⟨q, hq, e'⟩
    · exact Or.inl (Or.inr h)
    · exact Or.inr ⟨p, q, hp, hq, e, e'⟩
theorem cb_and {c : Nat} (h : c < 256) : nI c &&& 15 = nI (c % 16) := pk_andN (n := c) (by omega) (m := 15) 4 (by decide)
theorem cb_shr {c : Nat} (h : c < 256) : nI c >>> ((4 : Int32) &&& 31) = nI (c / 16) := pk_shrN (n := c) (by omega) ((4 : Int32) &&& 31) 4 (by decide)
theorem cb_rem {c : Nat} (h : c < 256) : nI c - nI c / 16 * 16 = nI (c % 16) := pk_rem (a := c) (d := 16) (by omega) (by decide) (by decide)
theorem cb_div {c : Nat} (h : c < 256) : nI c / 16 = nI (c / 16) := pk_div (a := c) (d := 16) (by omega) (by decide) (by decide)
theorem cb_rc (r k : Nat) : nI r + 16 * nI k = nI (r + 16 * k) := by
  rw [show (16 : Int32) = nI 16 from rfl, pk_mul, nI_add]
theorem cb_vc (j c : Nat) : nI j * 256 + nI c = nI (j * 256 + c) := by
  rw [show (256 : Int32) = nI 256 from rfl, pk_mul, nI_add]
/-! X's small methods -/
theorem cx_cell1 {post : Int32 → Prop} {p : Nat} (hp : p < 256) (h : post 1) : wpX_isCell post (nI p) := by
  unfold wpX_isCell
  exact br_f (nI_pos (by omega)) (br_f (nI_ge (b := 256) hp (by decide)) h)
theorem cx_cell0 {post : Int32 → Prop} {v : Int32} (hv : cb_bad v) (h : post 0) : wpX_isCell post v := by
  unfold wpX_isCell
  rcases hv with hv | ⟨m, h1, h2, rfl⟩
  · exact br_t hv h
  · exact br_f (nI_pos h2) (br_t (nI_le (a := 256) h1 h2) h)
theorem cx_reg1 {post : Int32 → Prop} {p q : Nat} (hp : p < 256) (hq : q < 256) (h : post 1) : wpX_isRegion post (nI p) (nI q) := by
  unfold wpX_isRegion
  exact cx_cell1 hp (br_f cb_1 (cx_cell1 hq (br_f cb_1 h)))
theorem cx_reg0 {post : Int32 → Prop} {v1 v2 : Int32} (hv : cb_bad v1 ∨ cb_bad v2) (h : post 0) : wpX_isRegion post v1 v2 := by
  unfold wpX_isRegion
  rcases cb_cell v1 with b | ⟨p, hp, rfl⟩
  · exact cx_cell0 b (br_t rfl h)
  · rcases hv with b | b
    · exact cx_cell0 b (br_t rfl h)
    · exact cx_cell1 hp (br_f cb_1 (cx_cell0 b (br_t rfl h)))
theorem cx_smaller {post : Int32 → Prop} {a b : Nat} (ha : a < 2 ^ 31) (hb : b < 2 ^ 31) (h : post (nI (min a b))) : wpX_smaller post (nI a) (nI b) := by
  unfold wpX_smaller
  refine pk_le b a (fun z => ?_) (fun z => ?_) rfl rfl hb ha
  · rwa [Nat.min_eq_right z] at h
  · rwa [Nat.min_eq_left (Nat.le_of_lt z)] at h
theorem cx_greater {post : Int32 → Prop} {a b : Nat} (ha : a < 2 ^ 31) (hb : b < 2 ^ 31) (h : post (nI (max a b))) : wpX_greater post (nI a) (nI b) := by
  unfold wpX_greater
  refine pk_le a b (fun z => ?_) (fun z => ?_) rfl rfl ha hb
  · rwa [Nat.max_eq_right z] at h
  · rwa [Nat.max_eq_left (Nat.le_of_lt z)] at h
theorem cx_lowRow {post : Int32 → Prop} {p q : Nat} (hp : p < 256) (hq : q < 256) (h : post (nI (min (p % 16) (q % 16)))) : wpX_lowRow post (nI p) (nI q) := by
  unfold wpX_lowRow
  rw [cb_rem hp, cb_rem hq]
  exact ⟨cb_16, cb_16, cx_smaller (by omega) (by omega) h⟩
theorem cx_highRow {post : Int32 → Prop} {p q : Nat} (hp : p < 256) (hq : q < 256) (h : post (nI (max (p % 16) (q % 16)))) : wpX_highRow post (nI p) (nI q) := by
  unfold wpX_highRow
  rw [cb_rem hp, cb_rem hq]
  exact ⟨cb_16, cb_16, cx_greater (by omega) (by omega) h⟩
theorem cx_lowColumn {post : Int32 → Prop} {p q : Nat} (hp : p < 256) (hq : q < 256) (h : post (nI (min (p / 16) (q / 16)))) : wpX_lowColumn post (nI p) (nI q) := by
  unfold wpX_lowColumn
  rw [cb_div hp, cb_div hq]
  exact ⟨cb_16, cb_16, cx_smaller (by omega) (by omega) h⟩
theorem cx_highColumn {post : Int32 → Prop} {p q : Nat} (hp : p < 256) (hq : q < 256) (h : post (nI (max (p / 16) (q / 16)))) : wpX_highColumn post (nI p) (nI q) := by
  unfold wpX_highColumn
  rw [cb_div hp, cb_div hq]
  exact ⟨cb_16, cb_16, cx_greater (by omega) (by omega) h⟩
/-- the four corners, one behind the other -/
theorem cx_corners {Q : Int32 → Int32 → Int32 → Int32 → Prop} {p q : Nat} (hp : p < 256) (hq : q < 256)
    (h : ∀ r0 R c0 C : Nat, r0 = min (p % 16) (q % 16) → R = max (p % 16) (q % 16) → c0 = min (p / 16) (q / 16) → C = max (p / 16) (q / 16) → Q (nI r0) (nI R) (nI c0) (nI C)) :
    wpX_lowRow (fun r3 => wpX_highRow (fun r4 => wpX_lowColumn (fun r5 => wpX_highColumn (fun r6 => Q r3 r4 r5 r6) (nI p) (nI q)) (nI p) (nI q)) (nI p) (nI q)) (nI p) (nI q) :=
  cx_lowRow hp hq (cx_highRow hp hq (cx_lowColumn hp hq (cx_highColumn hp hq (h _ _ _ _ rfl rfl rfl rfl))))
theorem cx_open {Q0 : Prop} {Q : Int32 → Int32 → Int32 → Int32 → Prop} {p q : Nat} (hp : p < 256) (hq : q < 256)
    (h : ∀ r0 R c0 C : Nat, r0 = min (p % 16) (q % 16) → R = max (p % 16) (q % 16) → c0 = min (p / 16) (q / 16) → C = max (p / 16) (q / 16) → Q (nI r0) (nI R) (nI c0) (nI C)) :
    wpX_isRegion (fun r_1 => ((r_1 = 0 → Q0) ∧ (¬ r_1 = 0 → wpX_lowRow (fun r3 => wpX_highRow (fun r4 => wpX_lowColumn (fun r5 => wpX_highColumn (fun r6 => Q r3 r4 r5 r6) (nI p) (nI q)) (nI p) (nI q)) (nI p) (nI q)) (nI p) (nI q)))) (nI p) (nI q) :=
  cx_reg1 hp hq (br_f cb_1 (cx_corners hp hq h))
/-! Y's small methods -/
theorem cy_cell1 {post : Int32 → Prop} {a b c d : Nat → Int32} {p : Nat} (hp : p < 256) (h : post 1) : wpY_isCell post (a, b, c, d) (nI p) := by
  unfold wpY_isCell
  exact br_f (nI_pos (by omega)) (br_f (nI_ge (b := 256) hp (by decide)) h)
theorem cy_cell0 {post : Int32 → Prop} {a b c d : Nat → Int32} {v : Int32} (hv : cb_bad v) (h : post 0) : wpY_isCell post (a, b, c, d) v := by
  unfold wpY_isCell
  rcases hv with hv | ⟨m, h1, h2, rfl⟩
  · exact br_t hv h
  · exact br_f (nI_pos h2) (br_t (nI_le (a := 256) h1 h2) h)
theorem cy_reg1 {Q0 Q : Prop} {a b c d : Nat → Int32} {p q : Nat} (hp : p < 256) (hq : q < 256) (h : Q) :
    wpY_isCell (fun r_1 => ((r_1 = 0 → Q0) ∧ (¬ r_1 = 0 → wpY_isCell (fun r_7 => ((r_7 = 0 → Q0) ∧ (¬ r_7 = 0 → Q))) (a, b, c, d) (nI q)))) (a, b, c, d) (nI p) :=
  cy_cell1 hp (br_f cb_1 (cy_cell1 hq (br_f cb_1 h)))
theorem cy_reg0 {Q0 Q : Prop} {a b c d : Nat → Int32} {v1 v2 : Int32} (hv : cb_bad v1 ∨ cb_bad v2) (h : Q0) :
    wpY_isCell (fun r_1 => ((r_1 = 0 → Q0) ∧ (¬ r_1 = 0 → wpY_isCell (fun r_7 => ((r_7 = 0 → Q0) ∧ (¬ r_7 = 0 → Q))) (a, b, c, d) v2))) (a, b, c, d) v1 := by
  rcases cb_cell v1 with z | ⟨p, hp, rfl⟩
  · exact cy_cell0 z (br_t rfl h)
  · rcases hv with z | z
    · exact cy_cell0 z (br_t rfl h)
    · exact cy_cell1 hp (br_f cb_1 (cy_cell0 z (br_t rfl h)))
theorem cy_bt {post : Int32 → Prop} {A B C D : Nat → Int32} {n a b : Nat} (hn : n < 2 ^ 31) (ha : a < 2 ^ 31) (hb : b < 2 ^ 31)
    (h1 : min a b ≤ n ∧ n ≤ max a b → post 1) (h0 : ¬ (min a b ≤ n ∧ n ≤ max a b) → post 0) : wpY_between post (A, B, C, D) (nI n) (nI a) (nI b) := by
  unfold wpY_between wY_between_10
  dsimp only
  rw [nI_ltI hn ha, nI_leI hn hb, nI_ltI hn hb, nI_ltI ha hn]
  refine ⟨fun z1 => ⟨fun z2 => h0 (by omega), fun z2 => ⟨fun z3 => h0 (by omega), fun z3 => h1 (by omega)⟩⟩, fun z1 => ⟨fun z2 => h1 (by omega), fun z2 => ⟨fun z3 => h0 (by omega), fun z3 => ⟨fun z4 => h0 (by omega), fun z4 => h1 (by omega)⟩⟩⟩⟩
/-- the region of two corner cells -/
def ca_R (p q : Nat) : Nat → Bool := ca_B (min (p % 16) (q % 16)) (max (p % 16) (q % 16) + 1) (min (p / 16) (q / 16)) (max (p / 16) (q / 16) + 1)
theorem cy_in {post : Int32 → Prop} {A B C D : Nat → Int32} {c p q : Nat} (hc : c < 256) (hp : p < 256) (hq : q < 256)
    (h1 : ca_R p q c = true → post 1) (h0 : ca_R p q c = false → post 0) : wpY_inside post (A, B, C, D) (nI c) (nI p) (nI q) := by
  unfold wpY_inside
  dsimp only
  rw [cb_and hc, cb_and hp, cb_and hq, cb_shr hc, cb_shr hp, cb_shr hq]
  refine cy_bt (by omega) (by omega) (by omega) (fun z => br_f cb_1 (cy_bt (by omega) (by omega) (by omega) (fun y => br_f cb_1 (h1 ?_)) (fun y => br_t rfl (h0 ?_)))) (fun z => br_t rfl (h0 ?_))
  · exact decide_eq_true ⟨z.1, Nat.lt_succ_of_le z.2, y.1, Nat.lt_succ_of_le y.2⟩
  · exact decide_eq_false (fun w => y ⟨w.2.2.1, Nat.le_of_lt_succ w.2.2.2⟩)
  · exact decide_eq_false (fun w => z ⟨w.1, Nat.le_of_lt_succ w.2.1⟩)
/-! versions -/
def cb_none (K : Nat → Int32) (v : Int32) : Prop := cb_badV v ∨ ∃ j : Nat, j < 4 ∧ v = nI j ∧ K j = 0
theorem cb_vcase (K : Nat → Int32) (v : Int32) : cb_none K v ∨ ∃ j : Nat, j < 4 ∧ v = nI j ∧ ¬ K j = 0 := by
  rcases cb_ver v with h | ⟨j, hj, e⟩
  · exact Or.inl (Or.inl h)
  · by_cases z : K j = 0
    · exact Or.inl (Or.inr ⟨j, hj, e, z⟩)
    · exact Or.inr ⟨j, hj, e, z⟩
theorem cx_ver1 {post : Int32 → Prop} {j : Nat} (hj : j < 4) (h : post 1) : wpX_isVersionNumber post (nI j) := by
  unfold wpX_isVersionNumber
  exact br_f (nI_pos (by omega)) (br_f (nI_ge (b := 4) hj (by decide)) h)
theorem cx_ver0 {post : Int32 → Prop} {v : Int32} (hv : cb_badV v) (h : post 0) : wpX_isVersionNumber post v := by
  unfold wpX_isVersionNumber
  rcases hv with hv | ⟨m, h1, h2, rfl⟩
  · exact br_t hv h
  · exact br_f (nI_pos h2) (br_t (nI_le (a := 4) h1 h2) h)
theorem cb_at {K : Nat → Int32} {j : Nat} (hj : j < 4) : K (nI j).toNatClampNeg = K j := by rw [nI_clamp (by omega)]
theorem cx_kept1 {post : Int32 → Prop} {A V K b : Nat → Int32} {j : Nat} (hj : j < 4) (hk : ¬ K j = 0) (h : post 1) : wpX_isKept post (A, V, K, b) (nI j) := by
  unfold wpX_isKept
  dsimp only
  refine cx_ver1 hj (br_f cb_1 ⟨vp_in_nI hj (by decide), ?_⟩)
  rw [cb_at (K := K) hj]
  exact br_f hk h
theorem cx_kept0 {post : Int32 → Prop} {A V K b : Nat → Int32} {v : Int32} (hv : cb_none K v) (h : post 0) : wpX_isKept post (A, V, K, b) v := by
  unfold wpX_isKept
  dsimp only
  rcases hv with hv | ⟨j, hj, rfl, hk⟩
  · exact cx_ver0 hv (br_t rfl h)
  · refine cx_ver1 hj (br_f cb_1 ⟨vp_in_nI hj (by decide), ?_⟩)
    rw [cb_at (K := K) hj]
    exact br_t hk h
theorem cy_kept1 {post : Int32 → Prop} {A V K b : Nat → Int32} {j : Nat} (hj : j < 4) (hk : ¬ K j = 0) (h : post 1) : wpY_isVersion post (A, b, V, K) (nI j) := by
  unfold wpY_isVersion
  dsimp only
  refine br_f (nI_pos (by omega)) (br_f (nI_ge (b := 4) hj (by decide)) ⟨vp_in_nI hj (by decide), ?_⟩)
  rw [cb_at (K := K) hj]
  exact br_f hk h
theorem cy_kept0 {post : Int32 → Prop} {A V K b : Nat → Int32} {v : Int32} (hv : cb_none K v) (h : post 0) : wpY_isVersion post (A, b, V, K) v := by
  unfold wpY_isVersion
  dsimp only
  rcases hv with (hv | ⟨m, h1, h2, rfl⟩) | ⟨j, hj, rfl, hk⟩
  · exact br_t hv h
  · exact br_f (nI_pos h2) (br_t (nI_le (a := 4) h1 h2) h)
  · refine br_f (nI_pos (by omega)) (br_f (nI_ge (b := 4) hj (by decide)) ⟨vp_in_nI hj (by decide), ?_⟩)
    rw [cb_at (K := K) hj]
    exact br_t hk h
end
section
/-! steps of the folds -/
def ca_s (A : Nat → Int32) (c : Nat) (s : Int32) : Int32 := s + A c
def ca_g (A : Nat → Int32) (c : Nat) (s : Int32) : Int32 := if A c ≤ s then s else A c
def ca_n (A : Nat → Int32) (v : Int32) (c : Nat) (s : Int32) : Int32 := if A c = v then s + 1 else s
def ca_ch (g : Int32 → Int32) (c : Nat) (s : Nat → Int32) : Nat → Int32 := upd s c (g (s c))
def ca_cp (A : Nat → Int32) (r0 c0 ar ac : Nat) (c : Nat) (s : Nat → Int32) : Nat → Int32 := upd s ((ar + (c % 16 - r0)) + 16 * (ac + (c / 16 - c0))) (A c)
theorem ca_gt {A : Nat → Int32} {c : Nat} {s : Int32} (h : A c ≤ s) : ca_g A c s = s := if_pos h
theorem ca_gf {A : Nat → Int32} {c : Nat} {s : Int32} (h : ¬ A c ≤ s) : ca_g A c s = A c := if_neg h
theorem ca_nt {A : Nat → Int32} {v : Int32} {c : Nat} {s : Int32} (h : A c = v) : ca_n A v c s = s + 1 := if_pos h
theorem ca_nf {A : Nat → Int32} {v : Int32} {c : Nat} {s : Int32} (h : ¬ A c = v) : ca_n A v c s = s := if_neg h
/-! X's nested loops -/
theorem cx_sumL {post : Int32 → Prop} (A V K b : Nat → Int32) {r0 R c0 C : Nat} (hr : r0 ≤ R) (hR : R < 16) (hc : c0 ≤ C) (hC : C < 16)
    (h : post (ca_F (ca_B r0 (R + 1) c0 (C + 1)) (ca_s A) 0 256)) : ∃ n, wX_sum_44 post (nI r0) (nI R) (nI C) A V K b n 0 (nI c0) := by
  refine ca_nest (ca_s A) 0 r0 (R + 1) c0 (C + 1) (by omega) (by omega) (by omega) (by omega)
    (fun n k s => wX_sum_44 post (nI r0) (nI R) (nI C) A V K b n s (nI k))
    (fun n k m r s => wX_sum_54 post (wX_sum_44 post (nI r0) (nI R) (nI C) A V K b n) (nI r0) (nI R) (nI C) (nI k) A V K b m s (nI r)) ?_ ?_ ?_ ?_
  · intro n
    exact br_t (nI_lt (by omega) (by omega)) h
  · intro n k s h1 h2 h3
    exact br_f (nI_nlt (by omega) (by omega)) h3
  · intro n k m s h1 h2 h3
    exact br_t (nI_lt (by omega) (by omega)) (nm_r (nI_1 k) h3)
  · intro n k m r s h1 h2 h3 h4 h5
    refine br_f (nI_nlt (by omega) (by omega)) ?_
    rw [cb_rc, nI_clamp (n := r + 16 * k) (by omega)]
    exact ⟨vp_in_nI (by omega) (by decide), nm_e (nm_r (nI_1 r) h5)⟩
theorem cx_greatestL {post : Int32 → Prop} (A V K b : Nat → Int32) (s0 : Int32) {r0 R c0 C : Nat} (hr : r0 ≤ R) (hR : R < 16) (hc : c0 ≤ C) (hC : C < 16)
    (h : post (ca_F (ca_B r0 (R + 1) c0 (C + 1)) (ca_g A) s0 256)) : ∃ n, wX_greatest_49 post (nI r0) (nI R) (nI C) A V K b n s0 (nI c0) := by
  refine ca_nest (ca_g A) s0 r0 (R + 1) c0 (C + 1) (by omega) (by omega) (by omega) (by omega)
    (fun n k s => wX_greatest_49 post (nI r0) (nI R) (nI C) A V K b n s (nI k))
    (fun n k m r s => wX_greatest_59 post (wX_greatest_49 post (nI r0) (nI R) (nI C) A V K b n) (nI r0) (nI R) (nI C) (nI k) A V K b m s (nI r)) ?_ ?_ ?_ ?_
  · intro n
    exact br_t (nI_lt (by omega) (by omega)) h
  · intro n k s h1 h2 h3
    exact br_f (nI_nlt (by omega) (by omega)) h3
  · intro n k m s h1 h2 h3
    exact br_t (nI_lt (by omega) (by omega)) (nm_r (nI_1 k) h3)
  · intro n k m r s h1 h2 h3 h4 h5
    refine br_f (nI_nlt (by omega) (by omega)) ?_
    rw [cb_rc, nI_clamp (n := r + 16 * k) (by omega)]
    refine ⟨vp_in_nI (by omega) (by decide), nm_e ?_⟩
    by_cases z : A (r + 16 * k) ≤ s
    · rw [ca_gt z] at h5
      exact br_t z (nm_r (nI_1 r) h5)
    · rw [ca_gf z] at h5
      exact br_f z (nm_r (nI_1 r) h5)
theorem cx_countL {post : Int32 → Prop} (A V K b : Nat → Int32) (v : Int32) {r0 R c0 C : Nat} (hr : r0 ≤ R) (hR : R < 16) (hc : c0 ≤ C) (hC : C < 16)
    (h : post (ca_F (ca_B r0 (R + 1) c0 (C + 1)) (ca_n A v) 0 256)) : ∃ n, wX_count_45 post v (nI r0) (nI R) (nI C) A V K b n 0 (nI c0) := by
  refine ca_nest (ca_n A v) 0 r0 (R + 1) c0 (C + 1) (by omega) (by omega) (by omega) (by omega)
    (fun n k s => wX_count_45 post v (nI r0) (nI R) (nI C) A V K b n s (nI k))
    (fun n k m r s => wX_count_56 post (wX_count_45 post v (nI r0) (nI R) (nI C) A V K b n) v (nI r0) (nI R) (nI C) (nI k) A V K b m s (nI r)) ?_ ?_ ?_ ?_
  · intro n
    exact br_t (nI_lt (by omega) (by omega)) h
  · intro n k s h1 h2 h3
    exact br_f (nI_nlt (by omega) (by omega)) h3
  · intro n k m s h1 h2 h3
    exact br_t (nI_lt (by omega) (by omega)) (nm_r (nI_1 k) h3)
  · intro n k m r s h1 h2 h3 h4 h5
    refine br_f (nI_nlt (by omega) (by omega)) ?_
    rw [cb_rc, nI_clamp (n := r + 16 * k) (by omega)]
    refine ⟨vp_in_nI (by omega) (by decide), ?_⟩
    by_cases z : A (r + 16 * k) = v
    · rw [ca_nt z] at h5
      exact br_t z (nm_e (nm_r (nI_1 r) h5))
    · rw [ca_nf z] at h5
      exact br_f z (nm_r (nI_1 r) h5)
theorem cb_area {r0 R c0 C : Nat} (hr : r0 ≤ R) (hc : c0 ≤ C) : ((nI R - nI r0) + 1) * ((nI C - nI c0) + 1) = nI ((R + 1 - r0) * (C + 1 - c0)) := by
  rw [pk_sub hr, pk_sub hc, nI_1, nI_1, pk_mul, show R - r0 + 1 = R + 1 - r0 by omega, show C - c0 + 1 = C + 1 - c0 by omega]
theorem cx_changeL {post : Int32 → SX → Prop} {f m : Int32} (g : Int32 → Int32) (hg : ∀ x, x * f + m = g x) (A V K b : Nat → Int32) {r0 R c0 C : Nat} (hr : r0 ≤ R) (hR : R < 16) (hc : c0 ≤ C) (hC : C < 16)
    (h : post (nI ((R + 1 - r0) * (C + 1 - c0))) (ca_F (ca_B r0 (R + 1) c0 (C + 1)) (ca_ch g) A 256, V, K, b)) :
    ∃ n, wX_change_42 post f m (nI r0) (nI R) (nI c0) (nI C) n (nI c0) A V K b := by
  refine ca_nest (ca_ch g) A r0 (R + 1) c0 (C + 1) (by omega) (by omega) (by omega) (by omega)
    (fun n k s => wX_change_42 post f m (nI r0) (nI R) (nI c0) (nI C) n (nI k) s V K b)
    (fun n k m' r s => wX_change_53 post (wX_change_42 post f m (nI r0) (nI R) (nI c0) (nI C) n) f m (nI r0) (nI R) (nI c0) (nI C) (nI k) m' (nI r) s V K b) ?_ ?_ ?_ ?_
  · intro n
    rw [← cb_area hr hc] at h
    exact br_t (nI_lt (by omega) (by omega)) h
  · intro n k s h1 h2 h3
    exact br_f (nI_nlt (by omega) (by omega)) h3
  · intro n k m' s h1 h2 h3
    exact br_t (nI_lt (by omega) (by omega)) (nm_r (nI_1 k) h3)
  · intro n k m' r s h1 h2 h3 h4 h5
    refine br_f (nI_nlt (by omega) (by omega)) (nm_r (cb_rc r k) ⟨vp_in_nI (by omega) (by decide), vp_in_nI (by omega) (by decide), ?_⟩)
    refine nm_r (e' := ca_ch g (r + 16 * k) s) ?_ (nm_r (nI_1 r) h5)
    rw [nI_clamp (n := r + 16 * k) (by omega), hg]
    rfl
theorem cx_rem {post : SX → Prop} (A V K b : Nat → Int32) (h : ∀ b' : Nat → Int32, (∀ j, j < 256 → b' j = A j) → post (A, V, K, b')) : wpX_rememberPresent post (A, V, K, b) := by
  unfold wpX_rememberPresent
  dsimp only
  refine loop_0 (fun n i s => wX_rememberPresent_2 post n (nI i) A V K s) (fun i s => ∀ j, j < i → s j = A j) 256 b (fun j hj => absurd hj (Nat.not_lt_zero j)) ?_ ?_
  · intro n s hs
    exact br_t (nI_le (a := 256) (by decide) (by decide)) (h s hs)
  · intro n i s hi hs ih
    refine br_f (nI_ge (b := 256) hi (by decide)) ⟨vp_in_nI hi (by decide), vp_in_nI hi (by decide), ?_⟩
    rw [nI_clamp (n := i) (by omega)]
    refine nm_e (nm_r (nI_1 i) (ih _ ?_))
    intro j hj
    by_cases z : j = i
    · rw [z]; exact pk_us
    · rw [pk_un z]; exact hs j (by omega)
theorem cx_copyL {post : Int32 → SX → Prop} (A V K b : Nat → Int32) (hb : ∀ j, j < 256 → b j = A j) {r0 c0 ar ac rows cols : Nat} (h1 : r0 + rows ≤ 16) (h2 : c0 + cols ≤ 16) (h3 : ar + rows ≤ 16) (h4 : ac + cols ≤ 16)
    (h : post (nI (rows * cols)) (ca_F (ca_B r0 (r0 + rows) c0 (c0 + cols)) (ca_cp A r0 c0 ar ac) A 256, V, K, b)) :
    ∃ n, wX_copy_98 post (nI r0) (nI c0) (nI ar) (nI ac) (nI rows) (nI cols) n 0 A V K b := by
  have key := ca_nest (ca_cp A r0 c0 ar ac) A r0 (r0 + rows) c0 (c0 + cols) (by omega) (by omega) (by omega) (by omega)
    (fun n k s => wX_copy_98 post (nI r0) (nI c0) (nI ar) (nI ac) (nI rows) (nI cols) n (nI (k - c0)) s V K b)
    (fun n k m r s => wX_copy_108 post (wX_copy_98 post (nI r0) (nI c0) (nI ar) (nI ac) (nI rows) (nI cols) n) (nI r0) (nI c0) (nI ar) (nI ac) (nI rows) (nI cols) (nI (k - c0)) m (nI (r - r0)) s V K b) ?_ ?_ ?_ ?_
  · obtain ⟨n, hn⟩ := key
    rw [Nat.sub_self] at hn
    exact ⟨n, hn⟩
  · intro n
    rw [← pk_mul] at h
    exact br_t (nI_le (by omega) (by omega)) h
  · intro n k s z1 z2 z3
    obtain ⟨m, z3⟩ := z3
    rw [Nat.sub_self] at z3
    exact br_f (nI_ge (by omega) (by omega)) ⟨m, z3⟩
  · intro n k m s z1 z2 z3
    rw [show k + 1 - c0 = k - c0 + 1 by omega] at z3
    exact br_t (nI_le (by omega) (by omega)) (nm_r (nI_1 (k - c0)) z3)
  · intro n k m r s z1 z2 z3 z4 z5
    rw [show r + 1 - r0 = r - r0 + 1 by omega] at z5
    refine br_f (nI_ge (by omega) (by omega)) ?_
    refine nm_r (e' := nI (r + 16 * k)) ?_ (nm_r (e' := nI (ar + (r - r0) + 16 * (ac + (k - c0)))) ?_ ⟨vp_in_nI (by omega) (by decide), vp_in_nI (by omega) (by decide), ?_⟩)
    · rw [nI_add, nI_add, cb_rc, show r0 + (r - r0) = r by omega, show c0 + (k - c0) = k by omega]
    · rw [nI_add, nI_add, cb_rc]
    · refine nm_r (e' := ca_cp A r0 c0 ar ac (r + 16 * k) s) ?_ (nm_r (nI_1 (r - r0)) z5)
      rw [nI_clamp (n := r + 16 * k) (by omega), nI_clamp (n := ar + (r - r0) + 16 * (ac + (k - c0))) (by omega), hb (r + 16 * k) (by omega)]
      unfold ca_cp
      rw [show (r + 16 * k) % 16 = r by omega, show (r + 16 * k) / 16 = k by omega]
end
section
/-! Y's walks over all cells -/
theorem cy_sumL {post : Int32 → Prop} (A b V K : Nat → Int32) {p q : Nat} (hp : p < 256) (hq : q < 256) (h : post (ca_F (ca_R p q) (ca_s A) 0 256)) :
    ∃ n, wY_sum_23 post (nI p) (nI q) A b V K n 0 0 := by
  refine loop_0 (fun n i s => wY_sum_23 post (nI p) (nI q) A b V K n s (nI i)) (fun i s => s = ca_F (ca_R p q) (ca_s A) 0 i) 256 0 rfl ?_ ?_
  · rintro n s rfl
    exact br_t (nI_le (a := 256) (by decide) (by decide)) h
  · rintro n i s hi rfl ih
    refine br_f (nI_ge (b := 256) hi (by decide)) (cy_in hi hp hq (fun z => br_f cb_1 ⟨vp_in_nI hi (by decide), ?_⟩) (fun z => br_t rfl (nm_r (nI_1 i) (ih _ (ca_Ff z).symm))))
    rw [nI_clamp (n := i) (by omega)]
    exact nm_e (nm_r (nI_1 i) (ih _ (ca_Ft (st := ca_s A) (s := 0) z).symm))
theorem cy_greatestL {post : Int32 → Prop} (A b V K : Nat → Int32) (s0 : Int32) {p q : Nat} (hp : p < 256) (hq : q < 256) (h : post (ca_F (ca_R p q) (ca_g A) s0 256)) :
    ∃ n, wY_greatest_28 post (nI p) (nI q) A b V K n s0 0 := by
  refine loop_0 (fun n i s => wY_greatest_28 post (nI p) (nI q) A b V K n s (nI i)) (fun i s => s = ca_F (ca_R p q) (ca_g A) s0 i) 256 s0 rfl ?_ ?_
  · rintro n s rfl
    exact br_t (nI_le (a := 256) (by decide) (by decide)) h
  · rintro n i s hi es ih
    refine br_f (nI_ge (b := 256) hi (by decide)) (cy_in hi hp hq (fun z => br_f cb_1 ⟨vp_in_nI hi (by decide), ?_⟩) (fun z => br_t rfl (nm_r (nI_1 i) (ih _ (es.trans (ca_Ff z).symm)))))
    rw [nI_clamp (n := i) (by omega)]
    have e : ca_F (ca_R p q) (ca_g A) s0 (i + 1) = ca_g A i s := by rw [ca_Ft z, ← es]
    by_cases y : A i ≤ s
    · exact br_t y (nm_r (nI_1 i) (ih _ (by rw [e, ca_gt y])))
    · exact br_f y ⟨vp_in_nI hi (by decide), nm_e (nm_r (nI_1 i) (ih _ (by rw [e, ca_gf y])))⟩
theorem cy_countL {post : Int32 → Prop} (A b V K : Nat → Int32) (v : Int32) {p q : Nat} (hp : p < 256) (hq : q < 256) (h : post (ca_F (ca_R p q) (ca_n A v) 0 256)) :
    ∃ n, wY_count_24 post (nI p) (nI q) v A b V K n 0 0 := by
  refine loop_0 (fun n i s => wY_count_24 post (nI p) (nI q) v A b V K n s (nI i)) (fun i s => s = ca_F (ca_R p q) (ca_n A v) 0 i) 256 0 rfl ?_ ?_
  · rintro n s rfl
    exact br_t (nI_le (a := 256) (by decide) (by decide)) h
  · rintro n i s hi es ih
    refine br_f (nI_ge (b := 256) hi (by decide)) (cy_in hi hp hq (fun z => br_f cb_1 ⟨vp_in_nI hi (by decide), ?_⟩) (fun z => br_t rfl (nm_r (nI_1 i) (ih _ (es.trans (ca_Ff z).symm)))))
    rw [nI_clamp (n := i) (by omega)]
    have e : ca_F (ca_R p q) (ca_n A v) 0 (i + 1) = ca_n A v i s := by rw [ca_Ft z, ← es]
    by_cases y : A i = v
    · exact br_t y (nm_e (nm_r (nI_1 i) (ih _ (by rw [e, ca_nt y]))))
    · exact br_f y (nm_r (nI_1 i) (ih _ (by rw [e, ca_nf y])))
theorem cy_changeL {post : Int32 → SY → Prop} {kd val : Int32} (g : Int32 → Int32)
    (hk : (kd = 0 ∧ ∀ x, val = g x) ∨ (kd = 1 ∧ ∀ x, x + val = g x) ∨ (kd = 2 ∧ ∀ x, x * val = g x)) (A b V K : Nat → Int32) {p q : Nat} (hp : p < 256) (hq : q < 256)
    (h : post (nI (ca_C (ca_R p q) 256)) (ca_F (ca_R p q) (ca_ch g) A 256, b, V, K)) :
    ∃ n, wY_change_24 post kd (nI p) (nI q) val n 0 0 A b V K := by
  refine loop_0 (fun n i s => wY_change_24 post kd (nI p) (nI q) val n s.1 (nI i) s.2 b V K) (fun i s => s = (nI (ca_C (ca_R p q) i), ca_F (ca_R p q) (ca_ch g) A i)) 256 ((0 : Int32), A) rfl ?_ ?_
  · rintro n s rfl
    exact br_t (nI_le (a := 256) (by decide) (by decide)) h
  · rintro n i ⟨s1, s2⟩ hi es ih
    cases es
    have vi : vp_in (nI i) 256 := vp_in_nI hi (by decide)
    have key := ih _ rfl
    refine br_f (nI_ge (b := 256) hi (by decide)) (cy_in hi hp hq (fun z => br_f cb_1 ?_) (fun z => br_t rfl (nm_r (nI_1 i) ?_)))
    · rw [ca_Ct z, ca_Ft z] at key
      rw [nI_clamp (n := i) (by omega)]
      rcases hk with ⟨rfl, hg⟩ | ⟨rfl, hg⟩ | ⟨rfl, hg⟩
      · exact br_t rfl ⟨vi, nm_r (by rw [hg]; rfl) (nm_r (nI_1 _) (nm_r (nI_1 i) key))⟩
      · exact br_f cb_1 (br_t rfl ⟨vi, vi, nm_r (by rw [hg]; rfl) (nm_r (nI_1 _) (nm_r (nI_1 i) key))⟩)
      · exact br_f (by decide) (br_f (by decide) ⟨vi, vi, nm_r (by rw [hg]; rfl) (nm_r (nI_1 _) (nm_r (nI_1 i) key))⟩)
    · rw [ca_Cf z, ca_Ff z] at key
      exact key
/-! Y's copy -/
theorem cy_rem {post : Int32 → SY → Prop} (A V K : Nat → Int32) {x1 x2 x3 x4 x5 x6 : Int32}
    (h : ∀ b' : Nat → Int32, (∀ j, j < 256 → b' j = A j) → ∃ n, wY_copy_107 post x1 x2 x3 x4 x5 n x6 0 A b' V K) (b : Nat → Int32) :
    ∃ n, wY_copy_76 post x1 x2 x3 x4 x5 x6 n 0 A b V K := by
  refine loop_0 (fun n i s => wY_copy_76 post x1 x2 x3 x4 x5 x6 n (nI i) A s V K) (fun i s => ∀ j, j < i → s j = A j) 256 b (fun j hj => absurd hj (Nat.not_lt_zero j)) ?_ ?_
  · intro n s hs
    exact br_t (nI_le (a := 256) (by decide) (by decide)) (h s hs)
  · intro n i s hi hs ih
    refine br_f (nI_ge (b := 256) hi (by decide)) ⟨vp_in_nI hi (by decide), vp_in_nI hi (by decide), ?_⟩
    rw [nI_clamp (n := i) (by omega)]
    refine nm_e (nm_r (nI_1 i) (ih _ ?_))
    intro j hj
    by_cases z : j = i
    · rw [z]; exact pk_us
    · rw [pk_un z]; exact hs j (by omega)
theorem cy_copyL {post : Int32 → SY → Prop} (A b V K : Nat → Int32) (hb : ∀ j, j < 256 → b j = A j) {p q a : Nat} (hp : p < 256) (hq : q < 256) (ha : a < 256)
    {r0 R c0 C rows cols : Nat} (e1 : r0 = min (p % 16) (q % 16)) (e2 : R = max (p % 16) (q % 16)) (e3 : c0 = min (p / 16) (q / 16)) (e4 : C = max (p / 16) (q / 16))
    (e5 : rows = min (R - r0 + 1) (16 - a % 16)) (e6 : cols = min (C - c0 + 1) (16 - a / 16))
    (h : post (nI (ca_C (ca_B r0 (r0 + rows) c0 (c0 + cols)) 256)) (ca_F (ca_B r0 (r0 + rows) c0 (c0 + cols)) (ca_cp A r0 c0 (a % 16) (a / 16)) A 256, b, V, K)) :
    ∃ n, wY_copy_107 post (nI p) (nI q) (nI a) (nI r0) (nI c0) n 0 0 A b V K := by
  refine loop_0 (fun n i s => wY_copy_107 post (nI p) (nI q) (nI a) (nI r0) (nI c0) n s.1 (nI i) s.2 b V K)
    (fun i s => s = (nI (ca_C (ca_B r0 (r0 + rows) c0 (c0 + cols)) i), ca_F (ca_B r0 (r0 + rows) c0 (c0 + cols)) (ca_cp A r0 c0 (a % 16) (a / 16)) A i)) 256 ((0 : Int32), A) rfl ?_ ?_
  · rintro n s rfl
    exact br_t (nI_le (a := 256) (by decide) (by decide)) h
  · rintro n i ⟨s1, s2⟩ hi es ih
    cases es
    have vi : vp_in (nI i) 256 := vp_in_nI hi (by decide)
    have key := ih _ rfl
    have no : ca_B r0 (r0 + rows) c0 (c0 + cols) i = false → wY_copy_107 post (nI p) (nI q) (nI a) (nI r0) (nI c0) n (nI (ca_C (ca_B r0 (r0 + rows) c0 (c0 + cols)) i)) (nI (i + 1)) (ca_F (ca_B r0 (r0 + rows) c0 (c0 + cols)) (ca_cp A r0 c0 (a % 16) (a / 16)) A i) b V K := by
      intro z
      rw [ca_Cf z, ca_Ff z] at key
      exact key
    refine br_f (nI_ge (b := 256) hi (by decide)) ?_
    rw [cb_and hi, cb_shr hi, cb_and ha, cb_shr ha]
    intro x8 ex8 x9 ex9
    refine cy_in hi hp hq (fun z => br_f cb_1 ?_) (fun z => br_t rfl (nm_r (nI_1 i) (no ?_)))
    · have z' := of_decide_eq_true z
      rw [← e1, ← e2, ← e3, ← e4] at z'
      rw [pk_sub z'.1, nI_add] at ex8
      rw [pk_sub z'.2.2.1, nI_add] at ex9
      subst ex8 ex9
      refine pk_le 16 (i % 16 - r0 + a % 16) (fun y => nm_r (nI_1 i) (no (ca_Bf (by omega)))) (fun y => ?_)
      refine pk_le 16 (i / 16 - c0 + a / 16) (fun w => nm_r (nI_1 i) (no (ca_Bf (by omega)))) (fun w => ?_)
      have t : ca_B r0 (r0 + rows) c0 (c0 + cols) i = true := decide_eq_true ⟨by omega, by omega, by omega, by omega⟩
      rw [ca_Ct t, ca_Ft t] at key
      rw [cb_rc, nI_clamp (n := i) (by omega), nI_clamp (n := i % 16 - r0 + a % 16 + 16 * (i / 16 - c0 + a / 16)) (by omega), hb i hi]
      refine ⟨vi, vp_in_nI (by omega) (by decide), nm_r (e' := ca_cp A r0 c0 (a % 16) (a / 16) i (ca_F (ca_B r0 (r0 + rows) c0 (c0 + cols)) (ca_cp A r0 c0 (a % 16) (a / 16)) A i)) ?_ (nm_r (nI_1 _) (nm_r (nI_1 i) key))⟩
      unfold ca_cp
      rw [Nat.add_comm (i % 16 - r0), Nat.add_comm (i / 16 - c0)]
    · have z' := of_decide_eq_false z
      rw [← e1, ← e2, ← e3, ← e4] at z'
      exact ca_Bf (by omega)
end
section
/-! versions: both sides walk in one step -/
def ca_T (_ : Nat) : Bool := true
def ca_kp (A : Nat → Int32) (j c : Nat) (s : Nat → Int32) : Nat → Int32 := upd s (j * 256 + c) (A c)
def ca_rs (V : Nat → Int32) (j c : Nat) (s : Nat → Int32) : Nat → Int32 := upd s c (V (j * 256 + c))
def ca_D (A V : Nat → Int32) (j c : Nat) : Bool := decide (¬ A c = V (j * 256 + c))
theorem cx_keepL {post : Int32 → SX → Prop} (A V K b : Nat → Int32) {j : Nat} (hj : j < 4)
    (h : post 0 (A, ca_F ca_T (ca_kp A j) V 256, upd K j (vp_nar .boolean 1), b)) : ∃ n, wX_keep_24 post (nI j) n 0 A V K b := by
  refine loop_0 (fun n i s => wX_keep_24 post (nI j) n (nI i) A s K b) (fun i s => s = ca_F ca_T (ca_kp A j) V i) 256 V rfl ?_ ?_
  · rintro n s rfl
    exact br_t (nI_le (a := 256) (by decide) (by decide)) ⟨vp_in_nI hj (by decide), nm_r (by rw [nI_clamp (n := j) (by omega)]) h⟩
  · rintro n i s hi rfl ih
    refine br_f (nI_ge (b := 256) hi (by decide)) ?_
    rw [cb_vc, nI_clamp (n := i) (by omega), nI_clamp (n := j * 256 + i) (by omega)]
    exact ⟨vp_in_nI hi (by decide), vp_in_nI (by omega) (by decide), nm_e (nm_r (nI_1 i) (ih _ rfl))⟩
theorem cy_keepL {post : Int32 → SY → Prop} (A b V K : Nat → Int32) {j : Nat} (hj : j < 4)
    (h : post 0 (A, b, ca_F ca_T (ca_kp A j) V 256, K)) : ∃ n, wY_keep_33 post (nI j) n 0 A b V K := by
  refine loop_0 (fun n i s => wY_keep_33 post (nI j) n (nI i) A b s K) (fun i s => s = ca_F ca_T (ca_kp A j) V i) 256 V rfl ?_ ?_
  · rintro n s rfl
    exact br_t (nI_le (a := 256) (by decide) (by decide)) h
  · rintro n i s hi rfl ih
    refine br_f (nI_ge (b := 256) hi (by decide)) ?_
    rw [cb_vc, nI_clamp (n := i) (by omega), nI_clamp (n := j * 256 + i) (by omega)]
    exact ⟨vp_in_nI hi (by decide), vp_in_nI (by omega) (by decide), nm_e (nm_r (nI_1 i) (ih _ rfl))⟩
theorem cx_diff {post : Int32 → Prop} (A V K b : Nat → Int32) {j : Nat} (hj : j < 4) (h : post (nI (ca_C (ca_D A V j) 256))) : wpX_differences post (A, V, K, b) (nI j) := by
  unfold wpX_differences
  dsimp only
  refine loop_0 (fun n i s => wX_differences_4 post (nI j) A V K b n s (nI i)) (fun i s => s = nI (ca_C (ca_D A V j) i)) 256 0 rfl ?_ ?_
  · rintro n s rfl
    exact br_t (nI_le (a := 256) (by decide) (by decide)) h
  · rintro n i s hi es ih
    refine br_f (nI_ge (b := 256) hi (by decide)) ?_
    rw [cb_vc, nI_clamp (n := i) (by omega), nI_clamp (n := j * 256 + i) (by omega)]
    refine ⟨vp_in_nI hi (by decide), vp_in_nI (by omega) (by decide), ?_⟩
    by_cases z : A i = V (j * 256 + i)
    · exact br_t z (nm_r (nI_1 i) (ih _ (by rw [ca_Cf (decide_eq_false (fun y => y z)), es])))
    · exact br_f z (nm_e (nm_r (nI_1 i) (ih _ (by rw [ca_Ct (decide_eq_true z), es, nI_1]))))
theorem cy_diffL {post : Int32 → Prop} (A b V K : Nat → Int32) {j : Nat} (hj : j < 4) (h : post (nI (ca_C (ca_D A V j) 256))) : ∃ n, wY_differ_15 post (nI j) A b V K n 0 0 := by
  refine loop_0 (fun n i s => wY_differ_15 post (nI j) A b V K n s (nI i)) (fun i s => s = nI (ca_C (ca_D A V j) i)) 256 0 rfl ?_ ?_
  · rintro n s rfl
    exact br_t (nI_le (a := 256) (by decide) (by decide)) h
  · rintro n i s hi es ih
    refine br_f (nI_ge (b := 256) hi (by decide)) ?_
    rw [cb_vc, nI_clamp (n := i) (by omega), nI_clamp (n := j * 256 + i) (by omega)]
    refine ⟨vp_in_nI hi (by decide), vp_in_nI (by omega) (by decide), ?_⟩
    by_cases z : A i = V (j * 256 + i)
    · exact br_t z (nm_r (nI_1 i) (ih _ (by rw [ca_Cf (decide_eq_false (fun y => y z)), es])))
    · exact br_f z (nm_e (nm_r (nI_1 i) (ih _ (by rw [ca_Ct (decide_eq_true z), es, nI_1]))))
theorem cy_diff1 {post : Int32 → Prop} (A b V K : Nat → Int32) {j : Nat} (hj : j < 4) (hk : ¬ K j = 0) (h : post (nI (ca_C (ca_D A V j) 256))) : wpY_differ post (A, b, V, K) (nI j) := by
  unfold wpY_differ
  dsimp only
  exact cy_kept1 hj hk (br_f cb_1 (cy_diffL A b V K hj h))
theorem cy_diff0 {post : Int32 → Prop} {A b V K : Nat → Int32} {v : Int32} (hv : cb_none K v) (h : post (-2)) : wpY_differ post (A, b, V, K) v := by
  unfold wpY_differ
  dsimp only
  exact cy_kept0 hv (br_t rfl h)
theorem cx_restL {post : Int32 → SX → Prop} (A V K b : Nat → Int32) (x : Int32) {j : Nat} (hj : j < 4)
    (h : post x (ca_F ca_T (ca_rs V j) A 256, V, K, b)) : ∃ n, wX_restore_19 post (nI j) x n 0 A V K b := by
  refine loop_0 (fun n i s => wX_restore_19 post (nI j) x n (nI i) s V K b) (fun i s => s = ca_F ca_T (ca_rs V j) A i) 256 A rfl ?_ ?_
  · rintro n s rfl
    exact br_t (nI_le (a := 256) (by decide) (by decide)) h
  · rintro n i s hi rfl ih
    refine br_f (nI_ge (b := 256) hi (by decide)) ?_
    rw [cb_vc, nI_clamp (n := i) (by omega), nI_clamp (n := j * 256 + i) (by omega)]
    exact ⟨vp_in_nI (by omega) (by decide), vp_in_nI hi (by decide), nm_e (nm_r (nI_1 i) (ih _ rfl))⟩
theorem cy_restL {post : Int32 → SY → Prop} (A b V K : Nat → Int32) {x : Int32} (hx : ¬ x < 0) {j : Nat} (hj : j < 4)
    (h : post x (ca_F ca_T (ca_rs V j) A 256, b, V, K)) : ∃ n, wY_restore_8 post (nI j) x n 0 A b V K := by
  refine loop_0 (fun n i s => wY_restore_8 post (nI j) x n (nI i) s b V K) (fun i s => s = ca_F ca_T (ca_rs V j) A i) 256 A rfl ?_ ?_
  · rintro n s rfl
    exact br_t (nI_le (a := 256) (by decide) (by decide)) h
  · rintro n i s hi rfl ih
    refine br_f (nI_ge (b := 256) hi (by decide)) (br_f hx ?_)
    rw [cb_vc, nI_clamp (n := i) (by omega), nI_clamp (n := j * 256 + i) (by omega)]
    exact ⟨vp_in_nI (by omega) (by decide), vp_in_nI hi (by decide), nm_e (nm_r (nI_1 i) (ih _ rfl))⟩
end
section
/-! the methods that read or change a region -/
theorem cx_change1 {post : Int32 → SX → Prop} {f m : Int32} (g : Int32 → Int32) (hg : ∀ x, x * f + m = g x) (A V K b : Nat → Int32) {p q : Nat} (hp : p < 256) (hq : q < 256)
    (h : post (nI (ca_C (ca_R p q) 256)) (ca_F (ca_R p q) (ca_ch g) A 256, V, K, b)) : wpX_change post (A, V, K, b) (nI p) (nI q) f m := by
  unfold wpX_change
  dsimp only
  refine cx_open hp hq (fun r0 R c0 C e1 e2 e3 e4 => ?_)
  have e : ca_R p q = ca_B r0 (R + 1) c0 (C + 1) := by rw [e1, e2, e3, e4]; rfl
  rw [e, ca_cnt (by omega) (by omega) (by omega) (by omega)] at h
  exact cx_changeL g hg A V K b (by omega) (by omega) (by omega) (by omega) h
theorem cx_change0 {post : Int32 → SX → Prop} {f m : Int32} {A V K b : Nat → Int32} {v1 v2 : Int32} (hv : cb_bad v1 ∨ cb_bad v2) (h : post (-1) (A, V, K, b)) : wpX_change post (A, V, K, b) v1 v2 f m := by
  unfold wpX_change
  dsimp only
  exact cx_reg0 hv (br_t rfl h)
theorem cy_change1 {post : Int32 → SY → Prop} {kd val : Int32} (g : Int32 → Int32)
    (hk : (kd = 0 ∧ ∀ x, val = g x) ∨ (kd = 1 ∧ ∀ x, x + val = g x) ∨ (kd = 2 ∧ ∀ x, x * val = g x)) (A b V K : Nat → Int32) {p q : Nat} (hp : p < 256) (hq : q < 256)
    (h : post (nI (ca_C (ca_R p q) 256)) (ca_F (ca_R p q) (ca_ch g) A 256, b, V, K)) : wpY_change post (A, b, V, K) kd (nI p) (nI q) val := by
  unfold wpY_change
  dsimp only
  exact cy_reg1 hp hq (cy_changeL g hk A b V K hp hq h)
theorem cy_change0 {post : Int32 → SY → Prop} {kd val : Int32} {A b V K : Nat → Int32} {v1 v2 : Int32} (hv : cb_bad v1 ∨ cb_bad v2) (h : post (-1) (A, b, V, K)) : wpY_change post (A, b, V, K) kd v1 v2 val := by
  unfold wpY_change
  dsimp only
  exact cy_reg0 hv h
theorem cx_sum1 {post : Int32 → Prop} (A V K b : Nat → Int32) {p q : Nat} (hp : p < 256) (hq : q < 256) (h : post (ca_F (ca_R p q) (ca_s A) 0 256)) : wpX_sum post (A, V, K, b) (nI p) (nI q) := by
  unfold wpX_sum
  dsimp only
  refine cx_open hp hq (fun r0 R c0 C e1 e2 e3 e4 => ?_)
  have e : ca_R p q = ca_B r0 (R + 1) c0 (C + 1) := by rw [e1, e2, e3, e4]; rfl
  rw [e] at h
  exact cx_sumL A V K b (by omega) (by omega) (by omega) (by omega) h
theorem cx_count1 {post : Int32 → Prop} (A V K b : Nat → Int32) (v : Int32) {p q : Nat} (hp : p < 256) (hq : q < 256) (h : post (ca_F (ca_R p q) (ca_n A v) 0 256)) : wpX_count post (A, V, K, b) (nI p) (nI q) v := by
  unfold wpX_count
  dsimp only
  refine cx_open hp hq (fun r0 R c0 C e1 e2 e3 e4 => ?_)
  have e : ca_R p q = ca_B r0 (R + 1) c0 (C + 1) := by rw [e1, e2, e3, e4]; rfl
  rw [e] at h
  exact cx_countL A V K b v (by omega) (by omega) (by omega) (by omega) h
theorem cx_greatest1 {post : Int32 → Prop} (A V K b : Nat → Int32) {p q : Nat} (hp : p < 256) (hq : q < 256) (h : post (ca_F (ca_R p q) (ca_g A) (A p) 256)) : wpX_greatest post (A, V, K, b) (nI p) (nI q) := by
  unfold wpX_greatest
  dsimp only
  refine cx_open hp hq (fun r0 R c0 C e1 e2 e3 e4 => ?_)
  have e : ca_R p q = ca_B r0 (R + 1) c0 (C + 1) := by rw [e1, e2, e3, e4]; rfl
  rw [e] at h
  exact ⟨vp_in_nI hp (by decide), nm_r (by rw [nI_clamp (n := p) (by omega)]) (cx_greatestL A V K b (A p) (by omega) (by omega) (by omega) (by omega) h)⟩
theorem cx_copy1 {post : Int32 → SX → Prop} (A V K b : Nat → Int32) {p q a : Nat} (hp : p < 256) (hq : q < 256) (ha : a < 256)
    (h : ∀ r0 R c0 C rows cols : Nat, r0 = min (p % 16) (q % 16) → R = max (p % 16) (q % 16) → c0 = min (p / 16) (q / 16) → C = max (p / 16) (q / 16) →
      rows = min (R - r0 + 1) (16 - a % 16) → cols = min (C - c0 + 1) (16 - a / 16) → ∀ b' : Nat → Int32,
      post (nI (ca_C (ca_B r0 (r0 + rows) c0 (c0 + cols)) 256)) (ca_F (ca_B r0 (r0 + rows) c0 (c0 + cols)) (ca_cp A r0 c0 (a % 16) (a / 16)) A 256, V, K, b')) :
    wpX_copy post (A, V, K, b) (nI p) (nI q) (nI a) := by
  unfold wpX_copy
  dsimp only
  refine cx_reg1 hp hq (br_f cb_1 (cx_cell1 ha (br_f cb_1 (cx_corners hp hq (fun r0 R c0 C e1 e2 e3 e4 => ?_)))))
  refine ⟨cb_16, nm_r (cb_rem ha) ⟨cb_16, nm_r (cb_div ha) ?_⟩⟩
  rw [pk_sub (a := R) (b := r0) (by omega), pk_sub (a := C) (b := c0) (by omega), nI_1, nI_1,
    show (16 : Int32) - nI (a % 16) = nI (16 - a % 16) from pk_sub (a := 16) (by omega), show (16 : Int32) - nI (a / 16) = nI (16 - a / 16) from pk_sub (a := 16) (by omega)]
  refine cx_smaller (by omega) (by omega) (cx_smaller (by omega) (by omega) (cx_rem A V K b (fun b' hb => ?_)))
  have h' := h r0 R c0 C _ _ e1 e2 e3 e4 rfl rfl b'
  rw [ca_cnt (by omega) (by omega) (by omega) (by omega), Nat.add_sub_cancel_left, Nat.add_sub_cancel_left] at h'
  exact cx_copyL A V K b' hb (by omega) (by omega) (by omega) (by omega) h'
theorem cy_copy1 {post : Int32 → SY → Prop} (A b V K : Nat → Int32) {p q a : Nat} (hp : p < 256) (hq : q < 256) (ha : a < 256)
    {r0 R c0 C rows cols : Nat} (e1 : r0 = min (p % 16) (q % 16)) (e2 : R = max (p % 16) (q % 16)) (e3 : c0 = min (p / 16) (q / 16)) (e4 : C = max (p / 16) (q / 16))
    (e5 : rows = min (R - r0 + 1) (16 - a % 16)) (e6 : cols = min (C - c0 + 1) (16 - a / 16))
    (h : ∀ b' : Nat → Int32, post (nI (ca_C (ca_B r0 (r0 + rows) c0 (c0 + cols)) 256)) (ca_F (ca_B r0 (r0 + rows) c0 (c0 + cols)) (ca_cp A r0 c0 (a % 16) (a / 16)) A 256, b', V, K)) :
    wpY_copy post (A, b, V, K) (nI p) (nI q) (nI a) := by
  have m : ∃ n, wY_copy_76 post (nI p) (nI q) (nI a) (nI r0) (nI c0) 0 n 0 A b V K :=
    cy_rem A V K (fun b' hb => cy_copyL A b' V K hb hp hq ha e1 e2 e3 e4 e5 e6 (h b')) b
  have m2 : wY_copy_48 post (nI p) (nI q) (nI a) (nI r0) A b V K := by
    unfold wY_copy_48
    rw [cb_shr hp, cb_shr hq]
    refine pk_le (q / 16) (p / 16) (fun y => nm_r (e' := nI c0) ?_ m) (fun y => nm_r (e' := nI c0) ?_ m)
    · rw [e3, Nat.min_eq_right y]
    · rw [e3, Nat.min_eq_left (Nat.le_of_lt y)]
  unfold wpY_copy
  dsimp only
  refine cy_cell1 hp (br_f cb_1 (cy_cell1 hq (br_f cb_1 (cy_cell1 ha (br_f cb_1 ?_)))))
  rw [cb_and hp, cb_and hq]
  refine pk_le (q % 16) (p % 16) (fun y => ?_) (fun y => ?_)
  · rwa [e1, Nat.min_eq_right y] at m2
  · rwa [e1, Nat.min_eq_left (Nat.le_of_lt y)] at m2
end
section
/-- the same array, the same versions, the same marks; what either side keeps as a scratch array for copy is free -/
def i_Rel (k : Nat) (u : SX) (v : SY) : Prop := ∃ A V K b b' : Nat → Int32, u = (A, V, K, b) ∧ v = (A, b', V, K)
theorem i_up {k : Nat} {u : SX} {v : SY} (h : i_Rel k u v) : i_Rel (k + 4) u v := h
theorem i_vc0 : wpX_init (fun u => wpY_init (fun v => i_Rel 0 u v)) := ⟨_, _, _, _, _, rfl, rfl⟩
theorem i_vc_fill {k : Nat} {u : SX} {v : SY} (I : i_Rel k u v) (hk : k + 4 ≤ 2048) (v1 : Int32) (v2 : Int32) (v3 : Int32) : wpX_fill (fun r u' => wpY_fill (fun r' v' => r' = r ∧ i_Rel (k + 4) u' v') v v1 v2 v3) u v1 v2 v3 := by
  obtain ⟨A, V, K, b, b', rfl, rfl⟩ := I
  unfold wpX_fill
  dsimp only
  rcases cb_two v1 v2 with hb | ⟨p, q, hp, hq, rfl, rfl⟩
  · refine cx_change0 hb ?_
    dsimp only
    unfold wpY_fill
    dsimp only
    exact cy_change0 hb ⟨rfl, A, V, K, b, b', rfl, rfl⟩
  · refine cx_change1 (fun _ => v3) (fun x => by rw [Int32.mul_zero, Int32.zero_add]) A V K b hp hq ?_
    dsimp only
    unfold wpY_fill
    dsimp only
    exact cy_change1 (fun _ => v3) (Or.inl ⟨rfl, fun _ => rfl⟩) A b' V K hp hq ⟨rfl, _, V, K, b, b', rfl, rfl⟩
theorem i_vc_add {k : Nat} {u : SX} {v : SY} (I : i_Rel k u v) (hk : k + 4 ≤ 2048) (v1 : Int32) (v2 : Int32) (v3 : Int32) : wpX_add (fun r u' => wpY_add (fun r' v' => r' = r ∧ i_Rel (k + 4) u' v') v v1 v2 v3) u v1 v2 v3 := by
  obtain ⟨A, V, K, b, b', rfl, rfl⟩ := I
  unfold wpX_add
  dsimp only
  rcases cb_two v1 v2 with hb | ⟨p, q, hp, hq, rfl, rfl⟩
  · refine cx_change0 hb ?_
    dsimp only
    unfold wpY_add
    dsimp only
    exact cy_change0 hb ⟨rfl, A, V, K, b, b', rfl, rfl⟩
  · refine cx_change1 (fun x => x + v3) (fun x => by rw [Int32.mul_one]) A V K b hp hq ?_
    dsimp only
    unfold wpY_add
    dsimp only
    exact cy_change1 (fun x => x + v3) (Or.inr (Or.inl ⟨rfl, fun _ => rfl⟩)) A b' V K hp hq ⟨rfl, _, V, K, b, b', rfl, rfl⟩
theorem i_vc_scale {k : Nat} {u : SX} {v : SY} (I : i_Rel k u v) (hk : k + 4 ≤ 2048) (v1 : Int32) (v2 : Int32) (v3 : Int32) : wpX_scale (fun r u' => wpY_scale (fun r' v' => r' = r ∧ i_Rel (k + 4) u' v') v v1 v2 v3) u v1 v2 v3 := by
  obtain ⟨A, V, K, b, b', rfl, rfl⟩ := I
  unfold wpX_scale
  dsimp only
  rcases cb_two v1 v2 with hb | ⟨p, q, hp, hq, rfl, rfl⟩
  · refine cx_change0 hb ?_
    dsimp only
    unfold wpY_scale
    dsimp only
    exact cy_change0 hb ⟨rfl, A, V, K, b, b', rfl, rfl⟩
  · refine cx_change1 (fun x => x * v3) (fun x => by rw [Int32.add_zero]) A V K b hp hq ?_
    dsimp only
    unfold wpY_scale
    dsimp only
    exact cy_change1 (fun x => x * v3) (Or.inr (Or.inr ⟨rfl, fun _ => rfl⟩)) A b' V K hp hq ⟨rfl, _, V, K, b, b', rfl, rfl⟩
theorem i_vc_copy {k : Nat} {u : SX} {v : SY} (I : i_Rel k u v) (hk : k + 4 ≤ 2048) (v1 : Int32) (v2 : Int32) (v3 : Int32) : wpX_copy (fun r u' => wpY_copy (fun r' v' => r' = r ∧ i_Rel (k + 4) u' v') v v1 v2 v3) u v1 v2 v3 := by
  obtain ⟨A, V, K, b, b', rfl, rfl⟩ := I
  rcases cb_two v1 v2 with hb | ⟨p, q, hp, hq, rfl, rfl⟩
  · unfold wpX_copy
    dsimp only
    refine cx_reg0 hb (br_t rfl ?_)
    unfold wpY_copy
    dsimp only
    exact cy_reg0 hb ⟨rfl, A, V, K, b, b', rfl, rfl⟩
  · rcases cb_cell v3 with hb | ⟨a, ha, rfl⟩
    · unfold wpX_copy
      dsimp only
      refine cx_reg1 hp hq (br_f cb_1 (cx_cell0 hb (br_t rfl ?_)))
      unfold wpY_copy
      dsimp only
      exact cy_cell1 hp (br_f cb_1 (cy_cell1 hq (br_f cb_1 (cy_cell0 hb (br_t rfl ⟨rfl, A, V, K, b, b', rfl, rfl⟩)))))
    · exact cx_copy1 A V K b hp hq ha (fun r0 R c0 C rows cols e1 e2 e3 e4 e5 e6 c => cy_copy1 A b' V K hp hq ha e1 e2 e3 e4 e5 e6 (fun c' => ⟨rfl, _, V, K, c, c', rfl, rfl⟩))
theorem i_vc_keep {k : Nat} {u : SX} {v : SY} (I : i_Rel k u v) (hk : k + 4 ≤ 2048) (v1 : Int32) : wpX_keep (fun r u' => wpY_keep (fun r' v' => r' = r ∧ i_Rel (k + 4) u' v') v v1) u v1 := by
  obtain ⟨A, V, K, b, b', rfl, rfl⟩ := I
  unfold wpX_keep
  dsimp only
  rcases cb_ver v1 with hb | ⟨j, hj, rfl⟩
  · refine cx_ver0 hb (br_t rfl ?_)
    unfold wpY_keep
    dsimp only
    rcases hb with hb | ⟨m, h1, h2, rfl⟩
    · exact br_t hb ⟨rfl, A, V, K, b, b', rfl, rfl⟩
    · exact br_f (nI_pos h2) (br_f (nI_ge (a := 3) h1 h2) ⟨rfl, A, V, K, b, b', rfl, rfl⟩)
  · refine cx_ver1 hj (br_f cb_1 ⟨vp_in_nI hj (by decide), ?_⟩)
    rw [cb_at (K := K) hj]
    by_cases z : K j = 0
    · refine br_t z (cx_keepL A V K b hj ?_)
      unfold wpY_keep
      dsimp only
      refine br_f (nI_pos (by omega)) (br_t (nI_le (b := 3) (by omega) (by decide)) ⟨vp_in_nI hj (by decide), ?_⟩)
      rw [cb_at (K := K) hj, nI_clamp (n := j) (by omega)]
      exact br_t z ⟨vp_in_nI hj (by decide), nm_e (cy_keepL A b' V _ hj ⟨rfl, A, _, _, b, b', rfl, rfl⟩)⟩
    · refine br_f z ?_
      unfold wpY_keep
      dsimp only
      refine br_f (nI_pos (by omega)) (br_t (nI_le (b := 3) (by omega) (by decide)) ⟨vp_in_nI hj (by decide), ?_⟩)
      rw [cb_at (K := K) hj]
      exact br_f z ⟨rfl, A, V, K, b, b', rfl, rfl⟩
theorem i_vc_restore {k : Nat} {u : SX} {v : SY} (I : i_Rel k u v) (hk : k + 4 ≤ 2048) (v1 : Int32) : wpX_restore (fun r u' => wpY_restore (fun r' v' => r' = r ∧ i_Rel (k + 4) u' v') v v1) u v1 := by
  obtain ⟨A, V, K, b, b', rfl, rfl⟩ := I
  unfold wpX_restore
  dsimp only
  rcases cb_vcase K v1 with hb | ⟨j, hj, rfl, hk⟩
  · refine cx_kept0 hb (br_t rfl ?_)
    unfold wpY_restore
    dsimp only
    exact cy_diff0 hb ⟨1, br_f (by decide) (br_t (by decide) ⟨rfl, A, V, K, b, b', rfl, rfl⟩)⟩
  · refine cx_kept1 hj hk (br_f cb_1 (cx_diff A V K b hj (cx_restL A V K b _ hj ?_)))
    unfold wpY_restore
    dsimp only
    have hc : ca_C (ca_D A V j) 256 ≤ 256 := ca_Cle _ _
    exact cy_diff1 A b' V K hj hk (cy_restL A b' V K (nI_pos (by omega)) hj ⟨rfl, _, V, K, b, b', rfl, rfl⟩)
theorem i_vc_drop {k : Nat} {u : SX} {v : SY} (I : i_Rel k u v) (hk : k + 4 ≤ 2048) (v1 : Int32) : wpX_drop (fun r u' => wpY_drop (fun r' v' => r' = r ∧ i_Rel (k + 4) u' v') v v1) u v1 := by
  obtain ⟨A, V, K, b, b', rfl, rfl⟩ := I
  unfold wpX_drop
  dsimp only
  rcases cb_vcase K v1 with hb | ⟨j, hj, rfl, hk'⟩
  · refine cx_kept0 hb (br_t rfl ?_)
    unfold wpY_drop
    dsimp only
    exact cy_kept0 hb (br_t rfl ⟨rfl, A, V, K, b, b', rfl, rfl⟩)
  · refine cx_kept1 hj hk' (br_f cb_1 ⟨vp_in_nI hj (by decide), nm_e ?_⟩)
    unfold wpY_drop
    dsimp only
    exact cy_kept1 hj hk' (br_f cb_1 ⟨vp_in_nI hj (by decide), nm_e ⟨rfl, A, V, _, b, b', rfl, rfl⟩⟩)
theorem i_vc_get {k : Nat} {u : SX} {v : SY} (I : i_Rel k u v) (hk : k + 4 ≤ 2048) (v1 : Int32) : wpX_get (fun r => wpY_get (fun r' => r' = r ∧ i_Rel (k + 4) u v) v v1) u v1 := by
  obtain ⟨A, V, K, b, b', rfl, rfl⟩ := I
  unfold wpX_get
  dsimp only
  rcases cb_cell v1 with hb | ⟨p, hp, rfl⟩
  · refine cx_cell0 hb (br_t rfl ?_)
    unfold wpY_get
    dsimp only
    exact cy_cell0 hb (br_t rfl ⟨rfl, A, V, K, b, b', rfl, rfl⟩)
  · refine cx_cell1 hp (br_f cb_1 ⟨vp_in_nI hp (by decide), ?_⟩)
    unfold wpY_get
    dsimp only
    exact cy_cell1 hp (br_f cb_1 ⟨vp_in_nI hp (by decide), ⟨rfl, A, V, K, b, b', rfl, rfl⟩⟩)
theorem i_vc_getOf {k : Nat} {u : SX} {v : SY} (I : i_Rel k u v) (hk : k + 4 ≤ 2048) (v1 : Int32) (v2 : Int32) : wpX_getOf (fun r => wpY_getOf (fun r' => r' = r ∧ i_Rel (k + 4) u v) v v1 v2) u v1 v2 := by
  obtain ⟨A, V, K, b, b', rfl, rfl⟩ := I
  unfold wpX_getOf
  dsimp only
  rcases cb_cell v2 with hb | ⟨p, hp, rfl⟩
  · refine cx_cell0 hb (br_t rfl ?_)
    unfold wpY_getOf
    dsimp only
    exact cy_cell0 hb (br_t rfl ⟨rfl, A, V, K, b, b', rfl, rfl⟩)
  · refine cx_cell1 hp (br_f cb_1 ?_)
    rcases cb_vcase K v1 with hb | ⟨j, hj, rfl, hk'⟩
    · refine cx_kept0 hb (br_t rfl ?_)
      unfold wpY_getOf
      dsimp only
      exact cy_cell1 hp (br_f cb_1 (cy_kept0 hb (br_t rfl ⟨rfl, A, V, K, b, b', rfl, rfl⟩)))
    · have vi : vp_in (nI j * 256 + nI p) 1024 := by
        rw [cb_vc]
        exact vp_in_nI (by omega) (by decide)
      refine cx_kept1 hj hk' (br_f cb_1 ⟨vi, ?_⟩)
      unfold wpY_getOf
      dsimp only
      exact cy_cell1 hp (br_f cb_1 (cy_kept1 hj hk' (br_f cb_1 ⟨vi, ⟨rfl, A, V, K, b, b', rfl, rfl⟩⟩)))
theorem i_vc_sum {k : Nat} {u : SX} {v : SY} (I : i_Rel k u v) (hk : k + 4 ≤ 2048) (v1 : Int32) (v2 : Int32) : wpX_sum (fun r => wpY_sum (fun r' => r' = r ∧ i_Rel (k + 4) u v) v v1 v2) u v1 v2 := by
  obtain ⟨A, V, K, b, b', rfl, rfl⟩ := I
  rcases cb_two v1 v2 with hb | ⟨p, q, hp, hq, rfl, rfl⟩
  · unfold wpX_sum
    dsimp only
    refine cx_reg0 hb (br_t rfl ?_)
    unfold wpY_sum
    dsimp only
    exact cy_reg0 hb ⟨rfl, A, V, K, b, b', rfl, rfl⟩
  · refine cx_sum1 A V K b hp hq ?_
    unfold wpY_sum
    dsimp only
    exact cy_reg1 hp hq (cy_sumL A b' V K hp hq ⟨rfl, A, V, K, b, b', rfl, rfl⟩)
theorem i_vc_greatest {k : Nat} {u : SX} {v : SY} (I : i_Rel k u v) (hk : k + 4 ≤ 2048) (v1 : Int32) (v2 : Int32) : wpX_greatest (fun r => wpY_greatest (fun r' => r' = r ∧ i_Rel (k + 4) u v) v v1 v2) u v1 v2 := by
  obtain ⟨A, V, K, b, b', rfl, rfl⟩ := I
  rcases cb_two v1 v2 with hb | ⟨p, q, hp, hq, rfl, rfl⟩
  · unfold wpX_greatest
    dsimp only
    refine cx_reg0 hb (br_t rfl ?_)
    unfold wpY_greatest
    dsimp only
    exact cy_reg0 hb ⟨rfl, A, V, K, b, b', rfl, rfl⟩
  · refine cx_greatest1 A V K b hp hq ?_
    unfold wpY_greatest
    dsimp only
    exact cy_reg1 hp hq ⟨vp_in_nI hp (by decide), nm_r (by rw [nI_clamp (n := p) (by omega)]) (cy_greatestL A b' V K (A p) hp hq ⟨rfl, A, V, K, b, b', rfl, rfl⟩)⟩
theorem i_vc_differ {k : Nat} {u : SX} {v : SY} (I : i_Rel k u v) (hk : k + 4 ≤ 2048) (v1 : Int32) : wpX_differ (fun r => wpY_differ (fun r' => r' = r ∧ i_Rel (k + 4) u v) v v1) u v1 := by
  obtain ⟨A, V, K, b, b', rfl, rfl⟩ := I
  unfold wpX_differ
  dsimp only
  rcases cb_vcase K v1 with hb | ⟨j, hj, rfl, hk'⟩
  · exact cx_kept0 hb (br_t rfl (cy_diff0 hb ⟨rfl, A, V, K, b, b', rfl, rfl⟩))
  · exact cx_kept1 hj hk' (br_f cb_1 (cx_diff A V K b hj (cy_diff1 A b' V K hj hk' ⟨rfl, A, V, K, b, b', rfl, rfl⟩)))
theorem i_vc_count {k : Nat} {u : SX} {v : SY} (I : i_Rel k u v) (hk : k + 4 ≤ 2048) (v1 : Int32) (v2 : Int32) (v3 : Int32) : wpX_count (fun r => wpY_count (fun r' => r' = r ∧ i_Rel (k + 4) u v) v v1 v2 v3) u v1 v2 v3 := by
  obtain ⟨A, V, K, b, b', rfl, rfl⟩ := I
  rcases cb_two v1 v2 with hb | ⟨p, q, hp, hq, rfl, rfl⟩
  · unfold wpX_count
    dsimp only
    refine cx_reg0 hb (br_t rfl ?_)
    unfold wpY_count
    dsimp only
    exact cy_reg0 hb ⟨rfl, A, V, K, b, b', rfl, rfl⟩
  · refine cx_count1 A V K b v3 hp hq ?_
    unfold wpY_count
    dsimp only
    exact cy_reg1 hp hq (cy_countL A b' V K v3 hp hq ⟨rfl, A, V, K, b, b', rfl, rfl⟩)
end
