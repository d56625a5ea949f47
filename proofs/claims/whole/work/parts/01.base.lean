section
theorem pk_us {f : Nat → Int32} {k : Nat} {x : Int32} : upd f k x k = x := if_pos rfl
theorem pk_un {f : Nat → Int32} {k j : Nat} {x : Int32} (h : j ≠ k) : upd f k x j = f j := if_neg h
theorem pk_sub {a b : Nat} (h : b ≤ a) : nI a - nI b = nI (a - b) := by
  obtain ⟨c, rfl⟩ : ∃ c, a = c + b := ⟨a - b, by omega⟩
  rw [← nI_add, Int32.add_sub_cancel, Nat.add_sub_cancel]
theorem pk_m1 (n : Nat) : nI (n + 1) + (-1) = nI n := by
  rw [← nI_1, Int32.add_assoc, show (1 : Int32) + (-1) = 0 from rfl, Int32.add_zero]
theorem pk_mul (a b : Nat) : nI a * nI b = nI (a * b) := (Int32.ofNat_mul a b).symm
theorem pk_div {a d : Nat} (ha : a < 2 ^ 31) (h0 : 0 < d) (hd : d < 2 ^ 31) : nI a / nI d = nI (a / d) := by
  apply Int32.toInt_inj.mp
  rw [lg_idiv_nonneg (by rw [nI_toInt ha]; omega) (by rw [nI_toInt hd]; omega), nI_toInt ha, nI_toInt hd, nI_toInt (Nat.lt_of_le_of_lt (Nat.div_le_self a d) ha)]
  first | rfl | exact (Int.natCast_ediv _ _).symm
theorem pk_rem {a d : Nat} (ha : a < 2 ^ 31) (h0 : 0 < d) (hd : d < 2 ^ 31) : nI a - nI a / nI d * nI d = nI (a % d) := by
  rw [pk_div ha h0 hd, pk_mul, pk_sub (Nat.div_mul_le_self a d)]
  exact congrArg nI (by have := Nat.div_add_mod' a d; omega)
theorem pk_le {x y : Int32} {A B : Prop} (a b : Nat) (f : a ≤ b → A) (g : b < a → B) (hx : x = nI a := by rfl) (hy : y = nI b := by rfl) (ha : a < 2 ^ 31 := by omega) (hb : b < 2 ^ 31 := by omega) : (x ≤ y → A) ∧ (¬ x ≤ y → B) := by
  subst hx hy
  rw [nI_leI ha hb]
  exact ⟨f, fun z => g (by omega)⟩
theorem pk_lt {x y : Int32} {A B : Prop} (a b : Nat) (f : a < b → A) (g : b ≤ a → B) (hx : x = nI a := by rfl) (hy : y = nI b := by rfl) (ha : a < 2 ^ 31 := by omega) (hb : b < 2 ^ 31 := by omega) : (x < y → A) ∧ (¬ x < y → B) := by
  subst hx hy
  rw [nI_ltI ha hb]
  exact ⟨f, fun z => g (by omega)⟩
theorem pk_eq {x y : Int32} {A B : Prop} (a b : Nat) (f : a = b → A) (g : a ≠ b → B) (hx : x = nI a := by rfl) (hy : y = nI b := by rfl) (ha : a < 2 ^ 31 := by omega) (hb : b < 2 ^ 31 := by omega) : (x = y → A) ∧ (¬ x = y → B) := by
  subst hx hy
  rw [nI_eq ha hb]
  exact ⟨f, g⟩
theorem pk_in {x : Int32} (n N : Nat) (h : n < N) (hx : x = nI n := by rfl) (hN : N < 2 ^ 31 := by omega) : vp_in x N := by
  subst hx
  exact vp_in_nI h hN
theorem pk_cl {x : Int32} (n : Nat) (hx : x = nI n := by rfl) (h : n < 2 ^ 31 := by omega) : x.toNatClampNeg = n := by
  subst hx
  exact nI_clamp h
theorem pk_loop {σ : Type} (W : Nat → Nat → σ → Prop) (I : Nat → σ → Prop) (e i0 : Nat) (s : σ) (hi : i0 ≤ e) (h0 : I i0 s) (hx : ∀ n s, I e s → W (n + 1) e s)
    (hs : ∀ n i s, i < e → I i s → (∀ s', I (i + 1) s' → W n (i + 1) s') → W (n + 1) i s) : ∃ n, W n i0 s :=
  ⟨e + 1, loop_i W I e hx hs (e + 1) i0 s hi (by omega) h0⟩
def bt (x : Int32) (i : Nat) : Bool := x.toBitVec.getLsbD i
theorem b_ext {x y : Int32} (h : ∀ i, i < 32 → bt x i = bt y i) : x = y := Int32.toBitVec_inj.mp (BitVec.eq_of_getLsbD_eq (fun i hi => h i hi))
theorem b_or (x y : Int32) (i : Nat) : bt (x ||| y) i = (bt x i || bt y i) := by unfold bt; rw [Int32.toBitVec_or, BitVec.getLsbD_or]
theorem b_and (x y : Int32) (i : Nat) : bt (x &&& y) i = (bt x i && bt y i) := by unfold bt; rw [Int32.toBitVec_and, BitVec.getLsbD_and]
theorem b_big {x : Int32} {i : Nat} (h : 32 ≤ i) : bt x i = false := BitVec.getLsbD_of_ge _ _ h
theorem b_0 (i : Nat) : bt 0 i = false := BitVec.getLsbD_zero
theorem s_l : ∀ n, n < 32 → ((nI n &&& 31).toBitVec.smod 32).toNat = n := by decide +kernel
theorem b_shl (n : Nat) (hn : n < 32) (x : Int32) {i : Nat} (hi : i < 32) : bt (x <<< (nI n &&& 31)) i = (decide (n ≤ i) && bt x (i - n)) := by
  unfold bt
  rw [Int32.toBitVec_shiftLeft]
  show (x.toBitVec <<< ((nI n &&& 31).toBitVec.smod 32).toNat).getLsbD i = _
  rw [s_l n hn, BitVec.getLsbD_shiftLeft]
  rcases Nat.lt_or_ge i n with h | h
  · simp [h, Nat.not_le.mpr h]
  · simp [hi, h, Nat.not_lt.mpr h]
theorem b_sshr (n : Nat) (hn : n < 32) (x : Int32) {i : Nat} (hi : i < 32) : bt (x >>> (nI n &&& 31)) i = if n + i < 32 then bt x (n + i) else bt x 31 := by
  unfold bt
  rw [Int32.toBitVec_shiftRight]
  show (x.toBitVec.sshiftRight ((nI n &&& 31).toBitVec.smod 32).toNat).getLsbD i = _
  rw [s_l n hn, BitVec.getLsbD_sshiftRight, BitVec.msb_eq_getLsbD_last]
  simp [hi]
/-! own rows: one bit of a set -/
theorem tl_b1 : ∀ i, i < 32 → bt 1 i = decide (i = 0) := by decide +kernel
theorem tl_bit01 (x : Int32) {q : Nat} (hq : q < 31) : (x >>> (nI q &&& 31)) &&& 1 = if bt x q = true then 1 else 0 := by
  apply b_ext
  intro i hi
  rw [b_and, b_sshr q (by omega) x hi, tl_b1 i hi]
  by_cases h0 : i = 0
  · subst h0
    rw [if_pos (by omega)]
    by_cases h : bt x q = true
    · rw [if_pos h]; simp [h, tl_b1]
    · rw [if_neg h]; simp [h, b_0]
  · rw [decide_eq_false h0, Bool.and_false]
    by_cases h : bt x q = true
    · rw [if_pos h, tl_b1 i hi, decide_eq_false h0]
    · rw [if_neg h, b_0]
theorem tl_bit0 (x : Int32) {q : Nat} (hq : q < 31) : ((x >>> (nI q &&& 31)) &&& 1) = 0 ↔ bt x q = false := by
  rw [tl_bit01 x hq]
  by_cases h : bt x q = true
  · rw [if_pos h, h]; decide
  · rw [if_neg h]; simp [h]
theorem tl_bit1 (x : Int32) {q : Nat} (hq : q < 31) : ((x >>> (nI q &&& 31)) &&& 1) = 1 ↔ bt x q = true := by
  rw [tl_bit01 x hq]
  by_cases h : bt x q = true
  · rw [if_pos h]; simp [h]
  · rw [if_neg h]; simp [h]
/-- a set of states: no bit beyond the fourth -/
def tl_S4 (x : Int32) : Prop := ∀ i, 4 ≤ i → bt x i = false
theorem tl_s4n : ∀ j, j < 16 → ∀ i, i < 32 → 4 ≤ i → bt (nI j) i = false := by decide +kernel
theorem tl_s4 {j : Nat} (h : j < 16) : tl_S4 (nI j) := fun i h4 => by
  rcases Nat.lt_or_ge i 32 with hi | hi
  · exact tl_s4n j h i hi h4
  · exact b_big hi
theorem tl_s40 : tl_S4 0 := fun i _ => b_0 i
theorem tl_s4or {x y : Int32} (hx : tl_S4 x) (hy : tl_S4 y) : tl_S4 (x ||| y) := fun i h => by rw [b_or, hx i h, hy i h]; rfl
/-- two sets with the same four states are the same -/
theorem tl_s4e {x y : Int32} (hx : tl_S4 x) (hy : tl_S4 y) (h : ∀ q, q < 4 → bt x q = bt y q) : x = y := b_ext fun i _ => by
  rcases Nat.lt_or_ge i 4 with h4 | h4
  · exact h i h4
  · rw [hx i h4, hy i h4]
theorem tl_i0 : (0 : Int32) = nI 0 := rfl
theorem tl_i1 : (1 : Int32) = nI 1 := rfl
theorem tl_i4 : (4 : Int32) = nI 4 := rfl
/-- sums -/
def tl_sum (f : Nat → Nat) : Nat → Nat
  | 0 => 0
  | n + 1 => tl_sum f n + f n
theorem tl_sumE {f g : Nat → Nat} : ∀ n, (∀ j, j < n → f j = g j) → tl_sum f n = tl_sum g n
  | 0, _ => rfl
  | n + 1, h => by
    show tl_sum f n + f n = tl_sum g n + g n
    rw [tl_sumE n (fun j hj => h j (by omega)), h n (by omega)]
theorem tl_sumLe {f : Nat → Nat} {n j : Nat} (h : j < n) : f j ≤ tl_sum f n := by
  induction n with
  | zero => omega
  | succ n ih =>
    show f j ≤ tl_sum f n + f n
    rcases Nat.lt_or_ge j n with h2 | h2
    · have := ih h2; omega
    · have e : j = n := by omega
      subst e; omega
theorem tl_sumGe {f : Nat → Nat} : ∀ n, (∀ j, j < n → 1 ≤ f j) → n ≤ tl_sum f n
  | 0, _ => Nat.le_refl 0
  | n + 1, h => by
    show n + 1 ≤ tl_sum f n + f n
    have := tl_sumGe n (fun j hj => h j (by omega))
    have := h n (by omega)
    omega
end
