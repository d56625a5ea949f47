section
section
theorem pk_us {f : Nat → Int32} {k : Nat} {x : Int32} : upd f k x k = x := if_pos rfl
theorem pk_un {f : Nat → Int32} {k j : Nat} {x : Int32} (h : j ≠ k) : upd f k x j = f j := if_neg h
theorem pk_sub {a b : Nat} (h : b ≤ a) : nI a - nI b = nI (a - b) := by
  obtain ⟨c, rfl⟩ : ∃ c, a = c + b := ⟨a - b, by omega⟩
  rw [← nI_add, Int32.add_sub_cancel, Nat.add_sub_cancel]
theorem pk_m1 (n : Nat) : nI (n + 1) + (-1) = nI n := by
  rw [← nI_1, Int32.add_assoc, show (1 : Int32) + (-1) = 0 from rfl, Int32.add_zero]
theorem pk_mul (a b : Nat) : nI a * nI b = nI (a * b) := (Int32.ofNat_mul a b).symm
theorem pk_div {a d : Nat} (ha : a < 2 ^ 31) (h0 : 0 < d) (hd : d < 2 ^ 31) : nI a / nI d = nI (a / d) := by
  apply Int32.toInt_inj.mp
  rw [lg_idiv_nonneg (by rw [nI_toInt ha]; omega) (by rw [nI_toInt hd]; omega), nI_toInt ha, nI_toInt hd, nI_toInt (Nat.lt_of_le_of_lt (Nat.div_le_self a d) ha)]
  first | rfl | exact (Int.natCast_ediv _ _).symm
theorem pk_rem {a d : Nat} (ha : a < 2 ^ 31) (h0 : 0 < d) (hd : d < 2 ^ 31) : nI a - nI a / nI d * nI d = nI (a % d) := by
  rw [pk_div ha h0 hd, pk_mul, pk_sub (Nat.div_mul_le_self a d)]
  exact congrArg nI (by have := Nat.div_add_mod' a d; omega)
theorem pk_le {x y : Int32} {A B : Prop} (a b : Nat) (f : a ≤ b → A) (g : b < a → B) (hx : x = nI a := by rfl) (hy : y = nI b := by rfl) (ha : a < 2 ^ 31 := by omega) (hb : b < 2 ^ 31 := by omega) : (x ≤ y → A) ∧ (¬ x ≤ y → B) := by
  subst hx hy
  rw [nI_leI ha hb]
  exact ⟨f, fun z => g (by omega)⟩
theorem pk_lt {x y : Int32} {A B : Prop} (a b : Nat) (f : a < b → A) (g : b ≤ a → B) (hx : x = nI a := by rfl) (hy : y = nI b := by rfl) (ha : a < 2 ^ 31 := by omega) (hb : b < 2 ^ 31 := by omega) : (x < y → A) ∧ (¬ x < y → B) := by
  subst hx hy
  rw [nI_ltI ha hb]
  exact ⟨f, fun z => g (by omega)⟩
theorem pk_eq {x y : Int32} {A B : Prop} (a b : Nat) (f : a = b → A) (g : a ≠ b → B) (hx : x = nI a := by rfl) (hy : y = nI b := by rfl) (ha : a < 2 ^ 31 := by omega) (hb : b < 2 ^ 31 := by omega) : (x = y → A) ∧ (¬ x = y → B) := by
  subst hx hy
  rw [nI_eq ha hb]
  exact ⟨f, g⟩
theorem pk_in {x : Int32} (n N : Nat) (h : n < N) (hx : x = nI n := by rfl) (hN : N < 2 ^ 31 := by omega) : vp_in x N := by
  subst hx
  exact vp_in_nI h hN
theorem pk_cl {x : Int32} (n : Nat) (hx : x = nI n := by rfl) (h : n < 2 ^ 31 := by omega) : x.toNatClampNeg = n := by
  subst hx
  exact nI_clamp h
theorem pk_loop {σ : Type} (W : Nat → Nat → σ → Prop) (I : Nat → σ → Prop) (e i0 : Nat) (s : σ) (hi : i0 ≤ e) (h0 : I i0 s) (hx : ∀ n s, I e s → W (n + 1) e s)
    (hs : ∀ n i s, i < e → I i s → (∀ s', I (i + 1) s' → W n (i + 1) s') → W (n + 1) i s) : ∃ n, W n i0 s :=
  ⟨e + 1, loop_i W I e hx hs (e + 1) i0 s hi (by omega) h0⟩
def bt (x : Int32) (i : Nat) : Bool := x.toBitVec.getLsbD i
theorem b_ext {x y : Int32} (h : ∀ i, i < 32 → bt x i = bt y i) : x = y := Int32.toBitVec_inj.mp (BitVec.eq_of_getLsbD_eq (fun i hi => h i hi))
theorem b_or (x y : Int32) (i : Nat) : bt (x ||| y) i = (bt x i || bt y i) := by unfold bt; rw [Int32.toBitVec_or, BitVec.getLsbD_or]
theorem b_and (x y : Int32) (i : Nat) : bt (x &&& y) i = (bt x i && bt y i) := by unfold bt; rw [Int32.toBitVec_and, BitVec.getLsbD_and]
theorem b_big {x : Int32} {i : Nat} (h : 32 ≤ i) : bt x i = false := BitVec.getLsbD_of_ge _ _ h
theorem b_0 (i : Nat) : bt 0 i = false := BitVec.getLsbD_zero
theorem s_l : ∀ n, n < 32 → ((nI n &&& 31).toBitVec.smod 32).toNat = n := by decide +kernel
theorem b_shl (n : Nat) (hn : n < 32) (x : Int32) {i : Nat} (hi : i < 32) : bt (x <<< (nI n &&& 31)) i = (decide (n ≤ i) && bt x (i - n)) := by
  unfold bt
  rw [Int32.toBitVec_shiftLeft]
  show (x.toBitVec <<< ((nI n &&& 31).toBitVec.smod 32).toNat).getLsbD i = _
  rw [s_l n hn, BitVec.getLsbD_shiftLeft]
  rcases Nat.lt_or_ge i n with h | h
  · simp [h, Nat.not_le.mpr h]
  · simp [hi, h, Nat.not_lt.mpr h]
theorem b_sshr (n : Nat) (hn : n < 32) (x : Int32) {i : Nat} (hi : i < 32) : bt (x >>> (nI n &&& 31)) i = if n + i < 32 then bt x (n + i) else bt x 31 := by
  unfold bt
  rw [Int32.toBitVec_shiftRight]
  show (x.toBitVec.sshiftRight ((nI n &&& 31).toBitVec.smod 32).toNat).getLsbD i = _
  rw [s_l n hn, BitVec.getLsbD_sshiftRight, BitVec.msb_eq_getLsbD_last]
  simp [hi]
/-! own rows: one bit of a set -/
theorem tl_b1 : ∀ i, i < 32 → bt 1 i = decide (i = 0) := by decide +kernel
theorem tl_bit01 (x : Int32) {q : Nat} (hq : q < 31) : (x >>> (nI q &&& 31)) &&& 1 = if bt x q = true then 1 else 0 := by
  apply b_ext
  intro i hi
  rw [b_and, b_sshr q (by omega) x hi, tl_b1 i hi]
  by_cases h0 : i = 0
  · subst h0
    rw [if_pos (by omega)]
    by_cases h : bt x q = true
    · rw [if_pos h]; simp [h, tl_b1]
    · rw [if_neg h]; simp [h, b_0]
  · rw [decide_eq_false h0, Bool.and_false]
    by_cases h : bt x q = true
    · rw [if_pos h, tl_b1 i hi, decide_eq_false h0]
    · rw [if_neg h, b_0]
theorem tl_bit0 (x : Int32) {q : Nat} (hq : q < 31) : ((x >>> (nI q &&& 31)) &&& 1) = 0 ↔ bt x q = false := by
  rw [tl_bit01 x hq]
  by_cases h : bt x q = true
  · rw [if_pos h, h]; decide
  · rw [if_neg h]; simp [h]
theorem tl_bit1 (x : Int32) {q : Nat} (hq : q < 31) : ((x >>> (nI q &&& 31)) &&& 1) = 1 ↔ bt x q = true := by
  rw [tl_bit01 x hq]
  by_cases h : bt x q = true
  · rw [if_pos h]; simp [h]
  · rw [if_neg h]; simp [h]
/-- a set of states: no bit beyond the fourth -/
def tl_S4 (x : Int32) : Prop := ∀ i, 4 ≤ i → bt x i = false
theorem tl_s4n : ∀ j, j < 16 → ∀ i, i < 32 → 4 ≤ i → bt (nI j) i = false := by decide +kernel
theorem tl_s4 {j : Nat} (h : j < 16) : tl_S4 (nI j) := fun i h4 => by
  rcases Nat.lt_or_ge i 32 with hi | hi
  · exact tl_s4n j h i hi h4
  · exact b_big hi
theorem tl_s40 : tl_S4 0 := fun i _ => b_0 i
theorem tl_s4or {x y : Int32} (hx : tl_S4 x) (hy : tl_S4 y) : tl_S4 (x ||| y) := fun i h => by rw [b_or, hx i h, hy i h]; rfl
/-- two sets with the same four states are the same -/
theorem tl_s4e {x y : Int32} (hx : tl_S4 x) (hy : tl_S4 y) (h : ∀ q, q < 4 → bt x q = bt y q) : x = y := b_ext fun i _ => by
  rcases Nat.lt_or_ge i 4 with h4 | h4
  · exact h i h4
  · rw [hx i h4, hy i h4]
theorem tl_i0 : (0 : Int32) = nI 0 := rfl
theorem tl_i1 : (1 : Int32) = nI 1 := rfl
theorem tl_i4 : (4 : Int32) = nI 4 := rfl
/-- sums -/
def tl_sum (f : Nat → Nat) : Nat → Nat
  | 0 => 0
  | n + 1 => tl_sum f n + f n
theorem tl_sumE {f g : Nat → Nat} : ∀ n, (∀ j, j < n → f j = g j) → tl_sum f n = tl_sum g n
  | 0, _ => rfl
  | n + 1, h => by
    show tl_sum f n + f n = tl_sum g n + g n
    rw [tl_sumE n (fun j hj => h j (by omega)), h n (by omega)]
theorem tl_sumLe {f : Nat → Nat} {n j : Nat} (h : j < n) : f j ≤ tl_sum f n := by
  induction n with
  | zero => omega
  | succ n ih =>
    show f j ≤ tl_sum f n + f n
    rcases Nat.lt_or_ge j n with h2 | h2
    · have := ih h2; omega
    · have e : j = n := by omega
      subst e; omega
theorem tl_sumGe {f : Nat → Nat} : ∀ n, (∀ j, j < n → 1 ≤ f j) → n ≤ tl_sum f n
  | 0, _ => Nat.le_refl 0
  | n + 1, h => by
    show n + 1 ≤ tl_sum f n + f n
    have := tl_sumGe n (fun j hj => h j (by omega))
    have := h n (by omega)
    omega
end
end
section
section
/-- what a set gives to state q -/
def tl_bi (s : Int32) (q v : Nat) : Nat := if bt s q = true then v else 0
theorem tl_biLe (s : Int32) (q v : Nat) : tl_bi s q v ≤ v := by
  unfold tl_bi; split <;> omega
theorem tl_bi0 (s : Int32) (q : Nat) : tl_bi s q 0 = 0 := by
  unfold tl_bi; split <;> rfl
/-- runs at tree t, from the runs of its children -/
def tl_st (lS oS tS : Nat → Int32) (m : Nat) (l c d : Nat → Nat) (w : Nat → Nat → Nat) (t q : Nat) : Nat :=
  if l t = 3 then tl_sum (fun j => tl_bi (tS (16 * m + j)) q (w (c t) (j % 4) * w (d t) (j / 4))) 16
  else if l t = 2 then tl_sum (fun p => tl_bi (oS (4 * m + p)) q (w (c t) p)) 4
  else tl_bi (lS (2 * m + l t)) q 1
def tl_tab (lS oS tS : Nat → Int32) (m : Nat) (l c d : Nat → Nat) : Nat → Nat → Nat → Nat
  | 0 => fun _ _ => 0
  | T + 1 => fun t q => if t = T then tl_st lS oS tS m l c d (tl_tab lS oS tS m l c d T) T q else tl_tab lS oS tS m l c d T t q
def tl_w (lS oS tS : Nat → Int32) (m : Nat) (l c d : Nat → Nat) (t q : Nat) : Nat := tl_tab lS oS tS m l c d (t + 1) t q
/-- the trees below T: letter, children, size -/
def tl_TP (T : Nat) (l c d z : Nat → Nat) : Prop := ∀ t, t < T → l t ≤ 3 ∧ (2 ≤ l t → c t < t) ∧ (l t = 3 → d t < t) ∧ (l t < 2 → z t = 1) ∧ (l t = 2 → z t = 1 + z (c t)) ∧ (l t = 3 → z t = 1 + z (c t) + z (d t)) ∧ z t ≤ 12
variable {lS oS tS : Nat → Int32} {m : Nat} {l c d z : Nat → Nat}
theorem tl_tabE {T t q : Nat} (h : t < T) : tl_tab lS oS tS m l c d T t q = tl_w lS oS tS m l c d t q := by
  induction T with
  | zero => omega
  | succ T ih =>
    by_cases e : t = T
    · subst e; rfl
    · have e1 : tl_tab lS oS tS m l c d (T + 1) t q = tl_tab lS oS tS m l c d T t q := if_neg e
      rw [e1, ih (by omega)]
theorem tl_wE {T t q : Nat} (tp : tl_TP T l c d z) (h : t < T) : tl_w lS oS tS m l c d t q = tl_st lS oS tS m l c d (tl_w lS oS tS m l c d) t q := by
  obtain ⟨h3, hc, hd, _⟩ := tp t h
  have e1 : tl_w lS oS tS m l c d t q = tl_st lS oS tS m l c d (tl_tab lS oS tS m l c d t) t q := if_pos rfl
  rw [e1]
  unfold tl_st
  by_cases e3 : l t = 3
  · rw [if_pos e3, if_pos e3]
    exact tl_sumE _ fun j _ => by
      rw [tl_tabE (hc (by omega)), tl_tabE (hd e3)]
  · rw [if_neg e3, if_neg e3]
    by_cases e2 : l t = 2
    · rw [if_pos e2, if_pos e2]
      exact tl_sumE _ fun j _ => by
        rw [tl_tabE (hc (by omega))]
    · rw [if_neg e2, if_neg e2]
theorem tl_w3 {T t q : Nat} (tp : tl_TP T l c d z) (h : t < T) (e : l t = 3) : tl_w lS oS tS m l c d t q = tl_sum (fun j => tl_bi (tS (16 * m + j)) q (tl_w lS oS tS m l c d (c t) (j % 4) * tl_w lS oS tS m l c d (d t) (j / 4))) 16 := by
  rw [tl_wE tp h]; exact if_pos e
theorem tl_w2 {T t q : Nat} (tp : tl_TP T l c d z) (h : t < T) (e : l t = 2) : tl_w lS oS tS m l c d t q = tl_sum (fun p => tl_bi (oS (4 * m + p)) q (tl_w lS oS tS m l c d (c t) p)) 4 := by
  rw [tl_wE tp h]; exact (if_neg (by omega)).trans (if_pos e)
theorem tl_w1 {T t q : Nat} (tp : tl_TP T l c d z) (h : t < T) (e : l t < 2) : tl_w lS oS tS m l c d t q = tl_bi (lS (2 * m + l t)) q 1 := by
  rw [tl_wE tp h]; exact (if_neg (by omega)).trans (if_neg (by omega))
theorem tl_sumMono {f g : Nat → Nat} : ∀ n, (∀ j, j < n → f j ≤ g j) → tl_sum f n ≤ tl_sum g n
  | 0, _ => Nat.le_refl 0
  | n + 1, h => by
    show tl_sum f n + f n ≤ tl_sum g n + g n
    have := tl_sumMono n (fun j hj => h j (by omega))
    have := h n (by omega)
    omega
theorem tl_sum4 (f : Nat → Nat) : tl_sum f 4 = f 0 + f 1 + f 2 + f 3 := by
  show 0 + f 0 + f 1 + f 2 + f 3 = _; omega
theorem tl_mul16 (a0 a1 a2 a3 b0 b1 b2 b3 : Nat) : a0 * b0 + a1 * b0 + a2 * b0 + a3 * b0 + a0 * b1 + a1 * b1 + a2 * b1 + a3 * b1 + a0 * b2 + a1 * b2 + a2 * b2 + a3 * b2 + a0 * b3 + a1 * b3 + a2 * b3 + a3 * b3 = (a0 + a1 + a2 + a3) * (b0 + b1 + b2 + b3) := by
  simp only [Nat.add_mul, Nat.mul_add]; omega
theorem tl_sum16 (f : Nat → Nat) : tl_sum f 16 = f 0 + f 1 + f 2 + f 3 + f 4 + f 5 + f 6 + f 7 + f 8 + f 9 + f 10 + f 11 + f 12 + f 13 + f 14 + f 15 := by
  show 0 + f 0 + f 1 + f 2 + f 3 + f 4 + f 5 + f 6 + f 7 + f 8 + f 9 + f 10 + f 11 + f 12 + f 13 + f 14 + f 15 = _; omega
/-- the pairs, the first child's state first (the reference's order) -/
theorem tl_sum44 (f : Nat → Nat) : tl_sum (fun p => tl_sum (fun q => f (p + 4 * q)) 4) 4 = tl_sum f 16 := by
  rw [tl_sum16, tl_sum4, tl_sum4, tl_sum4, tl_sum4, tl_sum4]
  show (f 0 + f 4 + f 8 + f 12) + (f 1 + f 5 + f 9 + f 13) + (f 2 + f 6 + f 10 + f 14) + (f 3 + f 7 + f 11 + f 15) = _
  omega
theorem tl_4up {a : Nat → Nat} {S : Nat} (h : ∀ q, q < 4 → a q ≤ S) : tl_sum a 4 ≤ 4 * S := by
  rw [tl_sum4]
  have := h 0 (by omega); have := h 1 (by omega); have := h 2 (by omega); have := h 3 (by omega)
  omega
/-- no tree has more runs than 4 to the power of its size -/
theorem tl_wB {T : Nat} (tp : tl_TP T l c d z) : ∀ t, t < T → tl_sum (tl_w lS oS tS m l c d t) 4 ≤ 4 ^ z t := by
  intro t
  induction t using Nat.strongRecOn with
  | ind t ih =>
    intro h
    obtain ⟨h3, hc, hd, z1, z2, z3, _⟩ := tp t h
    by_cases e3 : l t = 3
    · have ic := ih (c t) (hc (by omega)) (by have := hc (by omega); omega)
      have id := ih (d t) (hd e3) (by have := hd e3; omega)
      rw [z3 e3, Nat.pow_add, Nat.pow_add]
      refine Nat.le_trans (tl_4up (S := tl_sum (tl_w lS oS tS m l c d (c t)) 4 * tl_sum (tl_w lS oS tS m l c d (d t)) 4) ?_) ?_
      · intro q _
        rw [tl_w3 tp h e3]
        refine Nat.le_trans (tl_sumMono (g := fun j => tl_w lS oS tS m l c d (c t) (j % 4) * tl_w lS oS tS m l c d (d t) (j / 4)) 16 fun j _ => tl_biLe _ _ _) ?_
        rw [tl_sum16, tl_sum4, tl_sum4, ← tl_mul16]
        exact Nat.le_refl _
      · rw [show (4 : Nat) ^ 1 = 4 from rfl, Nat.mul_assoc]
        exact Nat.mul_le_mul_left 4 (Nat.mul_le_mul ic id)
    · by_cases e2 : l t = 2
      · have ic := ih (c t) (hc (by omega)) (by have := hc (by omega); omega)
        rw [z2 e2, Nat.pow_add]
        refine Nat.le_trans (tl_4up (S := tl_sum (tl_w lS oS tS m l c d (c t)) 4) ?_) ?_
        · intro q _
          rw [tl_w2 tp h e2]
          exact tl_sumMono 4 fun j _ => tl_biLe _ _ _
        · rw [show (4 : Nat) ^ 1 = 4 from rfl]
          exact Nat.mul_le_mul_left 4 ic
      · rw [z1 (by omega)]
        refine Nat.le_trans (tl_4up (S := 1) ?_) (by decide)
        intro q _
        rw [tl_w1 tp h (by omega)]
        exact tl_biLe _ _ _
theorem tl_wB2 {T : Nat} (tp : tl_TP T l c d z) (t : Nat) (h : t < T) : tl_sum (tl_w lS oS tS m l c d t) 4 < 2 ^ 31 := by
  have h1 := tl_wB (lS := lS) (oS := oS) (tS := tS) (m := m) tp t h
  have h2 : 4 ^ z t ≤ 4 ^ 12 := Nat.pow_le_pow_right (by decide) (tp t h).2.2.2.2.2.2
  have h3 : (4 : Nat) ^ 12 < 2 ^ 31 := by decide
  omega
/-- a set of states and the runs that it stands for -/
def tl_Row (s : Int32) (w : Nat → Nat) : Prop := tl_S4 s ∧ ∀ q, q < 4 → bt s q = decide (0 < w q)
def tl_kind (k : Nat) (a b : Bool) : Bool :=
  match k with
  | 0 => a
  | 1 => b
  | 2 => a && b
  | 3 => a || b
  | 4 => a && !b
  | 5 => !a && !b
  | _ => true
/-- accepted: a run ends in a final state -/
def tl_acc (f : Int32) (w : Nat → Nat) : Bool := decide (0 < tl_sum (fun q => tl_bi f q (w q)) 4)
def tl_find (K : Nat → Bool) (k : Int32) : Nat → Int32 → Nat → Option Nat
  | 0, _, _ => none
  | n + 1, b, t => if K t = true then (if b = k then some t else tl_find K k n (b + 1) (t + 1)) else tl_find K k n b (t + 1)
theorem tl_findIn {K : Nat → Bool} {k : Int32} : ∀ (n : Nat) (b : Int32) (t r : Nat), tl_find K k n b t = some r → t ≤ r ∧ r < t + n
  | 0, _, _, _, h => nomatch h
  | n + 1, b, t, r, h => by
    unfold tl_find at h
    split at h
    · split at h
      · cases h; omega
      · have := tl_findIn n _ _ _ h; omega
    · have := tl_findIn n _ _ _ h; omega
end
end
section
section
variable {xt xd xm : Int32} {lS oS tS fS le fi se si ra tz st ru sk : Nat → Int32}
theorem xr_clear {post : SX → Prop} {row : Nat} (hr : row + 4 ≤ 4656)
    (h : ∀ ru' : Nat → Int32, (∀ j, j < row ∨ row + 4 ≤ j → ru' j = ru j) → (∀ q, q < 4 → ru' (row + q) = nI 0) → post (xt, xd, xm, lS, oS, tS, fS, le, fi, se, si, ra, tz, st, ru', sk)) :
    wpX_clearRuns post (xt, xd, xm, lS, oS, tS, fS, le, fi, se, si, ra, tz, st, ru, sk) (nI row) := by
  refine loop_0 (fun n i (r : Nat → Int32) => wX_clearRuns_2 post (nI row) xt xd xm n (nI i) lS oS tS fS le fi se si ra tz st r sk)
    (fun i r => (∀ j, j < row ∨ row + 4 ≤ j → r j = ru j) ∧ ∀ q, q < i → r (row + q) = nI 0) 4 ru ⟨fun _ _ => rfl, fun q hq => absurd hq (Nat.not_lt_zero q)⟩ ?_ ?_
  · intro n r I
    exact br_t (by decide) (h r I.1 I.2)
  · intro n i r hi I K
    have hn : ¬ (4 : Int32) ≤ nI i := nI_ge (b := 4) hi (by decide)
    have e := nI_add row i
    refine br_f hn ⟨pk_in (row + i) 4656 (by omega) e, nm_r (e' := upd r (row + i) (nI 0)) (by rw [pk_cl (row + i) e]; rfl) (nm_r (nI_1 i) (K _ ⟨?_, ?_⟩))⟩
    · intro j hj
      rw [pk_un (by omega)]; exact I.1 j hj
    · intro q hq
      by_cases eq : q = i
      · subst eq; exact pk_us
      · rw [pk_un (by omega)]; exact I.2 q (by omega)
theorem xr_add {post : SX → Prop} {row : Nat} {set s more : Int32} {v : Nat} (P : Nat → Nat) (hr : row + 4 ≤ 4656) (hs : set = s) (hm : more = nI v)
    (hP : ∀ q, q < 4 → ru (row + q) = nI (P q))
    (h : ∀ ru' : Nat → Int32, (∀ j, j < row ∨ row + 4 ≤ j → ru' j = ru j) → (∀ q, q < 4 → ru' (row + q) = nI (P q + tl_bi s q v)) → post (xt, xd, xm, lS, oS, tS, fS, le, fi, se, si, ra, tz, st, ru', sk)) :
    wpX_addRuns post (xt, xd, xm, lS, oS, tS, fS, le, fi, se, si, ra, tz, st, ru, sk) (nI row) set more := by
  subst hs hm
  refine loop_0 (fun n i (r : Nat → Int32) => wX_addRuns_3 post (nI row) set (nI v) xt xd xm n (nI i) lS oS tS fS le fi se si ra tz st r sk)
    (fun i r => (∀ j, j < row ∨ row + 4 ≤ j → r j = ru j) ∧ (∀ q, q < i → r (row + q) = nI (P q + tl_bi set q v)) ∧ ∀ q, i ≤ q → q < 4 → r (row + q) = nI (P q)) 4 ru ⟨fun _ _ => rfl, fun q hq => absurd hq (Nat.not_lt_zero q), fun q _ hq => hP q hq⟩ ?_ ?_
  · intro n r I
    exact br_t (by decide) (h r I.1 I.2.1)
  · intro n i r hi I K
    have hn : ¬ (4 : Int32) ≤ nI i := nI_ge (b := 4) hi (by decide)
    have e := nI_add row i
    refine br_f hn ?_
    by_cases hb : bt set i = true
    · have hb0 : ¬ ((set >>> (nI i &&& 31)) &&& 1) = 0 := by rw [tl_bit0 set (by omega), hb]; decide
      refine br_f hb0 ⟨pk_in (row + i) 4656 (by omega) e, pk_in (row + i) 4656 (by omega) e, nm_r (e' := upd r (row + i) (nI (P i + v))) ?_ (nm_r (nI_1 i) (K _ ⟨?_, ?_, ?_⟩))⟩
      · rw [pk_cl (row + i) e, I.2.2 i (Nat.le_refl i) hi, nI_add]
      · intro j hj
        rw [pk_un (by omega)]; exact I.1 j hj
      · intro q hq
        by_cases eq : q = i
        · subst eq
          rw [pk_us]; unfold tl_bi; rw [if_pos hb]
        · rw [pk_un (by omega)]; exact I.2.1 q (by omega)
      · intro q hq hq4
        rw [pk_un (by omega)]; exact I.2.2 q (by omega) hq4
    · have hb0 : ((set >>> (nI i &&& 31)) &&& 1) = 0 := by rw [tl_bit0 set (by omega)]; simpa using hb
      refine br_t hb0 (nm_r (nI_1 i) (K _ ⟨I.1, ?_, fun q hq hq4 => I.2.2 q (by omega) hq4⟩))
      intro q hq
      by_cases eq : q = i
      · subst eq
        rw [I.2.2 q (Nat.le_refl q) hi]; unfold tl_bi; rw [if_neg hb]; rfl
      · exact I.2.1 q (by omega)
theorem xr_row (m t : Nat) : (nI m * 582 + nI t) * 4 = nI ((m * 582 + t) * 4) := by
  rw [show (582 : Int32) = nI 582 from rfl, show (4 : Int32) = nI 4 from rfl, pk_mul, nI_add, pk_mul]
theorem xr_one {post : SX → Prop} {m t c : Nat} (w : Nat → Nat) (hm : m < 2) (ht : t < 582) (hc : c < t) (hf : fi t = nI c)
    (hw : ∀ p, p < 4 → ru ((m * 582 + c) * 4 + p) = nI (w p)) (h0 : ∀ q, q < 4 → ru ((m * 582 + t) * 4 + q) = nI 0)
    (h : ∀ ru' : Nat → Int32, (∀ j, j < (m * 582 + t) * 4 ∨ (m * 582 + t) * 4 + 4 ≤ j → ru' j = ru j) →
      (∀ q, q < 4 → ru' ((m * 582 + t) * 4 + q) = nI (tl_sum (fun p => tl_bi (oS (4 * m + p)) q (w p)) 4)) → post (xt, xd, xm, lS, oS, tS, fS, le, fi, se, si, ra, tz, st, ru', sk)) :
    wpX_countOneRuns post (xt, xd, xm, lS, oS, tS, fS, le, fi, se, si, ra, tz, st, ru, sk) (nI m) (nI t) (nI ((m * 582 + t) * 4)) := by
  refine ⟨vp_in_nI ht (by decide), ?_⟩
  show ∃ n, wX_countOneRuns_16 post (nI m) (nI ((m * 582 + t) * 4)) ((nI m * 582 + fi (nI t).toNatClampNeg) * 4) n 0 xt xd xm lS oS tS fS le fi se si ra tz st ru sk
  rw [nI_clamp (by omega : t < 2 ^ 31), hf, xr_row]
  refine loop_0 (fun n i (r : Nat → Int32) => wX_countOneRuns_16 post (nI m) (nI ((m * 582 + t) * 4)) (nI ((m * 582 + c) * 4)) n (nI i) xt xd xm lS oS tS fS le fi se si ra tz st r sk)
    (fun i r => (∀ j, j < (m * 582 + t) * 4 ∨ (m * 582 + t) * 4 + 4 ≤ j → r j = ru j) ∧ (∀ q, q < 4 → r ((m * 582 + t) * 4 + q) = nI (tl_sum (fun p => tl_bi (oS (4 * m + p)) q (w p)) i))) 4 ru ⟨fun _ _ => rfl, h0⟩ ?_ ?_
  · intro n r I
    exact br_t (by decide) (h r I.1 I.2)
  · intro n i r hi I K
    have hn : ¬ (4 : Int32) ≤ nI i := nI_ge (b := 4) hi (by decide)
    have e1 : nI m * 4 + nI i = nI (4 * m + i) := by rw [show (4 : Int32) = nI 4 from rfl, pk_mul, nI_add, Nat.mul_comm]
    have e2 := nI_add ((m * 582 + c) * 4) i
    refine br_f hn ⟨pk_in (4 * m + i) 8 (by omega) e1, pk_in ((m * 582 + c) * 4 + i) 4656 (by omega) e2, ?_⟩
    refine xr_add (s := oS (4 * m + i)) (v := w i) (fun q => tl_sum (fun p => tl_bi (oS (4 * m + p)) q (w p)) i) (by omega) ?_ ?_ I.2 ?_
    · rw [pk_cl (4 * m + i) e1]
    · rw [pk_cl ((m * 582 + c) * 4 + i) e2, I.1 _ (by omega), hw i hi]
    · intro ru' f g
      exact nm_r (nI_1 i) (K ru' ⟨fun j hj => (f j hj).trans (I.1 j hj), g⟩)
theorem xr_two {post : SX → Prop} {m t c d : Nat} (w v : Nat → Nat) (hm : m < 2) (ht : t < 582) (hc : c < t) (hd : d < t) (hf : fi t = nI c) (hg : se t = nI d)
    (hw : ∀ p, p < 4 → ru ((m * 582 + c) * 4 + p) = nI (w p)) (hv : ∀ p, p < 4 → ru ((m * 582 + d) * 4 + p) = nI (v p)) (h0 : ∀ q, q < 4 → ru ((m * 582 + t) * 4 + q) = nI 0)
    (h : ∀ ru' : Nat → Int32, (∀ j, j < (m * 582 + t) * 4 ∨ (m * 582 + t) * 4 + 4 ≤ j → ru' j = ru j) →
      (∀ q, q < 4 → ru' ((m * 582 + t) * 4 + q) = nI (tl_sum (fun j => tl_bi (tS (16 * m + j)) q (w (j % 4) * v (j / 4))) 16)) → post (xt, xd, xm, lS, oS, tS, fS, le, fi, se, si, ra, tz, st, ru', sk)) :
    wpX_countTwoRuns post (xt, xd, xm, lS, oS, tS, fS, le, fi, se, si, ra, tz, st, ru, sk) (nI m) (nI t) (nI ((m * 582 + t) * 4)) := by
  refine ⟨vp_in_nI ht (by decide), vp_in_nI ht (by decide), ?_⟩
  show ∃ n, wX_countTwoRuns_29 post (nI m) (nI ((m * 582 + t) * 4)) ((nI m * 582 + fi (nI t).toNatClampNeg) * 4) ((nI m * 582 + se (nI t).toNatClampNeg) * 4) n 0 xt xd xm lS oS tS fS le fi se si ra tz st ru sk
  rw [nI_clamp (by omega : t < 2 ^ 31), hf, hg, xr_row, xr_row]
  refine loop_0 (fun n i (r : Nat → Int32) => wX_countTwoRuns_29 post (nI m) (nI ((m * 582 + t) * 4)) (nI ((m * 582 + c) * 4)) (nI ((m * 582 + d) * 4)) n (nI i) xt xd xm lS oS tS fS le fi se si ra tz st r sk)
    (fun i r => (∀ j, j < (m * 582 + t) * 4 ∨ (m * 582 + t) * 4 + 4 ≤ j → r j = ru j) ∧ (∀ q, q < 4 → r ((m * 582 + t) * 4 + q) = nI (tl_sum (fun j => tl_bi (tS (16 * m + j)) q (w (j % 4) * v (j / 4))) i))) 16 ru ⟨fun _ _ => rfl, h0⟩ ?_ ?_
  · intro n r I
    exact br_t (by decide) (h r I.1 I.2)
  · intro n i r hi I K
    have hn : ¬ (16 : Int32) ≤ nI i := nI_ge (b := 16) hi (by decide)
    have e1 : nI m * 16 + nI i = nI (16 * m + i) := by rw [show (16 : Int32) = nI 16 from rfl, pk_mul, nI_add, Nat.mul_comm]
    have e2 := nI_add ((m * 582 + c) * 4) (i % 4)
    have e3 := nI_add ((m * 582 + d) * 4) (i / 4)
    refine br_f hn ⟨by decide, nm_r (pk_rem (a := i) (d := 4) (by omega) (by decide) (by decide)) ⟨by decide, nm_r (pk_div (a := i) (d := 4) (by omega) (by decide) (by decide)) ⟨pk_in (16 * m + i) 32 (by omega) e1, pk_in ((m * 582 + c) * 4 + i % 4) 4656 (by omega) e2, pk_in ((m * 582 + d) * 4 + i / 4) 4656 (by omega) e3, ?_⟩⟩⟩
    refine xr_add (s := tS (16 * m + i)) (v := w (i % 4) * v (i / 4)) (fun q => tl_sum (fun j => tl_bi (tS (16 * m + j)) q (w (j % 4) * v (j / 4))) i) (by omega) ?_ ?_ I.2 ?_
    · rw [pk_cl (16 * m + i) e1]
    · rw [pk_cl ((m * 582 + c) * 4 + i % 4) e2, pk_cl ((m * 582 + d) * 4 + i / 4) e3, I.1 _ (by omega), I.1 _ (by omega), hw _ (by omega), hv _ (by omega), pk_mul]
    · intro ru' f g
      exact nm_r (nI_1 i) (K ru' ⟨fun j hj => (f j hj).trans (I.1 j hj), g⟩)
end
end
section
section
variable {xt xd xm : Int32} {lS oS tS fS le fi se si ra tz st ru sk : Nat → Int32}
variable {l c d z : Nat → Nat}
/-- the component's arrays hold the trees below T -/
def xr_TA (T : Nat) (l c d : Nat → Nat) (le fi se : Nat → Int32) : Prop := ∀ t, t < T → le t = nI (l t) ∧ (2 ≤ l t → fi t = nI (c t)) ∧ (l t = 3 → se t = nI (d t))
theorem xr_rowP {post : Int32 → Prop} {m t : Nat} (h : post (nI ((m * 582 + t) * 4))) : wpX_rowOfRuns post (xt, xd, xm, lS, oS, tS, fS, le, fi, se, si, ra, tz, st, ru, sk) (nI m) (nI t) := by
  show post ((nI m * 582 + nI t) * 4)
  rw [xr_row]; exact h
theorem xr_all {post : SX → Prop} {m T : Nat} (hm : m < 2) (hT : T ≤ 582) (tp : tl_TP T l c d z) (ta : xr_TA T l c d le fi se)
    (h : ∀ ru' : Nat → Int32, (∀ j, j < m * 2328 → ru' j = ru j) → (∀ t, t < T → ∀ q, q < 4 → ru' ((m * 582 + t) * 4 + q) = nI (tl_w lS oS tS m l c d t q)) → post (xt, xd, xm, lS, oS, tS, fS, le, fi, se, si, ra, tz, st, ru', sk)) :
    wpX_countRuns post (xt, xd, xm, lS, oS, tS, fS, le, fi, se, si, ra, tz, st, ru, sk) (nI m) (nI T) := by
  refine loop_0 (fun n i (r : Nat → Int32) => wX_countRuns_2 post (nI m) (nI T) n (nI i) xt xd xm lS oS tS fS le fi se si ra tz st r sk)
    (fun i r => (∀ j, j < m * 2328 → r j = ru j) ∧ (∀ t, t < i → ∀ q, q < 4 → r ((m * 582 + t) * 4 + q) = nI (tl_w lS oS tS m l c d t q))) T ru ⟨fun _ _ => rfl, fun t ht => absurd ht (Nat.not_lt_zero t)⟩ ?_ ?_
  · intro n r I
    exact br_t (nI_le (Nat.le_refl T) (by omega)) (h r I.1 I.2)
  · intro n i r hi I K
    have hn : ¬ nI T ≤ nI i := nI_ge hi (by omega)
    obtain ⟨a1, a2, a3⟩ := ta i hi
    obtain ⟨b1, b2, b3, _⟩ := tp i hi
    have hin : vp_in (nI i) 582 := vp_in_nI (by omega) (by decide)
    have hcl : (nI i).toNatClampNeg = i := nI_clamp (by omega)
    have hK : ∀ r' r'' : Nat → Int32, (∀ j, j < (m * 582 + i) * 4 ∨ (m * 582 + i) * 4 + 4 ≤ j → r' j = r j) → (∀ j, j < (m * 582 + i) * 4 ∨ (m * 582 + i) * 4 + 4 ≤ j → r'' j = r' j) →
        (∀ q, q < 4 → r'' ((m * 582 + i) * 4 + q) = nI (tl_w lS oS tS m l c d i q)) → wX_countRuns_2 post (nI m) (nI T) n (nI (i + 1)) xt xd xm lS oS tS fS le fi se si ra tz st r'' sk := by
      intro r' r'' f g e
      refine K r'' ⟨fun j hj => ?_, fun t ht q hq => ?_⟩
      · rw [g j (by omega), f j (by omega), I.1 j hj]
      · by_cases et : t = i
        · subst et; exact e q hq
        · rw [g _ (by omega), f _ (by omega), I.2 t (by omega) q hq]
    refine br_f hn ?_
    refine xr_rowP ?_
    refine xr_clear (by omega) ?_
    intro r' f f0
    refine ⟨hin, ?_⟩
    by_cases e3 : l i = 3
    · refine br_t (by rw [hcl, a1, e3]; rfl) ?_
      have hc := b2 (by omega)
      have hd := b3 e3
      refine xr_two (tl_w lS oS tS m l c d (c i)) (tl_w lS oS tS m l c d (d i)) hm (by omega) hc hd (a2 (by omega)) (a3 e3) ?_ ?_ f0 ?_
      · intro p hp; rw [f _ (by omega)]; exact I.2 _ hc p hp
      · intro p hp; rw [f _ (by omega)]; exact I.2 _ hd p hp
      · intro r'' g e
        exact nm_r (nI_1 i) (hK r' r'' f g (fun q hq => by rw [e q hq, tl_w3 tp hi e3]))
    · refine br_f (by rw [hcl, a1]; exact fun z => e3 ((nI_eq (by omega) (by decide)).mp z)) ⟨hin, ?_⟩
      by_cases e2 : l i = 2
      · refine br_t (by rw [hcl, a1, e2]; rfl) ?_
        have hc := b2 (by omega)
        refine xr_one (tl_w lS oS tS m l c d (c i)) hm (by omega) hc (a2 (by omega)) ?_ f0 ?_
        · intro p hp; rw [f _ (by omega)]; exact I.2 _ hc p hp
        · intro r'' g e
          exact nm_r (nI_1 i) (hK r' r'' f g (fun q hq => by rw [e q hq, tl_w2 tp hi e2]))
      · have e1 : nI m * 2 + le (nI i).toNatClampNeg = nI (2 * m + l i) := by rw [hcl, a1, show (2 : Int32) = nI 2 from rfl, pk_mul, nI_add, Nat.mul_comm]
        refine br_f (by rw [hcl, a1]; exact fun z => e2 ((nI_eq (by omega) (by decide)).mp z)) ⟨hin, pk_in (2 * m + l i) 4 (by omega) e1, ?_⟩
        refine xr_add (s := lS (2 * m + l i)) (v := 1) (fun _ => 0) (by omega) ?_ rfl f0 ?_
        · rw [pk_cl (2 * m + l i) e1]
        · intro r'' g e
          exact nm_r (nI_1 i) (hK r' r'' f g (fun q hq => by rw [e q hq, tl_w1 tp hi (by omega), Nat.zero_add]))
theorem xr_fin {post : Int32 → Prop} {m t : Nat} (w : Nat → Nat) (hm : m < 2) (ht : t < 582) (hw : ∀ q, q < 4 → ru ((m * 582 + t) * 4 + q) = nI (w q))
    (h : post (nI (tl_sum (fun q => tl_bi (fS m) q (w q)) 4))) : wpX_finalRuns post (xt, xd, xm, lS, oS, tS, fS, le, fi, se, si, ra, tz, st, ru, sk) (nI m) (nI t) := by
  show ∃ n, wX_finalRuns_13 post (nI m) ((nI m * 582 + nI t) * 4) xt xd xm lS oS tS fS le fi se si ra tz st ru sk n 0 0
  rw [xr_row]
  refine loop_0 (fun n i (r : Int32) => wX_finalRuns_13 post (nI m) (nI ((m * 582 + t) * 4)) xt xd xm lS oS tS fS le fi se si ra tz st ru sk n r (nI i))
    (fun i r => r = nI (tl_sum (fun q => tl_bi (fS m) q (w q)) i)) 4 0 rfl ?_ ?_
  · intro n r I
    exact br_t (by decide) (by rw [I]; exact h)
  · intro n i r hi I K
    have hn : ¬ (4 : Int32) ≤ nI i := nI_ge (b := 4) hi (by decide)
    have e := nI_add ((m * 582 + t) * 4) i
    have hcl : (nI m).toNatClampNeg = m := nI_clamp (by omega)
    refine br_f hn ⟨vp_in_nI hm (by decide), ?_⟩
    by_cases hb : bt (fS m) i = true
    · refine br_f (by rw [hcl, tl_bit0 _ (by omega), hb]; decide) ⟨pk_in ((m * 582 + t) * 4 + i) 4656 (by omega) e, nm_r (e' := nI (tl_sum (fun q => tl_bi (fS m) q (w q)) (i + 1))) ?_ (nm_r (nI_1 i) (K _ rfl))⟩
      rw [pk_cl _ e, hw i hi, I, nI_add]
      show _ = nI (tl_sum (fun q => tl_bi (fS m) q (w q)) i + tl_bi (fS m) i (w i))
      unfold tl_bi; rw [if_pos hb]
    · refine br_t (by rw [hcl, tl_bit0 _ (by omega)]; simpa using hb) (nm_r (nI_1 i) (K _ ?_))
      show r = nI (tl_sum (fun q => tl_bi (fS m) q (w q)) i + tl_bi (fS m) i (w i))
      rw [I]; unfold tl_bi; rw [if_neg hb]; rfl
theorem tl_shl1 {i j : Nat} (hi : i < 4) : bt ((1 : Int32) <<< (nI i &&& 31)) j = decide (j = i) := by
  rcases Nat.lt_or_ge j 32 with hj | hj
  · rw [b_shl i (by omega) 1 hj]
    by_cases e : j = i
    · subst e; rw [Nat.sub_self]; simp [tl_b1]
    · by_cases h2 : i ≤ j
      · rw [tl_b1 _ (by omega), decide_eq_false (by omega : ¬ j - i = 0), Bool.and_false, decide_eq_false e]
      · rw [decide_eq_false h2, Bool.false_and, decide_eq_false e]
  · rw [b_big hj, decide_eq_false (by omega)]
theorem xr_sot {post : Int32 → Prop} {m t : Nat} (w : Nat → Nat) (hm : m < 2) (ht : t < 582) (hw : ∀ q, q < 4 → ru ((m * 582 + t) * 4 + q) = nI (w q)) (hb : ∀ q, q < 4 → w q < 2 ^ 31)
    (h : ∀ s, tl_Row s w → post s) : wpX_statesOfTop post (xt, xd, xm, lS, oS, tS, fS, le, fi, se, si, ra, tz, st, ru, sk) (nI m) (nI t) := by
  show ∃ n, wX_statesOfTop_13 post ((nI m * 582 + nI t) * 4) xt xd xm lS oS tS fS le fi se si ra tz st ru sk n 0 0
  rw [xr_row]
  refine loop_0 (fun n i (r : Int32) => wX_statesOfTop_13 post (nI ((m * 582 + t) * 4)) xt xd xm lS oS tS fS le fi se si ra tz st ru sk n r (nI i))
    (fun i r => (∀ q, q < i → bt r q = decide (0 < w q)) ∧ ∀ q, i ≤ q → bt r q = false) 4 0 ⟨fun q hq => absurd hq (Nat.not_lt_zero q), fun q _ => b_0 q⟩ ?_ ?_
  · intro n r I
    exact br_t (by decide) (h r ⟨fun i h4 => I.2 i h4, I.1⟩)
  · intro n i r hi I K
    have hn : ¬ (4 : Int32) ≤ nI i := nI_ge (b := 4) hi (by decide)
    have e := nI_add ((m * 582 + t) * 4) i
    refine br_f hn ⟨pk_in ((m * 582 + t) * 4 + i) 4656 (by omega) e, ?_⟩
    rw [pk_cl _ e, hw i hi]
    by_cases h0 : 0 < w i
    · refine br_f (nI_nle h0 (hb i hi)) (nm_e (nm_r (nI_1 i) (K _ ⟨?_, ?_⟩)))
      · intro q hq
        rw [b_or, tl_shl1 hi]
        by_cases eq : q = i
        · subst eq; simp [h0]
        · rw [decide_eq_false eq, Bool.or_false]; exact I.1 q (by omega)
      · intro q hq
        rw [b_or, tl_shl1 hi, I.2 q (by omega), decide_eq_false (by omega)]; rfl
    · have e0 : w i = 0 := by omega
      refine br_t (by rw [e0]; decide) (nm_r (nI_1 i) (K _ ⟨?_, fun q hq => I.2 q (by omega)⟩))
      intro q hq
      by_cases eq : q = i
      · subst eq; rw [I.2 q (Nat.le_refl q), e0]; rfl
      · exact I.1 q (by omega)
def xr_B (b : Bool) : Int32 := if b = true then 1 else 0
theorem xr_k29 {post : Int32 → Prop} {k : Nat} (hk : k < 7) (a b : Bool) (h : post (xr_B (tl_kind k a b))) : wX_isOfKind_29 post (nI k) (xr_B a) (xr_B b) xt xd xm lS oS tS fS le fi se si ra tz st ru sk := by
  have hc : k = 0 ∨ k = 1 ∨ k = 2 ∨ k = 3 ∨ k = 4 ∨ k = 5 ∨ k = 6 := by omega
  unfold wX_isOfKind_29
  rcases hc with rfl | rfl | rfl | rfl | rfl | rfl | rfl <;> cases a <;> cases b <;>
    (repeat (first | exact h | refine br_t (by decide) ?_ | refine br_f (by decide) ?_ | refine ⟨rfl, ?_⟩))
theorem xr_kind {post : Int32 → Prop} {k t : Nat} (w0 w1 : Nat → Nat) (hk : k < 7) (ht : t < 582) (h0 : ∀ q, q < 4 → ru ((0 * 582 + t) * 4 + q) = nI (w0 q)) (h1 : ∀ q, q < 4 → ru ((1 * 582 + t) * 4 + q) = nI (w1 q))
    (b0 : tl_sum w0 4 < 2 ^ 31) (b1 : tl_sum w1 4 < 2 ^ 31)
    (h : post (xr_B (tl_kind k (tl_acc (fS 0) w0) (tl_acc (fS 1) w1)))) : wpX_isOfKind post (xt, xd, xm, lS, oS, tS, fS, le, fi, se, si, ra, tz, st, ru, sk) (nI k) (nI t) := by
  have l0 := Nat.lt_of_le_of_lt (tl_sumMono (f := fun q => tl_bi (fS 0) q (w0 q)) (g := w0) 4 fun q _ => tl_biLe _ _ _) b0
  have l1 := Nat.lt_of_le_of_lt (tl_sumMono (f := fun q => tl_bi (fS 1) q (w1 q)) (g := w1) 4 fun q _ => tl_biLe _ _ _) b1
  have s2 : ∀ b : Bool, wX_isOfKind_29 post (nI k) (xr_B (tl_acc (fS 0) w0)) (xr_B (tl_acc (fS 1) w1)) xt xd xm lS oS tS fS le fi se si ra tz st ru sk := fun _ => xr_k29 hk _ _ h
  have s1 : wX_isOfKind_14 post (nI k) (nI t) (xr_B (tl_acc (fS 0) w0)) xt xd xm lS oS tS fS le fi se si ra tz st ru sk := by
    unfold wX_isOfKind_14
    refine xr_fin (m := 1) w1 (by decide) ht h1 ?_
    have s2 := s2 true
    by_cases hp : 0 < tl_sum (fun q => tl_bi (fS 1) q (w1 q)) 4
    · have ea : tl_acc (fS 1) w1 = true := decide_eq_true hp
      rw [ea] at s2
      exact br_f (nI_nle hp l1) s2
    · have ea : tl_acc (fS 1) w1 = false := decide_eq_false hp
      rw [ea] at s2
      exact br_t (by rw [show tl_sum (fun q => tl_bi (fS 1) q (w1 q)) 4 = 0 by omega]; decide) s2
  refine xr_fin (m := 0) w0 (by decide) ht h0 ?_
  by_cases hp : 0 < tl_sum (fun q => tl_bi (fS 0) q (w0 q)) 4
  · have ea : tl_acc (fS 0) w0 = true := decide_eq_true hp
    rw [ea] at s1
    exact br_f (nI_nle hp l0) s1
  · have ea : tl_acc (fS 0) w0 = false := decide_eq_false hp
    rw [ea] at s1
    exact br_t (by rw [show tl_sum (fun q => tl_bi (fS 0) q (w0 q)) 4 = 0 by omega]; decide) s1
/-- every listed tree's kind, as the component reads it off its rows -/
def xr_KX (k : Nat) (K : Nat → Bool) (u : SX) : Prop := ∀ t, t < 570 → ∀ post : Int32 → Prop, post (xr_B (K t)) → wpX_isOfKind post u (nI k) (nI t)
theorem xr_cnt {post : Int32 → Prop} {k n a b : Nat} {K : Nat → Bool} (hK : xr_KX k K (xt, xd, xm, lS, oS, tS, fS, le, fi, se, si, ra, tz, st, ru, sk)) (hn : n < 8) (ha : st n = nI a) (hb : st (n + 1) = nI b) (hab : a ≤ b) (hb5 : b ≤ 570)
    (h : post (nI (tl_sum (fun j => (K (a + j)).toNat) (b - a)))) : wpX_countOfKind post (xt, xd, xm, lS, oS, tS, fS, le, fi, se, si, ra, tz, st, ru, sk) (nI k) (nI n) := by
  refine ⟨pk_in (n + 1) 9 (by omega) (nI_1 n), nm_r (e' := nI b) (by rw [pk_cl (n + 1) (nI_1 n), hb]) ⟨vp_in_nI (by omega) (by decide), nm_r (e' := nI a) (by rw [nI_clamp (by omega), ha]) ?_⟩⟩
  refine loop_0 (fun n i (r : Int32) => wX_countOfKind_20 post (nI k) (nI b) xt xd xm lS oS tS fS le fi se si ra tz st ru sk n r (nI (a + i)))
    (fun i r => r = nI (tl_sum (fun j => (K (a + j)).toNat) i)) (b - a) 0 rfl ?_ ?_
  · intro n r I
    exact br_t (nI_le (by omega) (by omega)) (by rw [I]; exact h)
  · intro n i r hi I L
    refine br_f (nI_ge (by omega) (by omega)) (hK (a + i) (by omega) _ ?_)
    have ei : nI (a + i) + 1 = nI (a + (i + 1)) := nI_1 _
    cases hk : K (a + i)
    · refine br_t (by decide) (nm_r ei (L _ ?_))
      show r = nI (tl_sum (fun j => (K (a + j)).toNat) i + (K (a + i)).toNat)
      rw [hk]; exact I
    · refine br_f (by decide) (nm_r (e' := nI (tl_sum (fun j => (K (a + j)).toNat) (i + 1))) ?_ (nm_r ei (L _ rfl)))
      show r + 1 = nI (tl_sum (fun j => (K (a + j)).toNat) i + (K (a + i)).toNat)
      rw [hk, I]; exact nI_1 _
theorem xr_find {post : Int32 → Prop} {k n a b : Nat} {x : Int32} {K : Nat → Bool} (hK : xr_KX k K (xt, xd, xm, lS, oS, tS, fS, le, fi, se, si, ra, tz, st, ru, sk)) (hn : n < 8) (ha : st n = nI a) (hb : st (n + 1) = nI b) (hab : a ≤ b) (hb5 : b ≤ 570)
    (hN : tl_find K x (b - a) 0 a = none → post (-4)) (hS : ∀ t, tl_find K x (b - a) 0 a = some t → post (nI t)) : wpX_findOfKind post (xt, xd, xm, lS, oS, tS, fS, le, fi, se, si, ra, tz, st, ru, sk) (nI k) (nI n) x := by
  refine ⟨pk_in (n + 1) 9 (by omega) (nI_1 n), nm_r (e' := nI b) (by rw [pk_cl (n + 1) (nI_1 n), hb]) ⟨vp_in_nI (by omega) (by decide), nm_r (e' := nI a) (by rw [nI_clamp (by omega), ha]) ?_⟩⟩
  have main : ∀ f i (y : Int32), i + f = b → (tl_find K x f y i = none → post (-4)) → (∀ t, tl_find K x f y i = some t → post (nI t)) → wX_findOfKind_21 post (nI k) x (nI b) xt xd xm lS oS tS fS le fi se si ra tz st ru sk (f + 1) y (nI i) := by
    intro f
    induction f with
    | zero =>
      intro i y e hN _
      exact br_t (nI_le (by omega) (by omega)) (hN rfl)
    | succ f ih =>
      intro i y e hN hS
      refine br_f (nI_ge (by omega) (by omega)) (hK i (by omega) _ ?_)
      cases hk : K i
      · have ef : tl_find K x (f + 1) y i = tl_find K x f y (i + 1) := by
          show (if K i = true then _ else _) = _
          rw [hk]; rfl
        rw [ef] at hN hS
        exact br_t (by decide) (nm_r (nI_1 i) (ih (i + 1) y (by omega) hN hS))
      · refine br_f (by decide) ?_
        by_cases hy : y = x
        · refine br_t hy (hS i ?_)
          show (if K i = true then _ else _) = _
          rw [hk, if_pos rfl, if_pos hy]
        · have ef : tl_find K x (f + 1) y i = tl_find K x f (y + 1) (i + 1) := by
            show (if K i = true then _ else _) = _
            rw [hk, if_pos rfl, if_neg hy]
          rw [ef] at hN hS
          exact br_f hy (nm_e (nm_r (nI_1 i) (ih (i + 1) (y + 1) (by omega) hN hS)))
  exact ⟨_, main (b - a) a 0 (by omega) hN hS⟩
end
end
section
section
variable {yn ye ys yd : Int32} {lS oS tS fS le fI sE si bg tO ra sts wy mk sk op : Nat → Int32}
/-- the reference's row of tree t -/
def yr_R (t : Nat) (P : Nat → Nat) (wy sts : Nat → Int32) : Prop := (∀ q, q < 4 → wy (4 * t + q) = nI (P q)) ∧ tl_Row (sts t) P
/-- nothing but row t has changed -/
def yr_F (t : Nat) (wy sts wy' sts' : Nat → Int32) : Prop := (∀ j, j < 4 * t ∨ 4 * t + 4 ≤ j → wy' j = wy j) ∧ ∀ j, j ≠ t → sts' j = sts j
theorem yr_Ft {t : Nat} {w s w' s' w'' s'' : Nat → Int32} (a : yr_F t w s w' s') (b : yr_F t w' s' w'' s'') : yr_F t w s w'' s'' :=
  ⟨fun j hj => (b.1 j hj).trans (a.1 j hj), fun j hj => (b.2 j hj).trans (a.2 j hj)⟩
theorem yr_FR {t u : Nat} {w s w' s' : Nat → Int32} {P : Nat → Nat} (a : yr_F t w s w' s') (h : u ≠ t) (r : yr_R u P w s) : yr_R u P w' s' :=
  ⟨fun q hq => (a.1 _ (by omega)).trans (r.1 q hq), by rw [a.2 u h]; exact r.2⟩
theorem yr_RE {t : Nat} {w s : Nat → Int32} {P Q : Nat → Nat} (h : ∀ q, q < 4 → P q = Q q) (r : yr_R t P w s) : yr_R t Q w s :=
  ⟨fun q hq => by rw [← h q hq]; exact r.1 q hq, r.2.1, fun q hq => by rw [← h q hq]; exact r.2.2 q hq⟩
theorem yr_4 (t i : Nat) : 4 * nI t + nI i = nI (4 * t + i) := by
  rw [show (4 : Int32) = nI 4 from rfl, pk_mul, nI_add]
theorem yr_allow {post : SY → Prop} {t : Nat} {set s more : Int32} {v : Nat} (P : Nat → Nat) (ht : t < 600) (hs : set = s) (hm : more = nI v) (h4 : tl_S4 s) (hv : 0 < v)
    (hR : yr_R t P wy sts)
    (h : ∀ wy' sts' : Nat → Int32, yr_F t wy sts wy' sts' → yr_R t (fun q => P q + tl_bi s q v) wy' sts' → post (yn, ye, ys, yd, lS, oS, tS, fS, le, fI, sE, si, bg, tO, ra, sts', wy', mk, sk, op)) :
    wpY_allow post (yn, ye, ys, yd, lS, oS, tS, fS, le, fI, sE, si, bg, tO, ra, sts, wy, mk, sk, op) (nI t) set more := by
  subst hs hm
  have hin : vp_in (nI t) 600 := vp_in_nI ht (by decide)
  have hcl : (nI t).toNatClampNeg = t := nI_clamp (by omega)
  refine ⟨hin, hin, nm_r (e' := upd sts t (sts t ||| set)) (by rw [hcl]) ?_⟩
  refine loop_0 (fun n i (r : Nat → Int32) => wY_allow_13 post (nI t) set (nI v) yn ye ys yd n (nI i) lS oS tS fS le fI sE si bg tO ra (upd sts t (sts t ||| set)) r mk sk op)
    (fun i r => (∀ j, j < 4 * t ∨ 4 * t + 4 ≤ j → r j = wy j) ∧ (∀ q, q < i → r (4 * t + q) = nI (P q + tl_bi set q v)) ∧ ∀ q, i ≤ q → q < 4 → r (4 * t + q) = nI (P q)) 4 wy ⟨fun _ _ => rfl, fun q hq => absurd hq (Nat.not_lt_zero q), fun q _ hq => hR.1 q hq⟩ ?_ ?_
  · intro n r I
    refine br_t (by decide) (h r _ ⟨I.1, fun j hj => pk_un hj⟩ ⟨I.2.1, ?_⟩)
    rw [pk_us]
    refine ⟨tl_s4or hR.2.1 h4, fun q hq => ?_⟩
    rw [b_or, hR.2.2 q hq]
    show _ = decide (0 < P q + tl_bi set q v)
    unfold tl_bi
    by_cases hb : bt set q = true
    · rw [if_pos hb, hb, Bool.or_true, decide_eq_true (by omega)]
    · rw [if_neg hb]; simp [hb]
  · intro n i r hi I K
    have hn : ¬ (4 : Int32) ≤ nI i := nI_ge (b := 4) hi (by decide)
    have e := yr_4 t i
    refine br_f hn ?_
    by_cases hb : bt set i = true
    · have hb0 : ((set >>> (nI i &&& 31)) &&& 1) = 1 := by rw [tl_bit1 set (by omega), hb]
      refine br_t hb0 ⟨pk_in (4 * t + i) 2400 (by omega) e, pk_in (4 * t + i) 2400 (by omega) e, nm_r (e' := upd r (4 * t + i) (nI (P i + v))) ?_ (nm_r (nI_1 i) (K _ ⟨?_, ?_, ?_⟩))⟩
      · rw [pk_cl (4 * t + i) e, I.2.2 i (Nat.le_refl i) hi, nI_add]
      · intro j hj
        rw [pk_un (by omega)]; exact I.1 j hj
      · intro q hq
        by_cases eq : q = i
        · subst eq
          rw [pk_us]; unfold tl_bi; rw [if_pos hb]
        · rw [pk_un (by omega)]; exact I.2.1 q (by omega)
      · intro q hq hq4
        rw [pk_un (by omega)]; exact I.2.2 q (by omega) hq4
    · have hb0 : ¬ ((set >>> (nI i &&& 31)) &&& 1) = 1 := by rw [tl_bit1 set (by omega)]; exact hb
      refine br_f hb0 (nm_r (nI_1 i) (K _ ⟨I.1, ?_, fun q hq hq4 => I.2.2 q (by omega) hq4⟩))
      intro q hq
      by_cases eq : q = i
      · subst eq
        rw [I.2.2 q (Nat.le_refl q) hi]; unfold tl_bi; rw [if_neg hb]; rfl
      · exact I.2.1 q (by omega)
theorem yr_nlt2 {n : Nat} (h : 2 ≤ n) (h3 : n ≤ 3) : ¬ nI n < 2 := nI_nlt (b := 2) h (by omega)
theorem yr_ne {a b : Nat} (h : a ≠ b) (ha : a < 2 ^ 31) (hb : b < 2 ^ 31) : ¬ nI a = nI b := fun z => h ((nI_eq ha hb).mp z)
/-- letter 2: the loop over the child's states -/
theorem yr_j2 {post : SY → Prop} {m t c : Nat} (w : Nat → Nat) (hm : m < 2) (ht : t < 600) (hc : c < t) (hl : le t = nI 2) (hf : fI t = nI c) (h4 : ∀ j, tl_S4 (oS j))
    (hw : yr_R c w wy sts) (h0 : yr_R t (fun _ => 0) wy sts)
    (h : ∀ wy' sts' : Nat → Int32, yr_F t wy sts wy' sts' → yr_R t (fun q => tl_sum (fun p => tl_bi (oS (4 * m + p)) q (w p)) 4) wy' sts' → post (yn, ye, ys, yd, lS, oS, tS, fS, le, fI, sE, si, bg, tO, ra, sts', wy', mk, sk, op)) :
    ∃ n, wY_judge_64 post (nI m) (nI t) n 0 yn ye ys yd lS oS tS fS le fI sE si bg tO ra sts wy mk sk op := by
  have hin : vp_in (nI t) 600 := vp_in_nI ht (by decide)
  have hcl : (nI t).toNatClampNeg = t := nI_clamp (by omega)
  have hcc : (nI c).toNatClampNeg = c := nI_clamp (by omega)
  refine loop_0 (fun n i (s : (Nat → Int32) × (Nat → Int32)) => wY_judge_64 post (nI m) (nI t) n (nI i) yn ye ys yd lS oS tS fS le fI sE si bg tO ra s.2 s.1 mk sk op)
    (fun i s => yr_F t wy sts s.1 s.2 ∧ yr_R t (fun q => tl_sum (fun p => tl_bi (oS (4 * m + p)) q (w p)) i) s.1 s.2) 4 (wy, sts) ⟨⟨fun _ _ => rfl, fun _ _ => rfl⟩, h0⟩ ?_ ?_
  · intro n s I
    exact br_t (by decide) (h _ _ I.1 I.2)
  · intro n i s hi I K
    obtain ⟨r, ss⟩ := s
    have hn : ¬ (4 : Int32) ≤ nI i := nI_ge (b := 4) hi (by decide)
    have hcR := yr_FR I.1 (by omega : c ≠ t) hw
    refine br_f hn ⟨hin, br_f (by rw [hcl, hl]; decide) ⟨hin, nm_r (e' := nI c) (by rw [hcl, hf]) ⟨hin, br_t (by rw [hcl, hl]; rfl) ⟨vp_in_nI (by omega) (by decide), ?_⟩⟩⟩⟩
    rw [hcc]
    have go : ∀ r' ss' : Nat → Int32, yr_F t r ss r' ss' → yr_R t (fun q => tl_sum (fun p => tl_bi (oS (4 * m + p)) q (w p)) (i + 1)) r' ss' →
        ∃ n141 : Nat, wY_judge_141 post (wY_judge_64 post (nI m) (nI t) n) (nI m) (nI t) (nI i) (nI c) n141 0 yn ye ys yd lS oS tS fS le fI sE si bg tO ra ss' r' mk sk op := by
      intro r' ss' f g
      exact ⟨1, br_f (by decide) ⟨hin, br_f (by rw [hcl, hl]; decide) (nm_r (nI_1 i) (K (r', ss') ⟨yr_Ft I.1 f, g⟩))⟩⟩
    by_cases hb : bt (ss c) i = true
    · have e1 := yr_4 m i
      have e2 := yr_4 c i
      have hwi : 0 < w i := by
        have := hcR.2.2 i hi
        rw [hb] at this
        exact of_decide_eq_true this.symm
      refine br_t (by rw [tl_bit1 _ (by omega), hb]) ⟨pk_in (4 * m + i) 8 (by omega) e1, pk_in (4 * c + i) 2400 (by omega) e2, ?_⟩
      refine yr_allow (s := oS (4 * m + i)) (v := w i) (fun q => tl_sum (fun p => tl_bi (oS (4 * m + p)) q (w p)) i) ht ?_ ?_ (h4 _) hwi I.2 ?_
      · rw [pk_cl (4 * m + i) e1]
      · rw [pk_cl (4 * c + i) e2]; exact hcR.1 i hi
      · intro r' ss' f g
        exact go r' ss' f g
    · have hwi : w i = 0 := by
        have := hcR.2.2 i hi
        rw [Bool.not_eq_true _ |>.mp hb] at this
        have := of_decide_eq_false this.symm
        omega
      refine br_f (by rw [tl_bit1 _ (by omega)]; exact hb) (go r ss ⟨fun _ _ => rfl, fun _ _ => rfl⟩ (yr_RE (fun q _ => ?_) I.2))
      show _ = tl_sum (fun p => tl_bi (oS (4 * m + p)) q (w p)) i + tl_bi (oS (4 * m + i)) q (w i)
      rw [hwi, tl_bi0]; rfl
/-- letter 3: both loops -/
theorem yr_j3 {post : SY → Prop} {m t c d : Nat} (w v : Nat → Nat) (hm : m < 2) (ht : t < 600) (hc : c < t) (hd : d < t) (hl : le t = nI 3) (hf : fI t = nI c) (hg : sE t = nI d) (h4 : ∀ j, tl_S4 (tS j))
    (hw : yr_R c w wy sts) (hv : yr_R d v wy sts) (h0 : yr_R t (fun _ => 0) wy sts)
    (h : ∀ wy' sts' : Nat → Int32, yr_F t wy sts wy' sts' → yr_R t (fun q => tl_sum (fun j => tl_bi (tS (16 * m + j)) q (w (j % 4) * v (j / 4))) 16) wy' sts' → post (yn, ye, ys, yd, lS, oS, tS, fS, le, fI, sE, si, bg, tO, ra, sts', wy', mk, sk, op)) :
    ∃ n, wY_judge_64 post (nI m) (nI t) n 0 yn ye ys yd lS oS tS fS le fI sE si bg tO ra sts wy mk sk op := by
  have hin : vp_in (nI t) 600 := vp_in_nI ht (by decide)
  have hcl : (nI t).toNatClampNeg = t := nI_clamp (by omega)
  have hcc : (nI c).toNatClampNeg = c := nI_clamp (by omega)
  have hdd : (nI d).toNatClampNeg = d := nI_clamp (by omega)
  refine loop_0 (fun n i (s : (Nat → Int32) × (Nat → Int32)) => wY_judge_64 post (nI m) (nI t) n (nI i) yn ye ys yd lS oS tS fS le fI sE si bg tO ra s.2 s.1 mk sk op)
    (fun i s => yr_F t wy sts s.1 s.2 ∧ yr_R t (fun q => tl_sum (fun a => tl_sum (fun b => tl_bi (tS (16 * m + (a + 4 * b))) q (w a * v b)) 4) i) s.1 s.2) 4 (wy, sts) ⟨⟨fun _ _ => rfl, fun _ _ => rfl⟩, h0⟩ ?_ ?_
  · intro n s I
    refine br_t (by decide) (h _ _ I.1 (yr_RE (fun q _ => ?_) I.2))
    rw [← tl_sum44]
    refine tl_sumE 4 fun a ha => tl_sumE 4 fun b hb => ?_
    rw [show (a + 4 * b) % 4 = a by omega, show (a + 4 * b) / 4 = b by omega]
  · intro n i s hi I K
    obtain ⟨r, ss⟩ := s
    have hn : ¬ (4 : Int32) ≤ nI i := nI_ge (b := 4) hi (by decide)
    refine br_f hn ⟨hin, br_f (by rw [hcl, hl]; decide) ⟨hin, nm_r (e' := nI c) (by rw [hcl, hf]) ⟨hin, br_f (by rw [hcl, hl]; decide) ?_⟩⟩⟩
    refine loop_0 (fun n' j (s : (Nat → Int32) × (Nat → Int32)) => wY_judge_141 post (wY_judge_64 post (nI m) (nI t) n) (nI m) (nI t) (nI i) (nI c) n' (nI j) yn ye ys yd lS oS tS fS le fI sE si bg tO ra s.2 s.1 mk sk op)
      (fun j s => yr_F t wy sts s.1 s.2 ∧ yr_R t (fun q => tl_sum (fun a => tl_sum (fun b => tl_bi (tS (16 * m + (a + 4 * b))) q (w a * v b)) 4) i + tl_sum (fun b => tl_bi (tS (16 * m + (i + 4 * b))) q (w i * v b)) j) s.1 s.2) 4 (r, ss) I ?_ ?_
    · intro n' s J
      exact br_t (by decide) (nm_r (nI_1 i) (K s J))
    · intro n' j s hj J L
      obtain ⟨r, ss⟩ := s
      have hn : ¬ (4 : Int32) ≤ nI j := nI_ge (b := 4) hj (by decide)
      have hcR := yr_FR J.1 (by omega : c ≠ t) hw
      have hdR := yr_FR J.1 (by omega : d ≠ t) hv
      have skip : w i * v j = 0 → ∀ k : Int32, k = nI j + 1 → wY_judge_141 post (wY_judge_64 post (nI m) (nI t) n) (nI m) (nI t) (nI i) (nI c) n' k yn ye ys yd lS oS tS fS le fI sE si bg tO ra ss r mk sk op := by
        intro e0
        refine nm_r (nI_1 j) (L (r, ss) ⟨J.1, yr_RE (fun q _ => ?_) J.2⟩)
        show _ = _ + (tl_sum (fun b => tl_bi (tS (16 * m + (i + 4 * b))) q (w i * v b)) j + tl_bi (tS (16 * m + (i + 4 * j))) q (w i * v j))
        rw [e0, tl_bi0]; rfl
      refine br_f hn ⟨hin, br_t (by rw [hcl, hl]; rfl) ⟨hin, nm_r (e' := nI d) (by rw [hcl, hg]) ⟨vp_in_nI (by omega) (by decide), ?_⟩⟩⟩
      rw [hcc, hdd]
      by_cases hb : bt (ss c) i = true
      · refine br_t (by rw [tl_bit1 _ (by omega), hb]) ⟨vp_in_nI (by omega) (by decide), ?_⟩
        by_cases hb2 : bt (ss d) j = true
        · refine br_t (by rw [tl_bit1 _ (by omega), hb2]) ?_
          have e1 : 16 * nI m + nI i + 4 * nI j = nI (16 * m + (i + 4 * j)) := by
            rw [show (16 : Int32) = nI 16 from rfl, show (4 : Int32) = nI 4 from rfl, pk_mul, pk_mul, nI_add, nI_add, Nat.add_assoc]
          have e2 := yr_4 c i
          have e3 := yr_4 d j
          have p1 : 0 < w i := by
            have := hcR.2.2 i hi
            rw [hb] at this
            exact of_decide_eq_true this.symm
          have p2 : 0 < v j := by
            have := hdR.2.2 j hj
            rw [hb2] at this
            exact of_decide_eq_true this.symm
          refine br_f (by decide) ⟨pk_in (16 * m + (i + 4 * j)) 32 (by omega) e1, pk_in (4 * c + i) 2400 (by omega) e2, pk_in (4 * d + j) 2400 (by omega) e3, ?_⟩
          refine yr_allow (s := tS (16 * m + (i + 4 * j))) (v := w i * v j) _ ht ?_ ?_ (h4 _) (Nat.mul_pos p1 p2) J.2 ?_
          · rw [pk_cl _ e1]
          · rw [pk_cl _ e2, pk_cl _ e3, hcR.1 i hi, hdR.1 j hj, pk_mul]
          · intro r' ss' f g
            exact nm_r (nI_1 j) (L (r', ss') ⟨yr_Ft J.1 f, yr_RE (fun q _ => Nat.add_assoc _ _ _) g⟩)
        · refine br_f (by rw [tl_bit1 _ (by omega)]; exact hb2) (br_t rfl (skip ?_))
          have := hdR.2.2 j hj
          rw [Bool.not_eq_true _ |>.mp hb2] at this
          have := of_decide_eq_false this.symm
          rw [show v j = 0 by omega]; rfl
      · refine br_f (by rw [tl_bit1 _ (by omega)]; exact hb) (br_t rfl (skip ?_))
        have := hcR.2.2 i hi
        rw [Bool.not_eq_true _ |>.mp hb] at this
        have := of_decide_eq_false this.symm
        rw [show w i = 0 by omega, Nat.zero_mul]
end
end
section
section
variable {yn ye ys yd : Int32} {lS oS tS fS le fI sE si bg tO ra sts wy mk sk op : Nat → Int32}
variable {l c d z : Nat → Nat}
/-- the reference's arrays hold the trees below T -/
def yr_TA (T : Nat) (l c d : Nat → Nat) (le fI sE : Nat → Int32) : Prop := ∀ t, t < T → le t = nI (l t) ∧ (2 ≤ l t → fI t = nI (c t)) ∧ (l t = 3 → sE t = nI (d t))
theorem yr_jL {post : SY → Prop} {m t : Nat} (ht : t < 600) {a : Nat} (ha : a < 2) (hl : le t = nI a) (h : post (yn, ye, ys, yd, lS, oS, tS, fS, le, fI, sE, si, bg, tO, ra, sts, wy, mk, sk, op)) : ∃ n, wY_judge_64 post (nI m) (nI t) n 0 yn ye ys yd lS oS tS fS le fI sE si bg tO ra sts wy mk sk op := by
  have hin : vp_in (nI t) 600 := vp_in_nI ht (by decide)
  have hcl : (nI t).toNatClampNeg = t := nI_clamp (by omega)
  exact ⟨1, br_f (by decide) ⟨hin, br_t (by rw [hcl, hl]; exact nI_lt (b := 2) ha (by decide)) h⟩⟩
theorem yr_judge {post : SY → Prop} {m t T : Nat} (hm : m < 2) (ht : t < 600) (hT : t < T) (tp : tl_TP T l c d z) (ta : yr_TA T l c d le fI sE)
    (h4l : ∀ j, tl_S4 (lS j)) (h4o : ∀ j, tl_S4 (oS j)) (h4t : ∀ j, tl_S4 (tS j))
    (hp : ∀ u, u < t → yr_R u (tl_w lS oS tS m l c d u) wy sts)
    (h : ∀ wy' sts' : Nat → Int32, yr_F t wy sts wy' sts' → yr_R t (tl_w lS oS tS m l c d t) wy' sts' → post (yn, ye, ys, yd, lS, oS, tS, fS, le, fI, sE, si, bg, tO, ra, sts', wy', mk, sk, op)) :
    wpY_judge post (yn, ye, ys, yd, lS, oS, tS, fS, le, fI, sE, si, bg, tO, ra, sts, wy, mk, sk, op) (nI m) (nI t) := by
  have hin : vp_in (nI t) 600 := vp_in_nI ht (by decide)
  have hcl : (nI t).toNatClampNeg = t := nI_clamp (by omega)
  obtain ⟨a1, a2, a3⟩ := ta t hT
  obtain ⟨b1, b2, b3, _⟩ := tp t hT
  refine loop_0 (fun n i (r : Nat → Int32) => wY_judge_2 post (nI m) (nI t) yn ye ys yd n (nI i) lS oS tS fS le fI sE si bg tO ra sts r mk sk op)
    (fun i r => (∀ j, j < 4 * t ∨ 4 * t + 4 ≤ j → r j = wy j) ∧ ∀ q, q < i → r (4 * t + q) = nI 0) 4 wy ⟨fun _ _ => rfl, fun q hq => absurd hq (Nat.not_lt_zero q)⟩ ?_ ?_
  · intro n r I
    have hF : yr_F t wy sts r (upd sts t 0) := ⟨I.1, fun j hj => pk_un hj⟩
    have h0 : yr_R t (fun _ => 0) r (upd sts t 0) := ⟨I.2, by rw [pk_us]; exact ⟨tl_s40, fun q _ => by rw [b_0]; rfl⟩⟩
    refine br_t (by decide) ⟨hin, nm_r (e' := upd sts t 0) (by rw [hcl]) ⟨hin, ?_⟩⟩
    rw [hcl, a1]
    by_cases e3 : l t = 3
    · refine br_t (by rw [e3]; decide) ?_
      have hc := b2 (by omega)
      have hd := b3 e3
      refine yr_j3 (tl_w lS oS tS m l c d (c t)) (tl_w lS oS tS m l c d (d t)) hm ht hc hd (by rw [a1, e3]) (a2 (by omega)) (a3 e3) h4t (yr_FR hF (by omega) (hp _ hc)) (yr_FR hF (by omega) (hp _ hd)) h0 ?_
      intro r' s' f g
      exact h r' s' (yr_Ft hF f) (yr_RE (fun q _ => (tl_w3 tp hT e3).symm) g)
    · by_cases e2 : l t = 2
      · refine br_t (by rw [e2]; decide) ?_
        have hc := b2 (by omega)
        refine yr_j2 (tl_w lS oS tS m l c d (c t)) hm ht hc (by rw [a1, e2]) (a2 (by omega)) h4o (yr_FR hF (by omega) (hp _ hc)) h0 ?_
        intro r' s' f g
        exact h r' s' (yr_Ft hF f) (yr_RE (fun q _ => (tl_w2 tp hT e2).symm) g)
      · have e1 : 2 * nI m + nI (l t) = nI (2 * m + l t) := by rw [show (2 : Int32) = nI 2 from rfl, pk_mul, nI_add]
        refine br_f (nI_ge (b := 2) (by omega) (by decide)) ⟨hin, pk_in (2 * m + l t) 4 (by omega) e1, ?_⟩
        refine yr_allow (s := lS (2 * m + l t)) (v := 1) (fun _ => 0) ht (by rw [pk_cl _ e1]) rfl (h4l _) (by decide) h0 ?_
        intro r' s' f g
        exact yr_jL ht (by omega : l t < 2) a1 (h r' s' (yr_Ft hF f) (yr_RE (fun q _ => by rw [tl_w1 tp hT (by omega), Nat.zero_add]) g))
  · intro n i r hi I K
    have hn : ¬ (4 : Int32) ≤ nI i := nI_ge (b := 4) hi (by decide)
    have e := yr_4 t i
    refine br_f hn ⟨pk_in (4 * t + i) 2400 (by omega) e, nm_r (e' := upd r (4 * t + i) (nI 0)) (by rw [pk_cl (4 * t + i) e]; rfl) (nm_r (nI_1 i) (K _ ⟨?_, ?_⟩))⟩
    · intro j hj
      rw [pk_un (by omega)]; exact I.1 j hj
    · intro q hq
      by_cases eq : q = i
      · subst eq; exact pk_us
      · rw [pk_un (by omega)]; exact I.2 q (by omega)
theorem yr_all {post : SY → Prop} {m T : Nat} (hm : m < 2) (hT : T ≤ 600) (hyT : yn + ye = nI T) (tp : tl_TP T l c d z) (ta : yr_TA T l c d le fI sE)
    (h4l : ∀ j, tl_S4 (lS j)) (h4o : ∀ j, tl_S4 (oS j)) (h4t : ∀ j, tl_S4 (tS j))
    (h : ∀ wy' sts' : Nat → Int32, (∀ t, t < T → yr_R t (tl_w lS oS tS m l c d t) wy' sts') → post (yn, ye, ys, yd, lS, oS, tS, fS, le, fI, sE, si, bg, tO, ra, sts', wy', mk, sk, op)) :
    wpY_judgeAll post (yn, ye, ys, yd, lS, oS, tS, fS, le, fI, sE, si, bg, tO, ra, sts, wy, mk, sk, op) (nI m) := by
  refine loop_0 (fun n i (s : (Nat → Int32) × (Nat → Int32)) => wY_judgeAll_2 post (nI m) n (nI i) yn ye ys yd lS oS tS fS le fI sE si bg tO ra s.2 s.1 mk sk op)
    (fun i s => ∀ t, t < i → yr_R t (tl_w lS oS tS m l c d t) s.1 s.2) T (wy, sts) (fun t ht => absurd ht (Nat.not_lt_zero t)) ?_ ?_
  · intro n s I
    exact br_t (by rw [hyT]; exact nI_le (Nat.le_refl T) (by omega)) (h _ _ I)
  · intro n i s hi I K
    obtain ⟨r, ss⟩ := s
    refine br_f (by rw [hyT]; exact nI_ge hi (by omega)) ?_
    refine yr_judge hm (by omega) hi tp ta h4l h4o h4t I ?_
    intro r' s' f g
    refine nm_r (nI_1 i) (K (r', s') fun t ht => ?_)
    by_cases et : t = i
    · subst et; exact g
    · exact yr_FR f et (I t (by omega))
theorem tl_accE {s f : Int32} {w : Nat → Nat} (hr : tl_Row s w) : (s &&& f) = 0 ↔ tl_acc f w = false := by
  unfold tl_acc
  rw [decide_eq_false_iff_not]
  constructor
  · intro e hp
    have hz : ∀ q, q < 4 → tl_bi f q (w q) ≤ 0 := by
      intro q hq
      unfold tl_bi
      split
      · rename_i hb
        have e1 : bt (s &&& f) q = false := by rw [e, b_0]
        rw [b_and, hb, Bool.and_true, hr.2 q hq] at e1
        have := of_decide_eq_false e1
        omega
      · omega
    have := tl_4up hz
    omega
  · intro hp
    apply b_ext
    intro i _
    rw [b_and, b_0]
    rcases Nat.lt_or_ge i 4 with h4 | h4
    · have hb := tl_sumLe (f := fun q => tl_bi f q (w q)) h4
      have hb0 : tl_bi f i (w i) = 0 := by
        have : tl_bi f i (w i) ≤ tl_sum (fun q => tl_bi f q (w q)) 4 := hb
        omega
      unfold tl_bi at hb0
      by_cases e : bt f i = true
      · rw [if_pos e] at hb0
        rw [hr.2 i h4, hb0]; rfl
      · simp [e]
    · rw [hr.1 i h4]; rfl
/-- the mark of a tree that the two automata judge so -/
def yr_mk (a b : Bool) : Int32 := nI (a.toNat + 2 * b.toNat)
theorem yr_mark {post : SY → Prop} {T : Nat} (hT : T ≤ 600) (h5 : 570 ≤ T) (hyn : yn = nI 570) (hyT : yn + ye = nI T) (tp : tl_TP T l c d z) (ta : yr_TA T l c d le fI sE)
    (h4l : ∀ j, tl_S4 (lS j)) (h4o : ∀ j, tl_S4 (oS j)) (h4t : ∀ j, tl_S4 (tS j))
    (h : ∀ wy' sts' mk' : Nat → Int32, (∀ t, t < 570 → mk' t = yr_mk (tl_acc (fS 0) (tl_w lS oS tS 0 l c d t)) (tl_acc (fS 1) (tl_w lS oS tS 1 l c d t))) → post (yn, ye, ys, yd, lS, oS, tS, fS, le, fI, sE, si, bg, tO, ra, sts', wy', mk', sk, op)) :
    wpY_mark post (yn, ye, ys, yd, lS, oS, tS, fS, le, fI, sE, si, bg, tO, ra, sts, wy, mk, sk, op) := by
  refine yr_all (m := 0) (by decide) hT hyT tp ta h4l h4o h4t ?_
  intro w1 s1 r1
  refine loop_0 (fun n i (r : Nat → Int32) => wY_mark_7 post yn ye ys yd n (nI i) lS oS tS fS le fI sE si bg tO ra s1 w1 r sk op)
    (fun i r => ∀ t, t < i → r t = nI ((tl_acc (fS 0) (tl_w lS oS tS 0 l c d t)).toNat)) 570 mk (fun t ht => absurd ht (Nat.not_lt_zero t)) ?_ ?_
  · intro n r I
    refine br_t (by rw [hyn]; decide) ?_
    refine yr_all (m := 1) (by decide) hT hyT tp ta h4l h4o h4t ?_
    intro w2 s2 r2
    refine loop_0 (fun n i (r : Nat → Int32) => wY_mark_55 post yn ye ys yd n (nI i) lS oS tS fS le fI sE si bg tO ra s2 w2 r sk op)
      (fun i r => (∀ t, t < i → r t = yr_mk (tl_acc (fS 0) (tl_w lS oS tS 0 l c d t)) (tl_acc (fS 1) (tl_w lS oS tS 1 l c d t))) ∧ ∀ t, i ≤ t → t < 570 → r t = nI ((tl_acc (fS 0) (tl_w lS oS tS 0 l c d t)).toNat)) 570 r ⟨fun t ht => absurd ht (Nat.not_lt_zero t), fun t _ ht => I t ht⟩ ?_ ?_
    · intro n r J
      exact br_t (by rw [hyn]; decide) (h _ _ _ J.1)
    · intro n i r hi J K
      have hin : vp_in (nI i) 600 := vp_in_nI (by omega) (by decide)
      have hcl : (nI i).toNatClampNeg = i := nI_clamp (by omega)
      have hr := r2 i (by omega)
      refine br_f (by rw [hyn]; exact nI_ge hi (by decide)) ⟨hin, hin, ?_⟩
      rw [hcl]
      have step : ∀ x : Int32, x = yr_mk (tl_acc (fS 0) (tl_w lS oS tS 0 l c d i)) (tl_acc (fS 1) (tl_w lS oS tS 1 l c d i)) → wY_mark_55 post yn ye ys yd n (nI (i + 1)) lS oS tS fS le fI sE si bg tO ra s2 w2 (upd r i x) sk op := by
        intro x ex
        refine K (upd r i x) ⟨fun t ht => ?_, fun t ht h5 => ?_⟩
        · by_cases et : t = i
          · subst et; rw [pk_us]; exact ex
          · rw [pk_un et]; exact J.1 t (by omega)
        · rw [pk_un (by omega)]; exact J.2 t (by omega) h5
      have e0 := J.2 i (Nat.le_refl i) hi
      by_cases hz : (s2 i &&& fS 1) = 0
      · refine br_t hz ⟨hin, nm_e (nm_r (nI_1 i) (step _ ?_))⟩
        rw [e0, (tl_accE hr.2).mp hz, Int32.add_zero]; rfl
      · have hz2 : tl_acc (fS 1) (tl_w lS oS tS 1 l c d i) = true := by
          cases hx : tl_acc (fS 1) (tl_w lS oS tS 1 l c d i)
          · exact absurd ((tl_accE hr.2).mpr hx) hz
          · rfl
        refine br_f hz ⟨hin, nm_e (nm_r (nI_1 i) (step _ ?_))⟩
        rw [e0, hz2]; exact nI_add _ 2
  · intro n i r hi I K
    have hin : vp_in (nI i) 600 := vp_in_nI (by omega) (by decide)
    have hcl : (nI i).toNatClampNeg = i := nI_clamp (by omega)
    have hr := r1 i (by omega)
    refine br_f (by rw [hyn]; exact nI_ge hi (by decide)) ⟨hin, ?_⟩
    rw [hcl]
    have step : ∀ x : Int32, x = nI ((tl_acc (fS 0) (tl_w lS oS tS 0 l c d i)).toNat) → wY_mark_7 post yn ye ys yd n (nI (i + 1)) lS oS tS fS le fI sE si bg tO ra s1 w1 (upd r i x) sk op := by
      intro x ex
      refine K (upd r i x) fun t ht => ?_
      by_cases et : t = i
      · subst et; rw [pk_us]; exact ex
      · rw [pk_un et]; exact I t (by omega)
    by_cases hz : (s1 i &&& fS 0) = 0
    · refine br_t hz ⟨hin, nm_e (nm_r (nI_1 i) (step _ ?_))⟩
      rw [(tl_accE hr.2).mp hz]; rfl
    · have hz2 : tl_acc (fS 0) (tl_w lS oS tS 0 l c d i) = true := by
        cases hx : tl_acc (fS 0) (tl_w lS oS tS 0 l c d i)
        · exact absurd ((tl_accE hr.2).mpr hx) hz
        · rfl
      refine br_f hz ⟨hin, nm_e (nm_r (nI_1 i) (step _ ?_))⟩
      rw [hz2]; rfl
theorem yr_isOf {post : Int32 → Prop} {k : Nat} (hk : k < 7) (a b : Bool) (h : post (xr_B (tl_kind k a b))) : wpY_isOf post (yn, ye, ys, yd, lS, oS, tS, fS, le, fI, sE, si, bg, tO, ra, sts, wy, mk, sk, op) (nI k) (yr_mk a b) := by
  have hc : k = 0 ∨ k = 1 ∨ k = 2 ∨ k = 3 ∨ k = 4 ∨ k = 5 ∨ k = 6 := by omega
  unfold wpY_isOf
  rcases hc with rfl | rfl | rfl | rfl | rfl | rfl | rfl <;> cases a <;> cases b <;>
    (repeat (first | exact h | refine br_t (by decide) ?_ | refine br_f (by decide) ?_ | refine ⟨by decide, ?_⟩))
theorem yr_cnt {post : Int32 → Prop} {k n a b : Nat} {K0 K1 : Nat → Bool} (hk : k < 7) (hK : ∀ t, t < 570 → mk t = yr_mk (K0 t) (K1 t)) (hn : n < 8) (ha : bg n = nI a) (hb : bg (n + 1) = nI b) (hab : a ≤ b) (hb5 : b ≤ 570)
    (h : post (nI (tl_sum (fun j => (tl_kind k (K0 (a + j)) (K1 (a + j))).toNat) (b - a)))) : wpY_counted post (yn, ye, ys, yd, lS, oS, tS, fS, le, fI, sE, si, bg, tO, ra, sts, wy, mk, sk, op) (nI k) (nI n) := by
  have hin := pk_in (n + 1) 9 (by omega) (nI_1 n)
  refine ⟨vp_in_nI (by omega) (by decide), nm_r (e' := nI a) (by rw [nI_clamp (by omega), ha]) ?_⟩
  refine loop_0 (fun f i (r : Int32) => wY_counted_10 post (nI k) (nI n) yn ye ys yd lS oS tS fS le fI sE si bg tO ra sts wy mk sk op f r (nI (a + i)))
    (fun i r => r = nI (tl_sum (fun j => (tl_kind k (K0 (a + j)) (K1 (a + j))).toNat) i)) (b - a) 0 rfl ?_ ?_
  · intro f r I
    exact ⟨hin, br_t (by rw [pk_cl (n + 1) (nI_1 n), hb]; exact nI_le (by omega) (by omega)) (by rw [I]; exact h)⟩
  · intro f i r hi I L
    refine ⟨hin, br_f (by rw [pk_cl (n + 1) (nI_1 n), hb]; exact nI_ge (by omega) (by omega)) ⟨vp_in_nI (by omega) (by decide), ?_⟩⟩
    rw [nI_clamp (by omega : a + i < 2 ^ 31), hK (a + i) (by omega)]
    refine yr_isOf hk _ _ ?_
    have ei : nI (a + i) + 1 = nI (a + (i + 1)) := nI_1 _
    cases hk : tl_kind k (K0 (a + i)) (K1 (a + i))
    · refine br_t (by decide) (nm_r ei (L _ ?_))
      show r = nI (tl_sum (fun j => (tl_kind k (K0 (a + j)) (K1 (a + j))).toNat) i + (tl_kind k (K0 (a + i)) (K1 (a + i))).toNat)
      rw [hk]; exact I
    · refine br_f (by decide) (nm_r (e' := nI (tl_sum (fun j => (tl_kind k (K0 (a + j)) (K1 (a + j))).toNat) (i + 1))) ?_ (nm_r ei (L _ rfl)))
      show r + 1 = nI (tl_sum (fun j => (tl_kind k (K0 (a + j)) (K1 (a + j))).toNat) i + (tl_kind k (K0 (a + i)) (K1 (a + i))).toNat)
      rw [hk, I]; exact nI_1 _
theorem yr_find {post : Int32 → SY → Prop} {k n a b : Nat} {x : Int32} {K0 K1 : Nat → Bool} (hk : k < 7) (hK : ∀ t, t < 570 → mk t = yr_mk (K0 t) (K1 t)) (hn : n < 8) (hb : bg (n + 1) = nI b) (hab : a ≤ b) (hb5 : b ≤ 570)
    (hN : tl_find (fun t => tl_kind k (K0 t) (K1 t)) x (b - a) 0 a = none → post (-4) (yn, ye, ys, yd, lS, oS, tS, fS, le, fI, sE, si, bg, tO, ra, sts, wy, mk, sk, op))
    (hS : ∀ t, tl_find (fun t => tl_kind k (K0 t) (K1 t)) x (b - a) 0 a = some t → post 0 (yn, 0, nI n, 1, lS, oS, tS, fS, le, fI, sE, si, bg, tO, ra, sts, wy, mk, upd sk 0 (nI t), op)) :
    ∃ f, wY_load_36 post (nI k) (nI n) x yn ye ys yd lS oS tS fS le fI sE si bg tO ra sts wy mk sk op f 0 (nI a) := by
  have hin := pk_in (n + 1) 9 (by omega) (nI_1 n)
  have main : ∀ f i (y : Int32), i + f = b → (tl_find (fun t => tl_kind k (K0 t) (K1 t)) x f y i = none → post (-4) (yn, ye, ys, yd, lS, oS, tS, fS, le, fI, sE, si, bg, tO, ra, sts, wy, mk, sk, op)) → (∀ t, tl_find (fun t => tl_kind k (K0 t) (K1 t)) x f y i = some t → post 0 (yn, 0, nI n, 1, lS, oS, tS, fS, le, fI, sE, si, bg, tO, ra, sts, wy, mk, upd sk 0 (nI t), op)) → wY_load_36 post (nI k) (nI n) x yn ye ys yd lS oS tS fS le fI sE si bg tO ra sts wy mk sk op (f + 1) y (nI i) := by
    intro f
    induction f with
    | zero =>
      intro i y e hN _
      exact ⟨hin, br_t (by rw [pk_cl (n + 1) (nI_1 n), hb]; exact nI_le (by omega) (by omega)) (hN rfl)⟩
    | succ f ih =>
      intro i y e hN hS
      refine ⟨hin, br_f (by rw [pk_cl (n + 1) (nI_1 n), hb]; exact nI_ge (by omega) (by omega)) ⟨vp_in_nI (by omega) (by decide), ?_⟩⟩
      rw [nI_clamp (by omega : i < 2 ^ 31), hK i (by omega)]
      refine yr_isOf hk _ _ ?_
      cases hk : tl_kind k (K0 i) (K1 i)
      · have ef : tl_find (fun t => tl_kind k (K0 t) (K1 t)) x (f + 1) y i = tl_find (fun t => tl_kind k (K0 t) (K1 t)) x f y (i + 1) := by
          show (if tl_kind k (K0 i) (K1 i) = true then _ else _) = _
          rw [hk]; rfl
        rw [ef] at hN hS
        exact br_t (by decide) (nm_r (nI_1 i) (ih (i + 1) y (by omega) hN hS))
      · refine br_f (by decide) ?_
        by_cases hy : y = x
        · refine br_t hy (nm_e (hS i ?_))
          show (if tl_kind k (K0 i) (K1 i) = true then _ else _) = _
          rw [hk, if_pos rfl, if_pos hy]
        · have ef : tl_find (fun t => tl_kind k (K0 t) (K1 t)) x (f + 1) y i = tl_find (fun t => tl_kind k (K0 t) (K1 t)) x f (y + 1) (i + 1) := by
            show (if tl_kind k (K0 i) (K1 i) = true then _ else _) = _
            rw [hk, if_pos rfl, if_neg hy]
          rw [ef] at hN hS
          exact br_f hy (nm_e (nm_r (nI_1 i) (ih (i + 1) (y + 1) (by omega) hN hS)))
  exact ⟨_, main (b - a) a 0 (by omega) hN hS⟩
end
end
section
section
/-- the subtree whose top is letter k of tree t -/
def tl_sub (l c d z : Nat → Nat) : Nat → Nat → Nat → Nat
  | 0, t, _ => t
  | f + 1, t, k => if k = 0 then t else if l t = 3 ∧ z (c t) ≤ k - 1 then tl_sub l c d z f (d t) (k - 1 - z (c t)) else tl_sub l c d z f (c t) (k - 1)
def tl_su (l c d z : Nat → Nat) (t k : Nat) : Nat := tl_sub l c d z k t k
variable {l c d z : Nat → Nat}
theorem tl_sub0 (f t : Nat) : tl_sub l c d z f t 0 = t := by
  cases f with
  | zero => rfl
  | succ f => exact if_pos rfl
theorem tl_subF : ∀ f g t k, k ≤ f → k ≤ g → tl_sub l c d z f t k = tl_sub l c d z g t k := by
  intro f
  induction f with
  | zero =>
    intro g t k hf _
    have e : k = 0 := by omega
    subst e; rw [tl_sub0, tl_sub0]
  | succ f ih =>
    intro g t k hf hg
    cases g with
    | zero =>
      have e : k = 0 := by omega
      subst e; rw [tl_sub0, tl_sub0]
    | succ g =>
      unfold tl_sub
      by_cases e : k = 0
      · rw [if_pos e, if_pos e]
      · rw [if_neg e, if_neg e]
        by_cases h : l t = 3 ∧ z (c t) ≤ k - 1
        · rw [if_pos h, if_pos h]; exact ih g _ _ (by omega) (by omega)
        · rw [if_neg h, if_neg h]; exact ih g _ _ (by omega) (by omega)
theorem tl_su3 {t k : Nat} (h : l t = 3) (hz : z (c t) ≤ k) : tl_su l c d z t (k + 1) = tl_su l c d z (d t) (k - z (c t)) := by
  have e : tl_su l c d z t (k + 1) = if k + 1 = 0 then t else if l t = 3 ∧ z (c t) ≤ k then tl_sub l c d z k (d t) (k - z (c t)) else tl_sub l c d z k (c t) k := rfl
  rw [e, if_neg (by omega), if_pos ⟨h, hz⟩]; exact tl_subF _ _ _ _ (by omega) (Nat.le_refl _)
theorem tl_suN {t k : Nat} (h : ¬ (l t = 3 ∧ z (c t) ≤ k)) : tl_su l c d z t (k + 1) = tl_su l c d z (c t) k := by
  have e : tl_su l c d z t (k + 1) = if k + 1 = 0 then t else if l t = 3 ∧ z (c t) ≤ k then tl_sub l c d z k (d t) (k - z (c t)) else tl_sub l c d z k (c t) k := rfl
  rw [e, if_neg (by omega), if_neg h]; rfl
theorem tl_z1 {T t : Nat} (tp : tl_TP T l c d z) (h : t < T) : 1 ≤ z t := by
  obtain ⟨b1, _, _, z1, z2, z3, _⟩ := tp t h
  rcases Nat.lt_or_ge (l t) 2 with h | h
  · have := z1 h; omega
  · by_cases h3 : l t = 3
    · have := z3 h3; omega
    · have := z2 (by omega); omega
theorem tl_suLe {T : Nat} (tp : tl_TP T l c d z) : ∀ f k t, k ≤ f → t < T → k < z t → tl_su l c d z t k ≤ t := by
  intro f
  induction f with
  | zero =>
    intro k t hk _ _
    have e : k = 0 := by omega
    subst e; exact Nat.le_refl t
  | succ f ih =>
    intro k t hk hT hz
    obtain ⟨b1, b2, b3, z1, z2, z3, _⟩ := tp t hT
    cases k with
    | zero => exact Nat.le_refl t
    | succ k =>
      have h2 : 2 ≤ l t := by
        rcases Nat.lt_or_ge (l t) 2 with h | h
        · have := z1 h; omega
        · exact h
      have hc := b2 h2
      by_cases h3 : l t = 3
      · have hd := b3 h3
        have hz3 := z3 h3
        by_cases hk2 : z (c t) ≤ k
        · rw [tl_su3 h3 hk2]
          have := ih (k - z (c t)) (d t) (by omega) (by omega) (by omega)
          omega
        · rw [tl_suN (by omega)]
          have := ih k (c t) (by omega) (by omega) (by omega)
          omega
      · have hz2 := z2 (by omega)
        rw [tl_suN (by omega)]
        have := ih k (c t) (by omega) (by omega) (by omega)
        omega
end
section
variable {xt xd xm : Int32} {lS oS tS fS le fi se si ra tz st ru sk : Nat → Int32}
variable {l c d z : Nat → Nat}
theorem xr_sub {post : Int32 → Prop} {T : Nat} (hT : T ≤ 582) (tp : tl_TP T l c d z) (ta : xr_TA T l c d le fi se) (hsi : ∀ t, t < T → si t = nI (z t)) :
    ∀ f k t s, k ≤ f → k + s ≤ 11 → t < T → k < z t → post (nI (tl_su l c d z t k)) → wX_subtreeAt_8 post xt xd xm lS oS tS fS le fi se si ra tz st ru sk (f + 1) (nI t) (nI k) (nI s) := by
  intro f
  induction f with
  | zero =>
    intro k t s hk hs _ _ h
    have e : k = 0 := by omega
    subst e
    exact br_f (nI_ge (b := 12) (by omega) (by decide)) (br_t (by decide) h)
  | succ f ih =>
    intro k t s hk hs ht hz h
    refine br_f (nI_ge (b := 12) (by omega) (by decide)) ?_
    cases k with
    | zero => exact br_t (by decide) h
    | succ k =>
      obtain ⟨b1, b2, b3, z1, z2, z3, z12⟩ := tp t ht
      obtain ⟨a1, a2, a3⟩ := ta t ht
      have h2 : 2 ≤ l t := by
        rcases Nat.lt_or_ge (l t) 2 with h | h
        · have := z1 h; omega
        · exact h
      have hc := b2 h2
      have hin : vp_in (nI t) 582 := vp_in_nI (by omega) (by decide)
      have hcin : vp_in (nI (c t)) 582 := vp_in_nI (by omega) (by decide)
      have hcl : (nI t).toNatClampNeg = t := nI_clamp (by omega)
      have hcc : (nI (c t)).toNatClampNeg = c t := nI_clamp (by omega)
      refine br_f (nI_nle (by omega) (by omega)) ⟨hin, nm_r (e' := nI (c t)) (by rw [hcl, a2 h2]) (nm_r (nI_pred k) ⟨hin, ?_⟩)⟩
      rw [hcl, a1, hcc, hsi (c t) (by omega)]
      by_cases h3 : l t = 3
      · have hd := b3 h3
        have hz3 := z3 h3
        refine br_t (by rw [h3]; rfl) ⟨hcin, ?_⟩
        by_cases hk2 : z (c t) ≤ k
        · rw [tl_su3 h3 hk2] at h
          exact br_f (nI_nlt hk2 (by omega)) ⟨hcin, nm_r (pk_sub hk2) ⟨hin, nm_r (a3 h3) (nm_r (nI_1 s) (ih (k - z (c t)) (d t) (s + 1) (by omega) (by omega) (by omega) (by omega) h))⟩⟩
        · rw [tl_suN (by omega)] at h
          exact br_t (nI_lt (by omega) (by omega)) (nm_r (nI_1 s) (ih k (c t) (s + 1) (by omega) (by omega) (by omega) (by omega) h))
      · have hz2 := z2 (by omega)
        rw [tl_suN (by omega)] at h
        exact br_f (yr_ne (b := 3) h3 (by omega) (by decide)) (nm_r (nI_1 s) (ih k (c t) (s + 1) (by omega) (by omega) (by omega) (by omega) h))
end
section
variable {yn ye ys yd : Int32} {lS oS tS fS le fI sE si bg tO ra sts wy mk sk op : Nat → Int32}
variable {l c d z : Nat → Nat}
/-- a leaf has no children there, a tree with letter 2 no second one -/
def yr_TN (T : Nat) (l : Nat → Nat) (fI sE : Nat → Int32) : Prop := ∀ t, t < T → (l t < 2 → fI t = -1) ∧ (l t < 3 → sE t = -1)
theorem yr_walk {post : Int32 → SY → Prop} {T : Nat} {x1 : Int32} (hT : T ≤ 600) (tp : tl_TP T l c d z) (ta : yr_TA T l c d le fI sE) (tn : yr_TN T l fI sE) :
    ∀ t, t < T → ∀ (n p f : Nat) (op : Nat → Int32), n + z t ≤ 24 → p + z t ≤ 100 → op n = nI t →
      (∀ k, k < z t → x1 = nI (p + k) → ∀ op' : Nat → Int32, post (le (tl_su l c d z t k)) (yn, ye, ys, yd, lS, oS, tS, fS, le, fI, sE, si, bg, tO, ra, sts, wy, mk, sk, op')) →
      ((∀ k, k < z t → x1 ≠ nI (p + k)) → ∀ op' : Nat → Int32, (∀ j, j < n → op' j = op j) → wY_letter_31 post x1 yn ye ys yd f (nI n) (nI (p + z t)) lS oS tS fS le fI sE si bg tO ra sts wy mk sk op') →
      wY_letter_31 post x1 yn ye ys yd (f + z t) (nI (n + 1)) (nI p) lS oS tS fS le fI sE si bg tO ra sts wy mk sk op := by
  intro t
  induction t using Nat.strongRecOn with
  | ind t ih =>
    intro ht n p f op hn hp hop H1 H2
    obtain ⟨b1, b2, b3, z1, z2, z3, z12⟩ := tp t ht
    obtain ⟨a1, a2, a3⟩ := ta t ht
    obtain ⟨n1, n2⟩ := tn t ht
    have hin : vp_in (nI t) 600 := vp_in_nI (by omega) (by decide)
    have hcl : (nI t).toNatClampNeg = t := nI_clamp (by omega)
    have hnn : (nI n).toNatClampNeg = n := nI_clamp (by omega)
    have z0 : 1 ≤ z t := by
      rcases Nat.lt_or_ge (l t) 2 with h | h
      · have := z1 h; omega
      · by_cases h3 : l t = 3
        · have := z3 h3; omega
        · have := z2 (by omega); omega
    obtain ⟨y, hy⟩ : ∃ y, z t = y + 1 := ⟨z t - 1, by omega⟩
    rw [hy]
    refine br_f (nI_nle (by omega) (by omega)) (nm_r (pk_m1 n) ⟨vp_in_nI (by omega) (by decide), nm_r (e' := nI t) (by rw [hnn, hop]) ?_⟩)
    by_cases hx : nI p = x1
    · exact br_t hx ⟨hin, by rw [hcl]; exact H1 0 (by omega) hx.symm op⟩
    · refine br_f hx (nm_r (nI_1 p) ⟨hin, ?_⟩)
      rw [hcl]
      by_cases h3 : l t = 3
      · have hc := b2 (by omega)
        have hd := b3 h3
        have hz3 := z3 h3
        have hc1 := tl_z1 tp (by omega : c t < T)
        have hcn : (nI (n + 1)).toNatClampNeg = n + 1 := nI_clamp (by omega)
        rw [a3 h3]
        refine br_f (nI_pos (by omega)) ⟨hin, vp_in_nI (by omega) (by decide), nm_r (e' := upd op n (nI (d t))) (by rw [hnn]) (nm_r (nI_1 n) ⟨hin, ?_⟩)⟩
        rw [hcl, a2 (by omega)]
        refine br_f (nI_pos (by omega)) ⟨hin, vp_in_nI (by omega) (by decide), nm_r (e' := upd (upd op n (nI (d t))) (n + 1) (nI (c t))) (by rw [hcn]) (nm_r (nI_1 (n + 1)) ?_)⟩
        have ey : f + y = (f + z (d t)) + z (c t) := by omega
        show wY_letter_31 post x1 yn ye ys yd (f + y) (nI (n + 1 + 1)) (nI (p + 1)) lS oS tS fS le fI sE si bg tO ra sts wy mk sk (upd (upd op n (nI (d t))) (n + 1) (nI (c t)))
        rw [ey]
        refine ih (c t) hc (by omega) (n + 1) (p + 1) (f + z (d t)) _ (by omega) (by omega) pk_us ?_ ?_
        · intro k hk e op'
          have e1 := H1 (k + 1) (by omega) (by rw [e]; exact congrArg nI (by omega)) op'
          rw [tl_suN (by omega)] at e1
          exact e1
        · intro nk op' ag
          have ed : op' n = nI (d t) := by
            rw [ag n (by omega), pk_un (by omega), pk_us]
          refine ih (d t) hd (by omega) n (p + 1 + z (c t)) f op' (by omega) (by omega) ed ?_ ?_
          · intro k hk e op''
            have e1 := H1 (z (c t) + k + 1) (by omega) (by rw [e]; exact congrArg nI (by omega)) op''
            rw [tl_su3 h3 (by omega), show z (c t) + k - z (c t) = k by omega] at e1
            exact e1
          · intro nk2 op'' ag2
            have e2 : p + 1 + z (c t) + z (d t) = p + z t := by omega
            rw [e2]
            refine H2 ?_ op'' ?_
            · intro k hk e
              rcases Nat.lt_or_ge k 1 with h0 | h0
              · have : k = 0 := by omega
                subst this; exact hx e.symm
              · rcases Nat.lt_or_ge (k - 1) (z (c t)) with h1 | h1
                · exact nk (k - 1) h1 (by rw [e]; exact congrArg nI (by omega))
                · exact nk2 (k - 1 - z (c t)) (by omega) (by rw [e]; exact congrArg nI (by omega))
            · intro j hj
              rw [ag2 j hj, ag j (by omega), pk_un (by omega), pk_un (by omega)]
      · rw [n2 (by omega)]
        refine br_t (by decide) ⟨hin, ?_⟩
        rw [hcl]
        by_cases h2 : l t = 2
        · have hc := b2 (by omega)
          have hz2 := z2 h2
          rw [a2 (by omega)]
          refine br_f (nI_pos (by omega)) ⟨hin, vp_in_nI (by omega) (by decide), nm_r (e' := upd op n (nI (c t))) (by rw [hnn]) (nm_r (nI_1 n) ?_)⟩
          have ey : f + y = f + z (c t) := by omega
          show wY_letter_31 post x1 yn ye ys yd (f + y) (nI (n + 1)) (nI (p + 1)) lS oS tS fS le fI sE si bg tO ra sts wy mk sk (upd op n (nI (c t)))
          rw [ey]
          refine ih (c t) hc (by omega) n (p + 1) f _ (by omega) (by omega) pk_us ?_ ?_
          · intro k hk e op'
            have e1 := H1 (k + 1) (by omega) (by rw [e]; exact congrArg nI (by omega)) op'
            rw [tl_suN (by omega)] at e1
            exact e1
          · intro nk op' ag
            have e2 : p + 1 + z (c t) = p + z t := by omega
            rw [e2]
            refine H2 ?_ op' ?_
            · intro k hk e
              rcases Nat.lt_or_ge k 1 with h0 | h0
              · have : k = 0 := by omega
                subst this; exact hx e.symm
              · exact nk (k - 1) (by omega) (by rw [e]; exact congrArg nI (by omega))
            · intro j hj
              rw [ag j hj, pk_un (by omega)]
        · have hz1 := z1 (by omega)
          rw [n1 (by omega)]
          refine br_t (by decide) ?_
          have e1 : f + y = f := by omega
          have e2 : p + 1 = p + z t := by omega
          show wY_letter_31 post x1 yn ye ys yd (f + y) (nI n) (nI (p + 1)) lS oS tS fS le fI sE si bg tO ra sts wy mk sk op
          rw [e1, e2]
          refine H2 ?_ op (fun _ _ => rfl)
          intro k hk e
          have : k = 0 := by omega
          subst this; exact hx e.symm
end
end
section
section
/-- where the trees of each size begin in the list -/
def tl_S (n : Nat) : Nat :=
  match n with
  | 2 => 2
  | 3 => 4
  | 4 => 10
  | 5 => 24
  | 6 => 66
  | 7 => 188
  | 8 => 570
  | _ => 0
def tl_Fx (lS oS tS : Nat → Int32) : Prop := (∀ j, tl_S4 (lS j)) ∧ (∀ j, tl_S4 (oS j)) ∧ (∀ j, tl_S4 (tS j))
def tl_Tr (T : Nat) (l c d z : Nat → Nat) (le fi se fI sE si : Nat → Int32) : Prop :=
  tl_TP T l c d z ∧ xr_TA T l c d le fi se ∧ yr_TA T l c d le fI sE ∧ yr_TN T l fI sE ∧ ∀ t, t < T → si t = nI (z t)
def tl_Tb (z : Nat → Nat) (tz tO st bg : Nat → Int32) : Prop :=
  (∀ j, j < 12 → tO j = tz j) ∧ (∀ n, 1 ≤ n → n ≤ 8 → st n = nI (tl_S n) ∧ bg n = nI (tl_S n)) ∧ ∀ n, 1 ≤ n → n ≤ 7 → ∀ t, tl_S n ≤ t → t < tl_S (n + 1) → z t = n
def tl_Sk (e s D : Nat) (z : Nat → Nat) (sk : Nat → Int32) : Prop :=
  e ≤ s ∧ s ≤ 12 ∧ (∀ j, j < D → ∃ t, t < 570 + e ∧ sk j = nI t) ∧ tl_sum (fun j => z (sk j).toNatClampNeg) D ≤ s
/-- the two states: the same rules, trees, ranks and stack; the component's trees are counted from 570, its made letters are the reference's spent ones -/
def i_Rel (_ : Nat) (u : SX) (v : SY) : Prop :=
  ∃ (e s D : Nat) (l c d z : Nat → Nat) (lS oS tS fS le fi se si ra tz st ru sk fI sE bg tO sts wy mk op : Nat → Int32),
    u = (nI (570 + e), nI D, nI s, lS, oS, tS, fS, le, fi, se, si, ra, tz, st, ru, sk) ∧ v = (nI 570, nI e, nI s, nI D, lS, oS, tS, fS, le, fI, sE, si, bg, tO, ra, sts, wy, mk, sk, op) ∧
    tl_Fx lS oS tS ∧ tl_Tr (570 + e) l c d z le fi se fI sE si ∧ tl_Tb z tz tO st bg ∧ tl_Sk e s D z sk
theorem i_up {k : Nat} {u : SX} {v : SY} (h : i_Rel k u v) : i_Rel (k + 4) u v := h
theorem tl_TPm {T T' : Nat} {l c d z : Nat → Nat} (h : T' ≤ T) (a : tl_TP T l c d z) : tl_TP T' l c d z := fun t ht => a t (by omega)
theorem xr_TAm {T T' : Nat} {l c d : Nat → Nat} {le fi se : Nat → Int32} (h : T' ≤ T) (a : xr_TA T l c d le fi se) : xr_TA T' l c d le fi se := fun t ht => a t (by omega)
theorem yr_TAm {T T' : Nat} {l c d : Nat → Nat} {le fi se : Nat → Int32} (h : T' ≤ T) (a : yr_TA T l c d le fi se) : yr_TA T' l c d le fi se := fun t ht => a t (by omega)
theorem tl_Trm {T T' : Nat} {l c d z : Nat → Nat} {le fi se fI sE si : Nat → Int32} (h : T' ≤ T) (a : tl_Tr T l c d z le fi se fI sE si) : tl_Tr T' l c d z le fi se fI sE si :=
  ⟨tl_TPm h a.1, xr_TAm h a.2.1, yr_TAm h a.2.2.1, fun t ht => a.2.2.2.1 t (by omega), fun t ht => a.2.2.2.2 t (by omega)⟩
theorem pk_ix (x : Int32) {n : Nat} (hn : n < 2 ^ 31) : x < 0 ∨ nI n ≤ x ∨ ∃ j : Nat, j < n ∧ x = nI j := by
  by_cases h : x < 0
  · exact Or.inl h
  · obtain ⟨j, hj, rfl⟩ := nI_of h
    by_cases h2 : j < n
    · exact Or.inr (Or.inr ⟨j, h2, rfl⟩)
    · exact Or.inr (Or.inl (nI_le (by omega) hj))
/-! guards: v among nI 0 .. nI (n - 1), or not -/
theorem tl_out {v : Int32} (n : Nat) (hn : n < 2 ^ 31) (h : ¬ ∃ j, j < n ∧ v = nI j) : v < 0 ∨ (¬ v < 0 ∧ nI n ≤ v) := by
  rcases pk_ix v hn with a | a | a
  · exact Or.inl a
  · by_cases b : v < 0
    · exact Or.inl b
    · exact Or.inr ⟨b, a⟩
  · exact absurd a h
theorem tl_geT {j : Nat} {A B : Prop} (n : Nat) (hn : n < 2 ^ 31) (hj : j < n) (b : B) : (nI j < 0 → A) ∧ (¬ nI j < 0 → ((nI n ≤ nI j → A) ∧ (¬ nI n ≤ nI j → B))) :=
  br_f (nI_pos (by omega)) (br_f (nI_ge hj hn) b)
theorem tl_geF {v : Int32} {A B : Prop} (n : Nat) (hn : n < 2 ^ 31) (h : ¬ ∃ j, j < n ∧ v = nI j) (a : A) : (v < 0 → A) ∧ (¬ v < 0 → ((nI n ≤ v → A) ∧ (¬ nI n ≤ v → B))) := by
  rcases tl_out n hn h with x | x
  · exact br_t x a
  · exact br_f x.1 (br_t x.2 a)
theorem tl_gtT {j : Nat} {A B : Prop} (n : Nat) (hn : n < 2 ^ 30) (hj : j < n + 1) (b : B) : (nI j < 0 → A) ∧ (¬ nI j < 0 → ((nI n < nI j → A) ∧ (¬ nI n < nI j → B))) :=
  br_f (nI_pos (by omega)) (br_f (nI_nlt (by omega) (by omega)) b)
theorem tl_gtF {v : Int32} {A B : Prop} (n : Nat) (hn : n < 2 ^ 30) (h : ¬ ∃ j, j < n + 1 ∧ v = nI j) (a : A) : (v < 0 → A) ∧ (¬ v < 0 → ((nI n < v → A) ∧ (¬ nI n < v → B))) := by
  rcases tl_out (n + 1) (by omega) h with x | x
  · exact br_t x a
  · exact br_f x.1 (br_t (Int32.lt_of_lt_of_le (nI_lt (by omega) (by omega)) x.2) a)
theorem tl_leT {j : Nat} {A B : Prop} (n : Nat) (hn : n < 2 ^ 30) (hj : j < n + 1) (b : B) : (nI j < 0 → A) ∧ (¬ nI j < 0 → ((nI j ≤ nI n → B) ∧ (¬ nI j ≤ nI n → A))) :=
  br_f (nI_pos (by omega)) (br_t (nI_le (by omega) (by omega)) b)
theorem tl_leF {v : Int32} {A B : Prop} (n : Nat) (hn : n < 2 ^ 30) (h : ¬ ∃ j, j < n + 1 ∧ v = nI j) (a : A) : (v < 0 → A) ∧ (¬ v < 0 → ((v ≤ nI n → B) ∧ (¬ v ≤ nI n → A))) := by
  rcases tl_out (n + 1) (by omega) h with x | x
  · exact br_t x a
  · refine br_f x.1 (br_f ?_ a)
    have := Int32.lt_of_lt_of_le (nI_lt (Nat.lt_succ_self n) (by omega)) x.2
    exact Int32.not_le.mpr this
/-- a size from 1 to 7 -/
theorem tl_sz {v : Int32} (h : ¬ ∃ n, 1 ≤ n ∧ n ≤ 7 ∧ v = nI n) : v < 1 ∨ (¬ v < 1 ∧ (7 : Int32) < v) := by
  by_cases a : v < 1
  · exact Or.inl a
  · by_cases b : (7 : Int32) < v
    · exact Or.inr ⟨a, b⟩
    · have h0 : ¬ v < 0 := fun z => a (Int32.lt_trans z (by decide))
      obtain ⟨j, hj, rfl⟩ := nI_of h0
      have h7 : nI j ≤ nI 7 := Int32.not_lt.mp b
      have h1 : nI 1 ≤ nI j := Int32.not_lt.mp a
      rw [nI_leI hj (by decide)] at h7
      rw [nI_leI (by decide) hj] at h1
      exact absurd ⟨j, h1, h7, rfl⟩ h
end
section
variable {xt xd xm : Int32} {lS oS tS fS le fi se si ra tz st ru sk : Nat → Int32}
theorem xg_autT {post : Int32 → Prop} {j : Nat} (hj : j < 2) (h : post 1) : wpX_isAutomaton post (xt, xd, xm, lS, oS, tS, fS, le, fi, se, si, ra, tz, st, ru, sk) (nI j) := tl_geT 2 (by decide) hj h
theorem xg_autF {post : Int32 → Prop} {v : Int32} (hv : ¬ ∃ j, j < 2 ∧ v = nI j) (h : post 0) : wpX_isAutomaton post (xt, xd, xm, lS, oS, tS, fS, le, fi, se, si, ra, tz, st, ru, sk) v := tl_geF 2 (by decide) hv h
theorem xg_leafT {post : Int32 → Prop} {j : Nat} (hj : j < 2) (h : post 1) : wpX_isLeafLetter post (xt, xd, xm, lS, oS, tS, fS, le, fi, se, si, ra, tz, st, ru, sk) (nI j) := tl_geT 2 (by decide) hj h
theorem xg_leafF {post : Int32 → Prop} {v : Int32} (hv : ¬ ∃ j, j < 2 ∧ v = nI j) (h : post 0) : wpX_isLeafLetter post (xt, xd, xm, lS, oS, tS, fS, le, fi, se, si, ra, tz, st, ru, sk) v := tl_geF 2 (by decide) hv h
theorem xg_setT {post : Int32 → Prop} {j : Nat} (hj : j < 16) (h : post 1) : wpX_isSet post (xt, xd, xm, lS, oS, tS, fS, le, fi, se, si, ra, tz, st, ru, sk) (nI j) := tl_gtT 15 (by decide) hj h
theorem xg_setF {post : Int32 → Prop} {v : Int32} (hv : ¬ ∃ j, j < 16 ∧ v = nI j) (h : post 0) : wpX_isSet post (xt, xd, xm, lS, oS, tS, fS, le, fi, se, si, ra, tz, st, ru, sk) v := tl_gtF 15 (by decide) hv h
theorem xg_kindT {post : Int32 → Prop} {j : Nat} (hj : j < 7) (h : post 1) : wpX_isKind post (xt, xd, xm, lS, oS, tS, fS, le, fi, se, si, ra, tz, st, ru, sk) (nI j) := tl_geT 7 (by decide) hj h
theorem xg_kindF {post : Int32 → Prop} {v : Int32} (hv : ¬ ∃ j, j < 7 ∧ v = nI j) (h : post 0) : wpX_isKind post (xt, xd, xm, lS, oS, tS, fS, le, fi, se, si, ra, tz, st, ru, sk) v := tl_geF 7 (by decide) hv h
theorem xg_sizeT {post : Int32 → Prop} {n : Nat} (h1 : 1 ≤ n) (h7 : n ≤ 7) (h : post 1) : wpX_isListedSize post (xt, xd, xm, lS, oS, tS, fS, le, fi, se, si, ra, tz, st, ru, sk) (nI n) :=
  br_f (nI_nlt (b := 1) h1 (by omega)) (br_f (nI_nlt (a := 7) h7 (by decide)) h)
theorem xg_sizeF {post : Int32 → Prop} {v : Int32} (hv : ¬ ∃ n, 1 ≤ n ∧ n ≤ 7 ∧ v = nI n) (h : post 0) : wpX_isListedSize post (xt, xd, xm, lS, oS, tS, fS, le, fi, se, si, ra, tz, st, ru, sk) v := by
  rcases tl_sz hv with x | x
  · exact br_t x h
  · exact br_f x.1 (br_t x.2 h)
end
section
variable {yn ye ys yd : Int32} {lS oS tS fS le fI sE si bg tO ra sts wy mk sk op : Nat → Int32}
theorem yg_badF {post : Int32 → Prop} {j : Nat} (hj : j < 2) (h : post 0) : wpY_bad post (yn, ye, ys, yd, lS, oS, tS, fS, le, fI, sE, si, bg, tO, ra, sts, wy, mk, sk, op) (nI j) := tl_leT 1 (by decide) hj h
theorem yg_badT {post : Int32 → Prop} {v : Int32} (hv : ¬ ∃ j, j < 2 ∧ v = nI j) (h : post 1) : wpY_bad post (yn, ye, ys, yd, lS, oS, tS, fS, le, fI, sE, si, bg, tO, ra, sts, wy, mk, sk, op) v := tl_leF 1 (by decide) hv h
theorem yg_nosetF {post : Int32 → Prop} {j : Nat} (hj : j < 16) (h : post 0) : wpY_noSet post (yn, ye, ys, yd, lS, oS, tS, fS, le, fI, sE, si, bg, tO, ra, sts, wy, mk, sk, op) (nI j) := tl_leT 15 (by decide) hj h
theorem yg_nosetT {post : Int32 → Prop} {v : Int32} (hv : ¬ ∃ j, j < 16 ∧ v = nI j) (h : post 1) : wpY_noSet post (yn, ye, ys, yd, lS, oS, tS, fS, le, fI, sE, si, bg, tO, ra, sts, wy, mk, sk, op) v := tl_leF 15 (by decide) hv h
theorem yg_nokindF {post : Int32 → Prop} {j : Nat} (hj : j < 7) (h : post 0) : wpY_noKind post (yn, ye, ys, yd, lS, oS, tS, fS, le, fI, sE, si, bg, tO, ra, sts, wy, mk, sk, op) (nI j) := tl_leT 6 (by decide) hj h
theorem yg_nokindT {post : Int32 → Prop} {v : Int32} (hv : ¬ ∃ j, j < 7 ∧ v = nI j) (h : post 1) : wpY_noKind post (yn, ye, ys, yd, lS, oS, tS, fS, le, fI, sE, si, bg, tO, ra, sts, wy, mk, sk, op) v := tl_leF 6 (by decide) hv h
/-- the reference's test of a size from 1 to 7 -/
theorem yg_sizeT {A B : Prop} {n : Nat} (h1 : 1 ≤ n) (h7 : n ≤ 7) (b : B) : (nI n < 1 → A) ∧ (¬ nI n < 1 → ((nI n ≤ 7 → B) ∧ (¬ nI n ≤ 7 → A))) :=
  br_f (nI_nlt (b := 1) h1 (by omega)) (br_t (nI_le (b := 7) h7 (by decide)) b)
theorem yg_sizeF {A B : Prop} {v : Int32} (hv : ¬ ∃ n, 1 ≤ n ∧ n ≤ 7 ∧ v = nI n) (a : A) : (v < 1 → A) ∧ (¬ v < 1 → ((v ≤ 7 → B) ∧ (¬ v ≤ 7 → A))) := by
  rcases tl_sz hv with x | x
  · exact br_t x a
  · exact br_f x.1 (br_f (Int32.not_le.mpr x.2) a)
end
end
section
section
theorem tl_S4u {a : Nat → Int32} {i b : Nat} (h : ∀ j, tl_S4 (a j)) (hb : b < 16) : ∀ j, tl_S4 (upd a i (nI b) j) := by
  intro j
  by_cases e : j = i
  · rw [e, pk_us]; exact tl_s4 hb
  · rw [pk_un e]; exact h j
theorem i_vc_leafRule {k : Nat} {u : SX} {v : SY} (I : i_Rel k u v) (hk : k + 4 ≤ 2048) (v1 : Int32) (v2 : Int32) (v3 : Int32) : wpX_leafRule (fun r u' => wpY_leafRule (fun r' v' => r' = r ∧ i_Rel (k + 4) u' v') v v1 v2 v3) u v1 v2 v3 := by
  have I0 := I
  obtain ⟨e, s, D, l, c, d, z, lS, oS, tS, fS, le, fi, se, si, ra, tz, st, ru, sk, fI, sE, bg, tO, sts, wy, mk, op, rfl, rfl, F, R, B, S⟩ := I
  unfold wpX_leafRule wpY_leafRule
  dsimp only
  by_cases h1 : ∃ j, j < 2 ∧ v1 = nI j
  · obtain ⟨m, hm, rfl⟩ := h1
    refine xg_autT hm ?_
    refine br_f (by decide) ?_
    by_cases h2 : ∃ j, j < 2 ∧ v2 = nI j
    · obtain ⟨a, ha, rfl⟩ := h2
      refine xg_leafT ha ?_
      refine br_f (by decide) ?_
      by_cases h3 : ∃ j, j < 16 ∧ v3 = nI j
      · obtain ⟨b, hb, rfl⟩ := h3
        have ex : nI m * 2 + nI a = nI (2 * m + a) := by rw [show (2 : Int32) = nI 2 from rfl, pk_mul, nI_add, Nat.mul_comm]
        have ey : 2 * nI m + nI a = nI (2 * m + a) := by rw [show (2 : Int32) = nI 2 from rfl, pk_mul, nI_add]
        have hix : vp_in (nI m * 2 + nI a) 4 := pk_in (2 * m + a) 4 (by omega) ex
        have hiy : vp_in (2 * nI m + nI a) 4 := pk_in (2 * m + a) 4 (by omega) ey
        refine xg_setT hb ?_
        refine br_f (by decide) ?_
        refine ⟨hix, nm_r (e' := lS (2 * m + a)) (by rw [pk_cl _ ex]) ⟨hix, nm_r (e' := upd lS (2 * m + a) (nI b)) (by rw [pk_cl _ ex]) ?_⟩⟩
        refine yg_badF hm ?_
        refine br_t rfl ?_
        refine tl_gtT (1) (by decide) ha ?_
        refine yg_nosetF hb ?_
        refine br_t rfl ?_
        refine ⟨hiy, nm_r (e' := lS (2 * m + a)) (by rw [pk_cl _ ey]) ⟨hiy, nm_r (e' := upd lS (2 * m + a) (nI b)) (by rw [pk_cl _ ey]) ⟨rfl, ?_⟩⟩⟩
        exact ⟨e, s, D, l, c, d, z, upd lS (2 * m + a) (nI b), oS, tS, fS, le, fi, se, si, ra, tz, st, ru, sk, fI, sE, bg, tO, sts, wy, mk, op, rfl, rfl, ⟨tl_S4u F.1 hb, F.2⟩, R, B, S⟩
      · refine xg_setF h3 ?_
        refine br_t rfl ?_
        refine yg_badF hm ?_
        refine br_t rfl ?_
        refine tl_gtT (1) (by decide) ha ?_
        refine yg_nosetT h3 ?_
        exact br_f (by decide) ⟨rfl, I0⟩
    · refine xg_leafF h2 ?_
      refine br_t rfl ?_
      refine yg_badF hm ?_
      refine br_t rfl ?_
      exact tl_gtF (1) (by decide) h2 ⟨rfl, I0⟩
  · refine xg_autF h1 ?_
    refine br_t rfl ?_
    refine yg_badT h1 ?_
    exact br_f (by decide) ⟨rfl, I0⟩
theorem i_vc_oneRule {k : Nat} {u : SX} {v : SY} (I : i_Rel k u v) (hk : k + 4 ≤ 2048) (v1 : Int32) (v2 : Int32) (v3 : Int32) : wpX_oneRule (fun r u' => wpY_oneRule (fun r' v' => r' = r ∧ i_Rel (k + 4) u' v') v v1 v2 v3) u v1 v2 v3 := by
  have I0 := I
  obtain ⟨e, s, D, l, c, d, z, lS, oS, tS, fS, le, fi, se, si, ra, tz, st, ru, sk, fI, sE, bg, tO, sts, wy, mk, op, rfl, rfl, F, R, B, S⟩ := I
  unfold wpX_oneRule wpY_oneRule
  dsimp only
  by_cases h1 : ∃ j, j < 2 ∧ v1 = nI j
  · obtain ⟨m, hm, rfl⟩ := h1
    refine xg_autT hm ?_
    refine br_f (by decide) ?_
    by_cases h2 : ∃ j, j < 4 ∧ v2 = nI j
    · obtain ⟨a, ha, rfl⟩ := h2
      refine tl_geT 4 (by decide) ha ?_
      by_cases h3 : ∃ j, j < 16 ∧ v3 = nI j
      · obtain ⟨b, hb, rfl⟩ := h3
        have ex : nI m * 4 + nI a = nI (4 * m + a) := by rw [show (4 : Int32) = nI 4 from rfl, pk_mul, nI_add, Nat.mul_comm]
        have ey : 4 * nI m + nI a = nI (4 * m + a) := by rw [show (4 : Int32) = nI 4 from rfl, pk_mul, nI_add]
        have hix : vp_in (nI m * 4 + nI a) 8 := pk_in (4 * m + a) 8 (by omega) ex
        have hiy : vp_in (4 * nI m + nI a) 8 := pk_in (4 * m + a) 8 (by omega) ey
        refine xg_setT hb ?_
        refine br_f (by decide) ?_
        refine ⟨hix, nm_r (e' := oS (4 * m + a)) (by rw [pk_cl _ ex]) ⟨hix, nm_r (e' := upd oS (4 * m + a) (nI b)) (by rw [pk_cl _ ex]) ?_⟩⟩
        refine yg_badF hm ?_
        refine br_t rfl ?_
        refine tl_gtT (3) (by decide) ha ?_
        refine yg_nosetF hb ?_
        refine br_t rfl ?_
        refine ⟨hiy, nm_r (e' := oS (4 * m + a)) (by rw [pk_cl _ ey]) ⟨hiy, nm_r (e' := upd oS (4 * m + a) (nI b)) (by rw [pk_cl _ ey]) ⟨rfl, ?_⟩⟩⟩
        exact ⟨e, s, D, l, c, d, z, lS, upd oS (4 * m + a) (nI b), tS, fS, le, fi, se, si, ra, tz, st, ru, sk, fI, sE, bg, tO, sts, wy, mk, op, rfl, rfl, ⟨F.1, tl_S4u F.2.1 hb, F.2.2⟩, R, B, S⟩
      · refine xg_setF h3 ?_
        refine br_t rfl ?_
        refine yg_badF hm ?_
        refine br_t rfl ?_
        refine tl_gtT (3) (by decide) ha ?_
        refine yg_nosetT h3 ?_
        exact br_f (by decide) ⟨rfl, I0⟩
    · refine tl_geF 4 (by decide) h2 ?_
      refine yg_badF hm ?_
      refine br_t rfl ?_
      exact tl_gtF (3) (by decide) h2 ⟨rfl, I0⟩
  · refine xg_autF h1 ?_
    refine br_t rfl ?_
    refine yg_badT h1 ?_
    exact br_f (by decide) ⟨rfl, I0⟩
theorem i_vc_twoRule {k : Nat} {u : SX} {v : SY} (I : i_Rel k u v) (hk : k + 4 ≤ 2048) (v1 : Int32) (v2 : Int32) (v3 : Int32) : wpX_twoRule (fun r u' => wpY_twoRule (fun r' v' => r' = r ∧ i_Rel (k + 4) u' v') v v1 v2 v3) u v1 v2 v3 := by
  have I0 := I
  obtain ⟨e, s, D, l, c, d, z, lS, oS, tS, fS, le, fi, se, si, ra, tz, st, ru, sk, fI, sE, bg, tO, sts, wy, mk, op, rfl, rfl, F, R, B, S⟩ := I
  unfold wpX_twoRule wpY_twoRule
  dsimp only
  by_cases h1 : ∃ j, j < 2 ∧ v1 = nI j
  · obtain ⟨m, hm, rfl⟩ := h1
    refine xg_autT hm ?_
    refine br_f (by decide) ?_
    by_cases h2 : ∃ j, j < 16 ∧ v2 = nI j
    · obtain ⟨a, ha, rfl⟩ := h2
      refine tl_geT 16 (by decide) ha ?_
      by_cases h3 : ∃ j, j < 16 ∧ v3 = nI j
      · obtain ⟨b, hb, rfl⟩ := h3
        have ex : nI m * 16 + nI a = nI (16 * m + a) := by rw [show (16 : Int32) = nI 16 from rfl, pk_mul, nI_add, Nat.mul_comm]
        have ey : 16 * nI m + nI a = nI (16 * m + a) := by rw [show (16 : Int32) = nI 16 from rfl, pk_mul, nI_add]
        have hix : vp_in (nI m * 16 + nI a) 32 := pk_in (16 * m + a) 32 (by omega) ex
        have hiy : vp_in (16 * nI m + nI a) 32 := pk_in (16 * m + a) 32 (by omega) ey
        refine xg_setT hb ?_
        refine br_f (by decide) ?_
        refine ⟨hix, nm_r (e' := tS (16 * m + a)) (by rw [pk_cl _ ex]) ⟨hix, nm_r (e' := upd tS (16 * m + a) (nI b)) (by rw [pk_cl _ ex]) ?_⟩⟩
        refine yg_badF hm ?_
        refine br_t rfl ?_
        refine tl_gtT (15) (by decide) ha ?_
        refine yg_nosetF hb ?_
        refine br_t rfl ?_
        refine ⟨hiy, nm_r (e' := tS (16 * m + a)) (by rw [pk_cl _ ey]) ⟨hiy, nm_r (e' := upd tS (16 * m + a) (nI b)) (by rw [pk_cl _ ey]) ⟨rfl, ?_⟩⟩⟩
        exact ⟨e, s, D, l, c, d, z, lS, oS, upd tS (16 * m + a) (nI b), fS, le, fi, se, si, ra, tz, st, ru, sk, fI, sE, bg, tO, sts, wy, mk, op, rfl, rfl, ⟨F.1, F.2.1, tl_S4u F.2.2 hb⟩, R, B, S⟩
      · refine xg_setF h3 ?_
        refine br_t rfl ?_
        refine yg_badF hm ?_
        refine br_t rfl ?_
        refine tl_gtT (15) (by decide) ha ?_
        refine yg_nosetT h3 ?_
        exact br_f (by decide) ⟨rfl, I0⟩
    · refine tl_geF 16 (by decide) h2 ?_
      refine yg_badF hm ?_
      refine br_t rfl ?_
      exact tl_gtF (15) (by decide) h2 ⟨rfl, I0⟩
  · refine xg_autF h1 ?_
    refine br_t rfl ?_
    refine yg_badT h1 ?_
    exact br_f (by decide) ⟨rfl, I0⟩
theorem i_vc_finals {k : Nat} {u : SX} {v : SY} (I : i_Rel k u v) (hk : k + 4 ≤ 2048) (v1 : Int32) (v2 : Int32) : wpX_finals (fun r u' => wpY_finals (fun r' v' => r' = r ∧ i_Rel (k + 4) u' v') v v1 v2) u v1 v2 := by
  have I0 := I
  obtain ⟨e, s, D, l, c, d, z, lS, oS, tS, fS, le, fi, se, si, ra, tz, st, ru, sk, fI, sE, bg, tO, sts, wy, mk, op, rfl, rfl, F, R, B, S⟩ := I
  unfold wpX_finals wpY_finals
  dsimp only
  by_cases h1 : ∃ j, j < 2 ∧ v1 = nI j
  · obtain ⟨m, hm, rfl⟩ := h1
    refine xg_autT hm ?_
    refine br_f (by decide) ?_
    by_cases h3 : ∃ j, j < 16 ∧ v2 = nI j
    · obtain ⟨b, hb, rfl⟩ := h3
      have hin : vp_in (nI m) 2 := vp_in_nI hm (by decide)
      have hcl : (nI m).toNatClampNeg = m := nI_clamp (by omega)
      refine xg_setT hb ?_
      refine br_f (by decide) ?_
      refine ⟨hin, nm_r (e' := fS m) (by rw [hcl]) ⟨hin, nm_r (e' := upd fS m (nI b)) (by rw [hcl]) ?_⟩⟩
      refine yg_badF hm ?_
      refine br_t rfl ?_
      refine yg_nosetF hb ?_
      refine br_t rfl ?_
      refine ⟨hin, nm_r (e' := fS m) (by rw [hcl]) ⟨hin, nm_r (e' := upd fS m (nI b)) (by rw [hcl]) ⟨rfl, ?_⟩⟩⟩
      exact ⟨e, s, D, l, c, d, z, lS, oS, tS, upd fS m (nI b), le, fi, se, si, ra, tz, st, ru, sk, fI, sE, bg, tO, sts, wy, mk, op, rfl, rfl, F, R, B, S⟩
    · refine xg_setF h3 ?_
      refine br_t rfl ?_
      refine yg_badF hm ?_
      refine br_t rfl ?_
      refine yg_nosetT h3 ?_
      exact br_f (by decide) ⟨rfl, I0⟩
  · refine xg_autF h1 ?_
    refine br_t rfl ?_
    refine yg_badT h1 ?_
    exact br_f (by decide) ⟨rfl, I0⟩
theorem i_vc_discard {k : Nat} {u : SX} {v : SY} (I : i_Rel k u v) (hk : k + 4 ≤ 2048) : wpX_discard (fun r u' => wpY_discard (fun r' v' => r' = r ∧ i_Rel (k + 4) u' v') v) u := by
  obtain ⟨e, s, D, l, c, d, z, lS, oS, tS, fS, le, fi, se, si, ra, tz, st, ru, sk, fI, sE, bg, tO, sts, wy, mk, op, rfl, rfl, F, R, B, S⟩ := I
  exact ⟨rfl, 0, 0, 0, l, c, d, z, lS, oS, tS, fS, le, fi, se, si, ra, tz, st, ru, sk, fI, sE, bg, tO, sts, wy, mk, op, rfl, rfl, F, tl_Trm (by omega) R, B, Nat.le_refl 0, by decide, fun j hj => absurd hj (Nat.not_lt_zero j), Nat.le_refl 0⟩
theorem tl_Dz {e s D : Nat} {l c d z : Nat → Nat} {sk : Nat → Int32} (tp : tl_TP (570 + e) l c d z) (S : tl_Sk e s D z sk) : D ≤ s := by
  refine Nat.le_trans (tl_sumGe (f := fun j => z (sk j).toNatClampNeg) D fun j hj => ?_) S.2.2.2
  obtain ⟨t, ht, et⟩ := S.2.2.1 j hj
  rw [et, nI_clamp (by have := S.1; have := S.2.1; omega)]
  exact tl_z1 tp ht
/-- the top of the stack -/
theorem tl_top {e s D : Nat} {l c d z : Nat → Nat} {sk : Nat → Int32} (tp : tl_TP (570 + e) l c d z) (S : tl_Sk e s (D + 1) z sk) : e ≤ 12 ∧ D < 12 ∧ ∃ t, t < 570 + e ∧ sk D = nI t := by
  have h1 := S.1
  have h2 := S.2.1
  have h3 := tl_Dz tp S
  exact ⟨by omega, by omega, S.2.2.1 D (by omega)⟩
theorem i_vc_size {k : Nat} {u : SX} {v : SY} (I : i_Rel k u v) (hk : k + 4 ≤ 2048) : wpX_size (fun r => wpY_size (fun r' => r' = r ∧ i_Rel (k + 4) u v) v) u := by
  have I0 := I
  obtain ⟨e, s, D, l, c, d, z, lS, oS, tS, fS, le, fi, se, si, ra, tz, st, ru, sk, fI, sE, bg, tO, sts, wy, mk, op, rfl, rfl, F, R, B, S⟩ := I
  cases D with
  | zero => exact br_t rfl (br_t rfl ⟨rfl, I0⟩)
  | succ D =>
    obtain ⟨he, hD, t, ht, et⟩ := tl_top R.1 S
    have h0 : ¬ nI (D + 1) = 0 := nI_ne0 (by omega) (by omega)
    have ep : nI (D + 1) - 1 = nI D := nI_pred D
    have hi : vp_in (nI (D + 1) - 1) 12 := pk_in D 12 hD ep
    have ek : sk (nI (D + 1) - 1).toNatClampNeg = nI t := by rw [pk_cl D ep, et]
    refine br_f h0 ⟨hi, by rw [ek]; exact vp_in_nI (by omega) (by decide), br_f h0 ⟨hi, by rw [ek]; exact vp_in_nI (by omega) (by decide), rfl, I0⟩⟩
theorem i_vc_rank {k : Nat} {u : SX} {v : SY} (I : i_Rel k u v) (hk : k + 4 ≤ 2048) : wpX_rank (fun r => wpY_rank (fun r' => r' = r ∧ i_Rel (k + 4) u v) v) u := by
  have I0 := I
  obtain ⟨e, s, D, l, c, d, z, lS, oS, tS, fS, le, fi, se, si, ra, tz, st, ru, sk, fI, sE, bg, tO, sts, wy, mk, op, rfl, rfl, F, R, B, S⟩ := I
  cases D with
  | zero => exact br_t rfl (br_t rfl ⟨rfl, I0⟩)
  | succ D =>
    obtain ⟨he, hD, t, ht, et⟩ := tl_top R.1 S
    have h0 : ¬ nI (D + 1) = 0 := nI_ne0 (by omega) (by omega)
    have ep : nI (D + 1) - 1 = nI D := nI_pred D
    have hi : vp_in (nI (D + 1) - 1) 12 := pk_in D 12 hD ep
    have ek : sk (nI (D + 1) - 1).toNatClampNeg = nI t := by rw [pk_cl D ep, et]
    refine br_f h0 ⟨hi, by rw [ek]; exact vp_in_nI (by omega) (by decide), br_f h0 ⟨hi, by rw [ek]; exact vp_in_nI (by omega) (by decide), rfl, I0⟩⟩
end
end
section
section
/-- how many trees have letter 3 and a smaller first child: the sum of both sides -/
def tl_sI (tz : Nat → Int32) (n : Nat) : Nat → Int32
  | 0 => 0
  | i + 1 => tl_sI tz n i + tz (i + 1) * tz (n - 1 - (i + 1))
theorem tl_sIE {a b : Nat → Int32} {n : Nat} : ∀ i, (∀ j, j ≤ i → a j = b j) → (∀ j, j < n → a j = b j) → 1 ≤ n → tl_sI a n i = tl_sI b n i
  | 0, _, _, _ => rfl
  | i + 1, h, g, hn => by
    show tl_sI a n i + a (i + 1) * a (n - 1 - (i + 1)) = tl_sI b n i + b (i + 1) * b (n - 1 - (i + 1))
    rw [tl_sIE i (fun j hj => h j (by omega)) g hn, h (i + 1) (Nat.le_refl _), g _ (by omega)]
/-- a tree more -/
def tl_uN (f : Nat → Nat) (k x : Nat) : Nat → Nat := fun j => if j = k then x else f j
theorem tl_uNs {f : Nat → Nat} {k x : Nat} : tl_uN f k x k = x := if_pos rfl
theorem tl_uNn {f : Nat → Nat} {k x j : Nat} (h : j ≠ k) : tl_uN f k x j = f j := if_neg h
theorem tl_TrX {T a b b2 y : Nat} {l c d z : Nat → Nat} {le fi se fI sE si : Nat → Int32} {x1 x2 y1 y2 : Int32} (R : tl_Tr T l c d z le fi se fI sE si)
    (ha : a ≤ 3) (hb : 2 ≤ a → b < T ∧ x1 = nI b ∧ y1 = nI b) (hb2 : a = 3 → b2 < T ∧ x2 = nI b2 ∧ y2 = nI b2) (n1 : a < 2 → y1 = -1) (n2 : a < 3 → y2 = -1)
    (z1 : a < 2 → y = 1) (z2 : a = 2 → y = 1 + z b) (z3 : a = 3 → y = 1 + z b + z b2) (hy : y ≤ 12) :
    tl_Tr (T + 1) (tl_uN l T a) (tl_uN c T b) (tl_uN d T b2) (tl_uN z T y) (upd le T (nI a)) (upd fi T x1) (upd se T x2) (upd fI T y1) (upd sE T y2) (upd si T (nI y)) := by
  obtain ⟨p, q, r, s, w⟩ := R
  refine ⟨fun t ht => ?_, fun t ht => ?_, fun t ht => ?_, fun t ht => ?_, fun t ht => ?_⟩
  · by_cases e : t = T
    · subst e
      rw [tl_uNs, tl_uNs, tl_uNs, tl_uNs]
      refine ⟨ha, fun h => (hb h).1, fun h => (hb2 h).1, z1, fun h => ?_, fun h => ?_, hy⟩
      · rw [tl_uNn (by have := (hb (by omega)).1; omega)]; exact z2 h
      · rw [tl_uNn (by have := (hb (by omega)).1; omega), tl_uNn (by have := (hb2 h).1; omega)]; exact z3 h
    · obtain ⟨p1, p2, p3, p4, p5, p6, p7⟩ := p t (by omega)
      rw [tl_uNn e, tl_uNn e, tl_uNn e, tl_uNn e]
      refine ⟨p1, p2, p3, p4, fun h => ?_, fun h => ?_, p7⟩
      · rw [tl_uNn (by have := p2 (by omega); omega)]; exact p5 h
      · rw [tl_uNn (by have := p2 (by omega); omega), tl_uNn (by have := p3 h; omega)]; exact p6 h
  · by_cases e : t = T
    · subst e
      rw [tl_uNs, tl_uNs, tl_uNs, pk_us, pk_us, pk_us]
      exact ⟨rfl, fun h => (hb h).2.1, fun h => (hb2 h).2.1⟩
    · rw [tl_uNn e, tl_uNn e, tl_uNn e, pk_un e, pk_un e, pk_un e]; exact q t (by omega)
  · by_cases e : t = T
    · subst e
      rw [tl_uNs, tl_uNs, tl_uNs, pk_us, pk_us, pk_us]
      exact ⟨rfl, fun h => (hb h).2.2, fun h => (hb2 h).2.2⟩
    · rw [tl_uNn e, tl_uNn e, tl_uNn e, pk_un e, pk_un e, pk_un e]; exact r t (by omega)
  · by_cases e : t = T
    · subst e
      rw [tl_uNs, pk_us, pk_us]
      exact ⟨n1, n2⟩
    · rw [tl_uNn e, pk_un e, pk_un e]; exact s t (by omega)
  · by_cases e : t = T
    · subst e
      rw [tl_uNs, pk_us]
    · rw [tl_uNn e, pk_un e]; exact w t (by omega)
theorem tl_TbX {T y : Nat} {z : Nat → Nat} {tz tO st bg : Nat → Int32} (hT : 570 ≤ T) (B : tl_Tb z tz tO st bg) : tl_Tb (tl_uN z T y) tz tO st bg := by
  refine ⟨B.1, B.2.1, fun n h1 h7 t a b => ?_⟩
  have hS : ∀ n, n ≤ 7 → tl_S (n + 1) ≤ 570 := by decide
  have := hS n h7
  rw [tl_uNn (by omega)]
  exact B.2.2 n h1 h7 t a b
/-- the new tree is pushed at place D' -/
theorem tl_SkX {e s D' y : Nat} {z : Nat → Nat} {sk : Nat → Int32} (he : e ≤ s) (hs : s < 12) (hk : ∀ j, j < D' → ∃ t, t < 570 + e ∧ sk j = nI t)
    (hy : tl_sum (fun j => z (sk j).toNatClampNeg) D' + y ≤ s + 1) : tl_Sk (e + 1) (s + 1) (D' + 1) (tl_uN z (570 + e) y) (upd sk D' (nI (570 + e))) := by
  refine ⟨by omega, by omega, fun j hj => ?_, ?_⟩
  · by_cases ej : j = D'
    · subst ej; exact ⟨570 + e, by omega, pk_us⟩
    · obtain ⟨t, ht, et⟩ := hk j (by omega)
      exact ⟨t, by omega, by rw [pk_un ej]; exact et⟩
  · show tl_sum (fun j => tl_uN z (570 + e) y (upd sk D' (nI (570 + e)) j).toNatClampNeg) D' + tl_uN z (570 + e) y (upd sk D' (nI (570 + e)) D').toNatClampNeg ≤ s + 1
    rw [pk_us, nI_clamp (by omega : 570 + e < 2 ^ 31), tl_uNs, tl_sumE (g := fun j => z (sk j).toNatClampNeg) D' fun j hj => ?_]
    · exact hy
    · obtain ⟨t, ht, et⟩ := hk j hj
      rw [pk_un (by omega), et, nI_clamp (by omega), tl_uNn (by omega)]
end
section
variable {xt xd xm : Int32} {lS oS tS fS le fi se si ra tz st ru sk : Nat → Int32}
theorem xm_add {post : SX → Prop} {T : Nat} {p0 p1 p2 p3 p4 : Int32} (hT : T < 582)
    (h : post (nI (T + 1), xd, xm, lS, oS, tS, fS, upd le T p0, upd fi T p1, upd se T p2, upd si T p3, upd ra T p4, tz, st, ru, sk)) : wpX_addTree post (nI T, xd, xm, lS, oS, tS, fS, le, fi, se, si, ra, tz, st, ru, sk) p0 p1 p2 p3 p4 := by
  have hin : vp_in (nI T) 582 := vp_in_nI hT (by decide)
  have hcl : (nI T).toNatClampNeg = T := nI_clamp (by omega)
  exact ⟨hin, nm_r (by rw [hcl]) ⟨hin, nm_r (by rw [hcl]) ⟨hin, nm_r (by rw [hcl]) ⟨hin, nm_r (by rw [hcl]) ⟨hin, nm_r (by rw [hcl]) (nm_r (nI_1 T) h)⟩⟩⟩⟩⟩
theorem xm_push {post : Int32 → SX → Prop} {T D s : Nat} (hD : D < 12)
    (h : post (nI (D + 1)) (nI (T + 1), nI (D + 1), nI (s + 1), lS, oS, tS, fS, le, fi, se, si, ra, tz, st, ru, upd sk D (nI T))) : wpX_pushAddedTree post (nI (T + 1), nI D, nI s, lS, oS, tS, fS, le, fi, se, si, ra, tz, st, ru, sk) := by
  have hcl : (nI D).toNatClampNeg = D := nI_clamp (by omega)
  unfold wpX_pushAddedTree
  dsimp only
  exact ⟨vp_in_nI hD (by decide), nm_r (e' := upd sk D (nI T)) (by rw [hcl, nI_pred]) (nm_r (nI_1 D) (nm_r (nI_1 s) h))⟩
theorem xm_twb {post : Int32 → Prop} {n b : Nat} (hb : 1 ≤ b) (hbn : b < n) (hn : n ≤ 12) (h : post (tl_sI tz n (b - 1))) : wpX_treesWithFirstBelow post (xt, xd, xm, lS, oS, tS, fS, le, fi, se, si, ra, tz, st, ru, sk) (nI n) (nI b) := by
  refine loop_0 (fun f i (r : Int32) => wX_treesWithFirstBelow_5 post (nI n) (nI b) xt xd xm lS oS tS fS le fi se si ra tz st ru sk f r (nI (i + 1)))
    (fun i r => r = tl_sI tz n i) (b - 1) 0 rfl ?_ ?_
  · intro f r I
    exact br_t (nI_le (by omega) (by omega)) (by rw [I]; exact h)
  · intro f i r hi I K
    have e : nI n - 1 - nI (i + 1) = nI (n - 1 - (i + 1)) := by
      rw [show (1 : Int32) = nI 1 from rfl, pk_sub (by omega : 1 ≤ n), pk_sub (by omega)]
    refine br_f (nI_ge (by omega) (by omega)) ⟨vp_in_nI (by omega) (by decide), pk_in (n - 1 - (i + 1)) 12 (by omega) e, nm_r (e' := tl_sI tz n (i + 1)) ?_ (nm_r (nI_1 (i + 1)) (K _ rfl))⟩
    rw [pk_cl _ e, nI_clamp (by omega), I]
    rfl
/-- the component's new tree with letter 3 -/
theorem xm_two {post : SX → Prop} {T a b y1 y2 : Nat} (hT : T < 582) (ha : a < T) (hb : b < T) (ea : si a = nI y1) (eb : si b = nI y2) (h1 : 1 ≤ y1) (h2 : 1 ≤ y2) (h12 : 1 + y1 + y2 ≤ 12)
    (h : post (nI (T + 1), xd, xm, lS, oS, tS, fS, upd le T 3, upd fi T (nI a), upd se T (nI b), upd si T (nI (1 + y1 + y2)), upd ra T (((tz (y1 + y2) + tl_sI tz (1 + y1 + y2) (y1 - 1)) + ra a * tz y2) + ra b), tz, st, ru, sk)) :
    wpX_addTwo post (nI T, xd, xm, lS, oS, tS, fS, le, fi, se, si, ra, tz, st, ru, sk) (nI a) (nI b) := by
  have ia : vp_in (nI a) 582 := vp_in_nI (by omega) (by decide)
  have ib : vp_in (nI b) 582 := vp_in_nI (by omega) (by decide)
  have ca : (nI a).toNatClampNeg = a := nI_clamp (by omega)
  have cb : (nI b).toNatClampNeg = b := nI_clamp (by omega)
  have c2 : (nI y2).toNatClampNeg = y2 := nI_clamp (by omega)
  have e1 : 1 + si (nI a).toNatClampNeg + si (nI b).toNatClampNeg = nI (1 + y1 + y2) := by
    rw [ca, cb, ea, eb, show (1 : Int32) = nI 1 from rfl, nI_add, nI_add]
  have e2 : nI (1 + y1 + y2) - 1 = nI (y1 + y2) := by rw [show 1 + y1 + y2 = (y1 + y2) + 1 by omega]; exact nI_pred _
  refine ⟨ia, ib, nm_r e1 ⟨pk_in (y1 + y2) 12 (by omega) e2, nm_r (e' := tz (y1 + y2)) (by rw [pk_cl _ e2]) ⟨ia, ?_⟩⟩⟩
  rw [ca, cb, ea, eb, c2]
  refine xm_twb h1 (by omega) h12 ?_
  exact ⟨ia, ib, vp_in_nI (by omega) (by decide), nm_e ⟨ib, nm_e (xm_add hT h)⟩⟩
end
section
variable {yn ye ys yd : Int32} {lS oS tS fS le fI sE si bg tO ra sts wy mk sk op : Nat → Int32}
/-- the reference's new tree: what stands behind its rank -/
theorem ym_71 {post : Int32 → SY → Prop} {e s D : Nat} {z0 z1 y rk : Int32} (he : 570 + e < 600) (hD : D < 12) (hz : z1 + z0 = y)
    (hr : ∀ q : Int32 → Prop, q rk → wpY_rankOf q (nI 570, nI e, nI s, nI D, lS, oS, tS, fS, le, fI, sE, upd si (570 + e) y, bg, tO, ra, sts, wy, mk, sk, op) (nI (570 + e)))
    (h : post (nI (D + 1)) (nI 570, nI (e + 1), nI (s + 1), nI (D + 1), lS, oS, tS, fS, le, fI, sE, upd si (570 + e) y, bg, tO, upd ra (570 + e) rk, sts, wy, mk, upd sk D (nI (570 + e)), op)) :
    wY_make_71 post (nI (570 + e)) z0 z1 (nI (570 + e)) (nI 570) (nI e) (nI s) (nI D) lS oS tS fS le fI sE si bg tO ra sts wy mk sk op := by
  have hin : vp_in (nI (570 + e)) 600 := vp_in_nI he (by decide)
  have hcl : (nI (570 + e)).toNatClampNeg = 570 + e := nI_clamp (by omega)
  have hcD : (nI D).toNatClampNeg = D := nI_clamp (by omega)
  refine ⟨hin, nm_r (e' := upd si (570 + e) y) (by rw [hcl, hz]) ?_⟩
  refine hr _ ?_
  exact ⟨hin, nm_r (e' := upd ra (570 + e) rk) (by rw [hcl]) ⟨vp_in_nI hD (by decide), nm_r (e' := upd sk D (nI (570 + e))) (by rw [hcD]) (nm_r (nI_1 D) (nm_r (nI_1 e) (nm_r (nI_1 s) h)))⟩⟩
theorem ym_leaf {post : Int32 → SY → Prop} {e s D a : Nat} (he : 570 + e < 600) (hD : D < 12) (ha : a < 2)
    (h : post (nI (D + 1)) (nI 570, nI (e + 1), nI (s + 1), nI (D + 1), lS, oS, tS, fS, upd le (570 + e) (nI a), upd fI (570 + e) (-1), upd sE (570 + e) (-1), upd si (570 + e) (nI 1), bg, tO, upd ra (570 + e) (nI a), sts, wy, mk, upd sk D (nI (570 + e)), op)) :
    wpY_make post (nI 570, nI e, nI s, nI D, lS, oS, tS, fS, le, fI, sE, si, bg, tO, ra, sts, wy, mk, sk, op) (nI a) (-1) (-1) := by
  have hin : vp_in (nI (570 + e)) 600 := vp_in_nI he (by decide)
  have hcl : (nI (570 + e)).toNatClampNeg = 570 + e := nI_clamp (by omega)
  refine nm_r (nI_add 570 e) ⟨hin, nm_r (e' := upd le (570 + e) (nI a)) (by rw [hcl]) ⟨hin, nm_r (e' := upd fI (570 + e) (-1)) (by rw [hcl]) ⟨hin, nm_r (e' := upd sE (570 + e) (-1)) (by rw [hcl]) ?_⟩⟩⟩
  refine br_f (by decide) (br_f (by decide) ?_)
  refine ym_71 (y := nI 1) (rk := nI a) he hD rfl ?_ h
  intro q hq
  refine ⟨hin, ?_⟩
  rw [hcl, pk_us]
  exact br_f (nI_ge (b := 2) ha (by decide)) ⟨hin, hq⟩
theorem ym_one {post : Int32 → SY → Prop} {e s D a y : Nat} (he : 570 + e < 600) (hD : D < 12) (ha : a < 570 + e) (ea : si a = nI y)
    (h : post (nI (D + 1)) (nI 570, nI (e + 1), nI (s + 1), nI (D + 1), lS, oS, tS, fS, upd le (570 + e) (nI 2), upd fI (570 + e) (nI a), upd sE (570 + e) (-1), upd si (570 + e) (nI (1 + y)), bg, tO, upd ra (570 + e) (ra a), sts, wy, mk, upd sk D (nI (570 + e)), op)) :
    wpY_make post (nI 570, nI e, nI s, nI D, lS, oS, tS, fS, le, fI, sE, si, bg, tO, ra, sts, wy, mk, sk, op) 2 (nI a) (-1) := by
  have hin : vp_in (nI (570 + e)) 600 := vp_in_nI he (by decide)
  have hcl : (nI (570 + e)).toNatClampNeg = 570 + e := nI_clamp (by omega)
  have ia : vp_in (nI a) 600 := vp_in_nI (by omega) (by decide)
  have ca : (nI a).toNatClampNeg = a := nI_clamp (by omega)
  refine nm_r (nI_add 570 e) ⟨hin, nm_r (e' := upd le (570 + e) (nI 2)) (by rw [hcl]; rfl) ⟨hin, nm_r (e' := upd fI (570 + e) (nI a)) (by rw [hcl]) ⟨hin, nm_r (e' := upd sE (570 + e) (-1)) (by rw [hcl]) ?_⟩⟩⟩
  refine br_t (nI_pos' (by omega)) ⟨ia, br_f (by decide) ?_⟩
  refine ym_71 (y := nI (1 + y)) (rk := ra a) he hD ?_ ?_ h
  · rw [ca, ea, Int32.add_zero]; exact nI_add 1 y
  · intro q hq
    refine ⟨hin, ?_⟩
    rw [hcl, pk_us, pk_us]
    exact br_t (by decide) ⟨hin, br_t (by decide) ⟨hin, ia, by rw [ca]; exact hq⟩⟩
theorem ym_two {post : Int32 → SY → Prop} {e s D a b y1 y2 : Nat} (he : 570 + e < 600) (hD : D < 12) (ha : a < 570 + e) (hb : b < 570 + e) (ea : si a = nI y1) (eb : si b = nI y2) (h1 : 1 ≤ y1) (h2 : 1 ≤ y2) (h12 : 1 + y1 + y2 ≤ 12)
    (h : post (nI (D + 1)) (nI 570, nI (e + 1), nI (s + 1), nI (D + 1), lS, oS, tS, fS, upd le (570 + e) (nI 3), upd fI (570 + e) (nI a), upd sE (570 + e) (nI b), upd si (570 + e) (nI (1 + y1 + y2)), bg, tO, upd ra (570 + e) (((tO (y1 + y2) + ra a * tO y2) + ra b) + tl_sI tO (1 + y1 + y2) (y1 - 1)), sts, wy, mk, upd sk D (nI (570 + e)), op)) :
    wpY_make post (nI 570, nI e, nI s, nI D, lS, oS, tS, fS, le, fI, sE, si, bg, tO, ra, sts, wy, mk, sk, op) 3 (nI a) (nI b) := by
  have hin : vp_in (nI (570 + e)) 600 := vp_in_nI he (by decide)
  have hcl : (nI (570 + e)).toNatClampNeg = 570 + e := nI_clamp (by omega)
  have ia : vp_in (nI a) 600 := vp_in_nI (by omega) (by decide)
  have ca : (nI a).toNatClampNeg = a := nI_clamp (by omega)
  have ib : vp_in (nI b) 600 := vp_in_nI (by omega) (by decide)
  have cb : (nI b).toNatClampNeg = b := nI_clamp (by omega)
  refine nm_r (nI_add 570 e) ⟨hin, nm_r (e' := upd le (570 + e) (nI 3)) (by rw [hcl]; rfl) ⟨hin, nm_r (e' := upd fI (570 + e) (nI a)) (by rw [hcl]) ⟨hin, nm_r (e' := upd sE (570 + e) (nI b)) (by rw [hcl]) ?_⟩⟩⟩
  refine br_t (nI_pos' (by omega)) ⟨ia, br_t (nI_pos' (by omega)) ⟨ib, ?_⟩⟩
  refine ym_71 (y := nI (1 + y1 + y2)) he hD ?_ ?_ h
  · rw [ca, cb, ea, eb, show (1 : Int32) = nI 1 from rfl, nI_add, nI_add]
  · intro q hq
    have e2 : nI (1 + y1 + y2) - 1 = nI (y1 + y2) := by rw [show 1 + y1 + y2 = (y1 + y2) + 1 by omega]; exact nI_pred _
    have e3 : nI (1 + y1 + y2) - 1 - nI y1 = nI y2 := by rw [e2, pk_sub (by omega)]; exact congrArg nI (by omega)
    refine ⟨hin, ?_⟩
    rw [hcl, pk_us, pk_us, pk_us, pk_us]
    refine br_t (by decide) ⟨hin, br_f (by decide) ⟨hin, nm_e ⟨hin, ia, nm_r (e' := nI y1) (by rw [ca, pk_un (by omega), ea]) ⟨pk_in (y1 + y2) 20 (by omega) e2, hin, ia, pk_in y2 20 (by omega) e3, hin, ib, nm_r (e' := (tO (y1 + y2) + ra a * tO y2) + ra b) (by rw [ca, cb, pk_cl _ e2, pk_cl _ e3]) ?_⟩⟩⟩⟩
    refine loop_0 (fun f i (r : Int32) => wY_rankOf_106 q (nI (1 + y1 + y2)) (nI y1) (nI 570) (nI e) (nI s) (nI D) lS oS tS fS (upd le (570 + e) (nI 3)) (upd fI (570 + e) (nI a)) (upd sE (570 + e) (nI b)) (upd si (570 + e) (nI (1 + y1 + y2))) bg tO ra sts wy mk sk op f r (nI (i + 1)))
      (fun i r => r = ((tO (y1 + y2) + ra a * tO y2) + ra b) + tl_sI tO (1 + y1 + y2) i) (y1 - 1) _ (Int32.add_zero _).symm ?_ ?_
    · intro f r I
      exact br_t (nI_le (by omega) (by omega)) (by rw [I]; exact hq)
    · intro f i r hi I K
      have e : nI (1 + y1 + y2) - 1 - nI (i + 1) = nI (1 + y1 + y2 - 1 - (i + 1)) := by
        rw [show (1 : Int32) = nI 1 from rfl, pk_sub (by omega : 1 ≤ 1 + y1 + y2), pk_sub (by omega)]
      refine br_f (nI_ge (by omega) (by omega)) ⟨vp_in_nI (by omega) (by decide), pk_in (1 + y1 + y2 - 1 - (i + 1)) 20 (by omega) e, nm_e (nm_r (nI_1 (i + 1)) (K _ ?_))⟩
      rw [pk_cl _ e, nI_clamp (by omega), I, Int32.add_assoc _ (tl_sI tO (1 + y1 + y2) i)]
      rfl
end
end
section
section
theorem tl_full {s : Nat} (h : s ≤ 12) : (s < 12 ∧ nI s < 12 ∧ ¬ nI s = 12) ∨ (s = 12) := by
  by_cases e : s = 12
  · exact Or.inr e
  · exact Or.inl ⟨by omega, nI_lt (b := 12) (by omega) (by decide), yr_ne (b := 12) e (by omega) (by decide)⟩
theorem i_vc_leaf {k : Nat} {u : SX} {v : SY} (I : i_Rel k u v) (hk : k + 4 ≤ 2048) (v1 : Int32) : wpX_leaf (fun r u' => wpY_leaf (fun r' v' => r' = r ∧ i_Rel (k + 4) u' v') v v1) u v1 := by
  have I0 := I
  obtain ⟨e, s, D, l, c, d, z, lS, oS, tS, fS, le, fi, se, si, ra, tz, st, ru, sk, fI, sE, bg, tO, sts, wy, mk, op, rfl, rfl, F, R, B, S⟩ := I
  unfold wpX_leaf wpY_leaf
  dsimp only
  by_cases h1 : ∃ j, j < 2 ∧ v1 = nI j
  · obtain ⟨a, ha, rfl⟩ := h1
    refine xg_leafT ha ?_
    refine br_f (by decide) ?_
    rcases tl_full S.2.1 with ⟨h12, hx, hy⟩ | h12
    · have h1 := S.1
      have h3 := tl_Dz R.1 S
      refine br_t hx ?_
      unfold wpX_addLeaf
      dsimp only
      refine xm_add (T := 570 + e) (by omega) ?_
      refine xm_push (by omega) ?_
      refine tl_leT 1 (by decide) ha ?_
      refine br_f hy ?_
      refine ym_leaf (by omega) (by omega) ha ?_
      refine ⟨rfl, e + 1, s + 1, D + 1, tl_uN l (570 + e) a, tl_uN c (570 + e) 0, tl_uN d (570 + e) 0, tl_uN z (570 + e) 1, lS, oS, tS, fS, upd le (570 + e) (nI a), upd fi (570 + e) 0, upd se (570 + e) 0, upd si (570 + e) (nI 1), upd ra (570 + e) (nI a), tz, st, ru, upd sk D (nI (570 + e)), upd fI (570 + e) (-1), upd sE (570 + e) (-1), bg, tO, sts, wy, mk, op, rfl, rfl, F, ?_, tl_TbX (by omega) B, ?_⟩
      · exact tl_TrX R (by omega) (fun h => by omega) (fun h => by omega) (fun _ => rfl) (fun _ => rfl) (fun _ => rfl) (fun h => by omega) (fun h => by omega) (by omega)
      · exact tl_SkX h1 h12 S.2.2.1 (by have := S.2.2.2; omega)
    · subst h12
      exact br_f (by decide) (tl_leT 1 (by decide) ha (br_t rfl ⟨rfl, I0⟩))
  · refine xg_leafF h1 ?_
    exact br_t rfl (tl_leF 1 (by decide) h1 ⟨rfl, I0⟩)
theorem i_vc_one {k : Nat} {u : SX} {v : SY} (I : i_Rel k u v) (hk : k + 4 ≤ 2048) : wpX_one (fun r u' => wpY_one (fun r' v' => r' = r ∧ i_Rel (k + 4) u' v') v) u := by
  have I0 := I
  obtain ⟨e, s, D, l, c, d, z, lS, oS, tS, fS, le, fi, se, si, ra, tz, st, ru, sk, fI, sE, bg, tO, sts, wy, mk, op, rfl, rfl, F, R, B, S⟩ := I
  unfold wpX_one wpY_one
  dsimp only
  rcases tl_full S.2.1 with ⟨h12, hx, hy⟩ | h12
  · refine br_t hx ?_
    cases D with
    | zero => exact br_f (by decide) (br_f hy (br_f (by decide) ⟨rfl, I0⟩))
    | succ D =>
      obtain ⟨he, hD, t, ht, et⟩ := tl_top R.1 S
      have h1 := S.1
      have hd : (1 : Int32) ≤ nI (D + 1) := nI_le (a := 1) (by omega) (by omega)
      have hi : vp_in (nI D) 12 := vp_in_nI hD (by decide)
      have hcD : (nI D).toNatClampNeg = D := nI_clamp (by omega)
      have ct : (nI t).toNatClampNeg = t := nI_clamp (by omega)
      have it : vp_in (nI t) 582 := vp_in_nI (by omega) (by decide)
      have ez := R.2.2.2.2 t ht
      have hz1 := tl_z1 R.1 ht
      have hsum : tl_sum (fun j => z (sk j).toNatClampNeg) D + z t ≤ s := by
        have : tl_sum (fun j => z (sk j).toNatClampNeg) D + z (sk D).toNatClampNeg ≤ s := S.2.2.2
        rw [et, ct] at this; exact this
      refine br_t hd (nm_r (nI_pred D) ⟨hi, ?_⟩)
      rw [hcD, et]
      unfold wpX_addOne
      dsimp only
      refine ⟨it, it, ?_⟩
      refine xm_add (T := 570 + e) (by omega) ?_
      refine xm_push (by omega) ?_
      refine br_f hy (br_t hd (nm_r (nI_pred D) ⟨hi, ?_⟩))
      rw [hcD, et]
      refine ym_one (by omega) hD ht ez ?_
      rw [ct, ez]
      refine ⟨rfl, e + 1, s + 1, D + 1, tl_uN l (570 + e) 2, tl_uN c (570 + e) t, tl_uN d (570 + e) 0, tl_uN z (570 + e) (1 + z t), lS, oS, tS, fS, upd le (570 + e) (nI 2), upd fi (570 + e) (nI t), upd se (570 + e) 0, upd si (570 + e) (nI (1 + z t)), upd ra (570 + e) (ra t), tz, st, ru, upd sk D (nI (570 + e)), upd fI (570 + e) (nI t), upd sE (570 + e) (-1), bg, tO, sts, wy, mk, op, ?_, rfl, F, ?_, tl_TbX (by omega) B, ?_⟩
      · rw [← nI_add 1 (z t)]; rfl
      · exact tl_TrX R (by omega) (fun _ => ⟨ht, rfl, rfl⟩) (fun h => by omega) (fun h => by omega) (fun _ => rfl) (fun h => by omega) (fun _ => rfl) (fun h => by omega) (by omega)
      · exact tl_SkX h1 h12 (fun j hj => S.2.2.1 j (by omega)) (by omega)
  · subst h12
    exact br_f (by decide) (br_t rfl ⟨rfl, I0⟩)
theorem tl_rk {a s b r : Int32} : a + s + b + r = a + b + r + s := by
  rw [Int32.add_assoc a s b, Int32.add_comm s b, ← Int32.add_assoc a b s, Int32.add_assoc (a + b) s r, Int32.add_comm s r, ← Int32.add_assoc (a + b) r s]
theorem i_vc_two {k : Nat} {u : SX} {v : SY} (I : i_Rel k u v) (hk : k + 4 ≤ 2048) : wpX_two (fun r u' => wpY_two (fun r' v' => r' = r ∧ i_Rel (k + 4) u' v') v) u := by
  have I0 := I
  obtain ⟨e, s, D, l, c, d, z, lS, oS, tS, fS, le, fi, se, si, ra, tz, st, ru, sk, fI, sE, bg, tO, sts, wy, mk, op, rfl, rfl, F, R, B, S⟩ := I
  unfold wpX_two wpY_two
  dsimp only
  rcases tl_full S.2.1 with ⟨h12, hx, hy⟩ | h12
  · refine br_t hx ?_
    rcases Nat.lt_or_ge D 2 with h2 | h2
    · have hd : ¬ (2 : Int32) ≤ nI D := nI_ge (b := 2) h2 (by decide)
      exact br_f hd (br_f hy (br_f hd ⟨rfl, I0⟩))
    · obtain ⟨D, rfl⟩ : ∃ D', D = D' + 2 := ⟨D - 2, by omega⟩
      have h1 := S.1
      have h3 := tl_Dz R.1 S
      obtain ⟨t, ht, et⟩ := S.2.2.1 D (by omega)
      obtain ⟨w, hw, ew⟩ := S.2.2.1 (D + 1) (by omega)
      have hd : (2 : Int32) ≤ nI (D + 2) := nI_le (a := 2) (by omega) (by omega)
      have ed : nI (D + 2) - 2 = nI D := pk_sub (a := D + 2) (b := 2) (by omega)
      have hi : vp_in (nI D) 12 := vp_in_nI (by omega) (by decide)
      have hcD : (nI D).toNatClampNeg = D := nI_clamp (by omega)
      have hi1 : vp_in (nI D + 1) 12 := pk_in (D + 1) 12 (by omega) (nI_1 D)
      have hc1 : (nI D + 1).toNatClampNeg = D + 1 := pk_cl (D + 1) (nI_1 D)
      have ct : (nI t).toNatClampNeg = t := nI_clamp (by omega)
      have cw : (nI w).toNatClampNeg = w := nI_clamp (by omega)
      have zt := R.2.2.2.2 t ht
      have zw := R.2.2.2.2 w hw
      have ht1 := tl_z1 R.1 ht
      have hw1 := tl_z1 R.1 hw
      have hsum : tl_sum (fun j => z (sk j).toNatClampNeg) D + z t + z w ≤ s := by
        have : tl_sum (fun j => z (sk j).toNatClampNeg) D + z (sk D).toNatClampNeg + z (sk (D + 1)).toNatClampNeg ≤ s := S.2.2.2
        rw [et, ew, ct, cw] at this; exact this
      refine br_t hd (nm_r ed ⟨hi, hi1, ?_⟩)
      rw [hcD, hc1, et, ew]
      refine xm_two (T := 570 + e) (by omega) ht hw zt zw ht1 hw1 (by omega) ?_
      refine xm_push (by omega) ?_
      refine br_f hy (br_t hd (nm_r ed ⟨hi, hi1, ?_⟩))
      rw [hcD, hc1, et, ew]
      refine ym_two (by omega) (by omega) ht hw zt zw ht1 hw1 (by omega) ?_
      have eO : tl_sI tO (1 + z t + z w) (z t - 1) = tl_sI tz (1 + z t + z w) (z t - 1) := tl_sIE _ (fun j hj => B.1 j (by omega)) (fun j hj => B.1 j (by omega)) (by omega)
      have er : ((tO (z t + z w) + ra t * tO (z w)) + ra w) + tl_sI tO (1 + z t + z w) (z t - 1) = ((tz (z t + z w) + tl_sI tz (1 + z t + z w) (z t - 1)) + ra t * tz (z w)) + ra w := by
        rw [eO, B.1 (z t + z w) (by omega), B.1 (z w) (by omega)]; exact tl_rk.symm
      rw [er]
      refine ⟨rfl, e + 1, s + 1, D + 1, tl_uN l (570 + e) 3, tl_uN c (570 + e) t, tl_uN d (570 + e) w, tl_uN z (570 + e) (1 + z t + z w), lS, oS, tS, fS, upd le (570 + e) (nI 3), upd fi (570 + e) (nI t), upd se (570 + e) (nI w), upd si (570 + e) (nI (1 + z t + z w)), upd ra (570 + e) (((tz (z t + z w) + tl_sI tz (1 + z t + z w) (z t - 1)) + ra t * tz (z w)) + ra w), tz, st, ru, upd sk D (nI (570 + e)), upd fI (570 + e) (nI t), upd sE (570 + e) (nI w), bg, tO, sts, wy, mk, op, rfl, rfl, F, ?_, tl_TbX (by omega) B, ?_⟩
      · exact tl_TrX R (by omega) (fun _ => ⟨ht, rfl, rfl⟩) (fun _ => ⟨hw, rfl, rfl⟩) (fun h => by omega) (fun h => by omega) (fun h => by omega) (fun h => by omega) (fun _ => rfl) (by omega)
      · exact tl_SkX h1 h12 (fun j hj => S.2.2.1 j (by omega)) (by omega)
  · subst h12
    exact br_f (by decide) (br_t rfl ⟨rfl, I0⟩)
end
end
section
section
theorem i_vc_letter {k : Nat} {u : SX} {v : SY} (I : i_Rel k u v) (hk : k + 4 ≤ 2048) (v1 : Int32) : wpX_letter (fun r => wpY_letter (fun r' v' => r' = r ∧ i_Rel (k + 4) u v') v v1) u v1 := by
  have I0 := I
  obtain ⟨e, s, D, l, c, d, z, lS, oS, tS, fS, le, fi, se, si, ra, tz, st, ru, sk, fI, sE, bg, tO, sts, wy, mk, op, rfl, rfl, F, R, B, S⟩ := I
  cases D with
  | zero => exact br_t rfl (br_t rfl ⟨rfl, I0⟩)
  | succ D =>
    obtain ⟨he, hD, t, ht, et⟩ := tl_top R.1 S
    have h0 : ¬ nI (D + 1) = 0 := nI_ne0 (by omega) (by omega)
    have ep : nI (D + 1) - 1 = nI D := nI_pred D
    have hi : vp_in (nI (D + 1) - 1) 12 := pk_in D 12 hD ep
    have ek : sk (nI (D + 1) - 1).toNatClampNeg = nI t := by rw [pk_cl D ep, et]
    have ct : (nI t).toNatClampNeg = t := nI_clamp (by omega)
    have hz12 := (R.1 t ht).2.2.2.2.2.2
    have R2 : ∀ op' : Nat → Int32, i_Rel (k + 4) (nI (570 + e), nI (D + 1), nI s, lS, oS, tS, fS, le, fi, se, si, ra, tz, st, ru, sk) (nI 570, nI e, nI s, nI (D + 1), lS, oS, tS, fS, le, fI, sE, si, bg, tO, ra, sts, wy, mk, sk, op') :=
      fun op' => ⟨e, s, D + 1, l, c, d, z, lS, oS, tS, fS, le, fi, se, si, ra, tz, st, ru, sk, fI, sE, bg, tO, sts, wy, mk, op', rfl, rfl, F, R, B, S⟩
    have Y : ∀ r : Int32, (∀ j, j < z t → v1 = nI j → le (tl_su l c d z t j) = r) → ((∀ j, j < z t → v1 ≠ nI j) → r = -4) →
        wpY_letter (fun r' v' => r' = r ∧ i_Rel (k + 4) (nI (570 + e), nI (D + 1), nI s, lS, oS, tS, fS, le, fi, se, si, ra, tz, st, ru, sk) v') (nI 570, nI e, nI s, nI (D + 1), lS, oS, tS, fS, le, fI, sE, si, bg, tO, ra, sts, wy, mk, sk, op) v1 := by
      intro r H1 H2
      refine br_f h0 ⟨hi, nm_r (e' := upd op 0 (nI t)) (by rw [ek]) ⟨1 + z t, ?_⟩⟩
      refine yr_walk (T := 570 + e) (by omega) R.1 R.2.2.1 R.2.2.2.1 t ht 0 0 1 (upd op 0 (nI t)) (by omega) (by omega) pk_us ?_ ?_
      · intro j hj ej op'
        rw [Nat.zero_add] at ej
        exact ⟨H1 j hj ej, R2 op'⟩
      · intro nj op' _
        refine br_t (by decide) ⟨?_, R2 op'⟩
        exact (H2 fun j hj ej => nj j hj (by rw [Nat.zero_add]; exact ej)).symm
    refine br_f h0 ⟨hi, nm_r ek ?_⟩
    by_cases hneg : v1 < 0
    · refine br_t hneg (Y (-4) ?_ fun _ => rfl)
      intro j hj ej
      rw [ej] at hneg
      exact absurd hneg (nI_pos (by omega))
    · obtain ⟨j, hj, rfl⟩ := nI_of hneg
      refine br_f hneg ⟨vp_in_nI (by omega) (by decide), ?_⟩
      rw [ct, R.2.2.2.2 t ht]
      rcases Nat.lt_or_ge j (z t) with hjz | hjz
      · refine br_t (nI_lt hjz (by omega)) ⟨j + 1, ?_⟩
        have hle := tl_suLe R.1 j j t (Nat.le_refl j) ht hjz
        refine xr_sub (T := 570 + e) (by omega) R.1 R.2.1 R.2.2.2.2 j j t 0 (Nat.le_refl j) (by omega) ht hjz ?_
        refine ⟨vp_in_nI (by omega) (by decide), Y _ ?_ ?_⟩
        · intro i hi2 ei
          rw [nI_eq (by omega) (by omega)] at ei
          subst ei
          rw [nI_clamp (by omega)]
        · intro nj
          exact absurd rfl (nj j hjz)
      · refine br_f (nI_nlt hjz hj) (Y (-4) ?_ fun _ => rfl)
        intro i hi2 ei
        rw [nI_eq (by omega) (by omega)] at ei
        omega
end
section
variable {yn ye ys yd : Int32} {lS oS tS fS le fI sE si bg tO ra sts wy mk sk op : Nat → Int32}
theorem yr_runs {post : Int32 → SY → Prop} {m t D : Nat} (w : Nat → Nat) (hm : m < 2) (ht : t < 600) (hD : D < 12) (et : sk D = nI t) (hw : ∀ q, q < 4 → wy (4 * t + q) = nI (w q))
    (h : post (nI (tl_sum (fun q => tl_bi (fS m) q (w q)) 4)) (yn, ye, ys, nI (D + 1), lS, oS, tS, fS, le, fI, sE, si, bg, tO, ra, sts, wy, mk, sk, op)) : ∃ n, wY_runs_29 post (nI m) yn ye ys (nI (D + 1)) lS oS tS fS le fI sE si bg tO ra sts wy mk sk op n 0 0 := by
  have ep : nI (D + 1) - 1 = nI D := nI_pred D
  have hi : vp_in (nI (D + 1) - 1) 12 := pk_in D 12 hD ep
  have ek : sk (nI (D + 1) - 1).toNatClampNeg = nI t := by rw [pk_cl D ep, et]
  have hcl : (nI m).toNatClampNeg = m := nI_clamp (by omega)
  refine loop_0 (fun n i (r : Int32) => wY_runs_29 post (nI m) yn ye ys (nI (D + 1)) lS oS tS fS le fI sE si bg tO ra sts wy mk sk op n r (nI i))
    (fun i r => r = nI (tl_sum (fun q => tl_bi (fS m) q (w q)) i)) 4 0 rfl ?_ ?_
  · intro n r I
    exact br_t (by decide) (by rw [I]; exact h)
  · intro n i r hq I K
    have hn : ¬ (4 : Int32) ≤ nI i := nI_ge (b := 4) hq (by decide)
    have e := yr_4 t i
    refine br_f hn ⟨vp_in_nI hm (by decide), ?_⟩
    rw [hcl, ek]
    by_cases hb : bt (fS m) i = true
    · refine br_t (by rw [tl_bit1 _ (by omega), hb]) ⟨hi, pk_in (4 * t + i) 2400 (by omega) e, nm_r (e' := nI (tl_sum (fun q => tl_bi (fS m) q (w q)) (i + 1))) ?_ (nm_r (nI_1 i) (K _ rfl))⟩
      rw [pk_cl _ e, hw i hq, I, nI_add]
      show _ = nI (tl_sum (fun q => tl_bi (fS m) q (w q)) i + tl_bi (fS m) i (w i))
      unfold tl_bi; rw [if_pos hb]
    · refine br_f (by rw [tl_bit1 _ (by omega)]; exact hb) (nm_r (nI_1 i) (K _ ?_))
      show r = nI (tl_sum (fun q => tl_bi (fS m) q (w q)) i + tl_bi (fS m) i (w i))
      rw [I]; unfold tl_bi; rw [if_neg hb]; rfl
end
section
theorem i_vc_states {k : Nat} {u : SX} {v : SY} (I : i_Rel k u v) (hk : k + 4 ≤ 2048) (v1 : Int32) : wpX_states (fun r u' => wpY_states (fun r' v' => r' = r ∧ i_Rel (k + 4) u' v') v v1) u v1 := by
  have I0 := I
  obtain ⟨e, s, D, l, c, d, z, lS, oS, tS, fS, le, fi, se, si, ra, tz, st, ru, sk, fI, sE, bg, tO, sts, wy, mk, op, rfl, rfl, F, R, B, S⟩ := I
  unfold wpX_states wpY_states
  dsimp only
  by_cases h1 : ∃ j, j < 2 ∧ v1 = nI j
  · obtain ⟨m, hm, rfl⟩ := h1
    refine xg_autT hm ?_
    refine br_f (by decide) ?_
    cases D with
    | zero =>
      refine br_t rfl ?_
      refine yg_badF hm ?_
      exact br_t rfl (br_t rfl ⟨rfl, I0⟩)
    | succ D =>
      obtain ⟨he, hD, t, ht, et⟩ := tl_top R.1 S
      have h0 : ¬ nI (D + 1) = 0 := nI_ne0 (by omega) (by omega)
      have ep : nI (D + 1) - 1 = nI D := nI_pred D
      have hi : vp_in (nI (D + 1) - 1) 12 := pk_in D 12 hD ep
      have ek : sk (nI (D + 1) - 1).toNatClampNeg = nI t := by rw [pk_cl D ep, et]
      have ct : (nI t).toNatClampNeg = t := nI_clamp (by omega)
      have hb := tl_wB2 (lS := lS) (oS := oS) (tS := tS) (m := m) R.1 t ht
      refine br_f h0 ?_
      refine xr_all (T := 570 + e) hm (by omega) R.1 R.2.1 ?_
      intro ru' _ hru
      refine ⟨hi, ?_⟩
      dsimp only
      rw [ek]
      refine xr_sot (tl_w lS oS tS m l c d t) hm (by omega) (hru t ht) (fun q hq => Nat.lt_of_le_of_lt (tl_sumLe hq) hb) ?_
      intro r hr
      refine yg_badF hm ?_
      refine br_t rfl ?_
      refine br_f h0 ?_
      refine yr_all (T := 570 + e) hm (by omega) (nI_add 570 e) R.1 R.2.2.1 F.1 F.2.1 F.2.2 ?_
      intro wy' sts' hY
      refine ⟨hi, ?_⟩
      dsimp only
      rw [ek, ct]
      refine ⟨vp_in_nI (by omega) (by decide), ?_, ?_⟩
      · have hy := (hY t ht).2
        exact tl_s4e hy.1 hr.1 fun q hq => (hy.2 q hq).trans (hr.2 q hq).symm
      · exact ⟨e, s, D + 1, l, c, d, z, lS, oS, tS, fS, le, fi, se, si, ra, tz, st, ru', sk, fI, sE, bg, tO, sts', wy', mk, op, rfl, rfl, F, R, B, S⟩
  · refine xg_autF h1 ?_
    refine br_t rfl ?_
    refine yg_badT h1 ?_
    exact br_f (by decide) ⟨rfl, I0⟩
theorem i_vc_runs {k : Nat} {u : SX} {v : SY} (I : i_Rel k u v) (hk : k + 4 ≤ 2048) (v1 : Int32) : wpX_runs (fun r u' => wpY_runs (fun r' v' => r' = r ∧ i_Rel (k + 4) u' v') v v1) u v1 := by
  have I0 := I
  obtain ⟨e, s, D, l, c, d, z, lS, oS, tS, fS, le, fi, se, si, ra, tz, st, ru, sk, fI, sE, bg, tO, sts, wy, mk, op, rfl, rfl, F, R, B, S⟩ := I
  unfold wpX_runs wpY_runs
  dsimp only
  by_cases h1 : ∃ j, j < 2 ∧ v1 = nI j
  · obtain ⟨m, hm, rfl⟩ := h1
    refine xg_autT hm ?_
    refine br_f (by decide) ?_
    cases D with
    | zero =>
      refine br_t rfl ?_
      refine yg_badF hm ?_
      exact br_t rfl (br_t rfl ⟨rfl, I0⟩)
    | succ D =>
      obtain ⟨he, hD, t, ht, et⟩ := tl_top R.1 S
      have h0 : ¬ nI (D + 1) = 0 := nI_ne0 (by omega) (by omega)
      have ep : nI (D + 1) - 1 = nI D := nI_pred D
      have hi : vp_in (nI (D + 1) - 1) 12 := pk_in D 12 hD ep
      have ek : sk (nI (D + 1) - 1).toNatClampNeg = nI t := by rw [pk_cl D ep, et]
      refine br_f h0 ?_
      refine xr_all (T := 570 + e) hm (by omega) R.1 R.2.1 ?_
      intro ru' _ hru
      refine ⟨hi, ?_⟩
      dsimp only
      rw [ek]
      refine xr_fin (tl_w lS oS tS m l c d t) hm (by omega) (hru t ht) ?_
      refine yg_badF hm ?_
      refine br_t rfl ?_
      refine br_f h0 ?_
      refine yr_all (T := 570 + e) hm (by omega) (nI_add 570 e) R.1 R.2.2.1 F.1 F.2.1 F.2.2 ?_
      intro wy' sts' hY
      refine yr_runs (tl_w lS oS tS m l c d t) hm (by omega) hD et (hY t ht).1 ?_
      exact ⟨rfl, e, s, D + 1, l, c, d, z, lS, oS, tS, fS, le, fi, se, si, ra, tz, st, ru', sk, fI, sE, bg, tO, sts', wy', mk, op, rfl, rfl, F, R, B, S⟩
  · refine xg_autF h1 ?_
    refine br_t rfl ?_
    refine yg_badT h1 ?_
    exact br_f (by decide) ⟨rfl, I0⟩
end
end
section
section
theorem tl_sum1 {f : Nat → Nat} : ∀ n, (∀ j, j < n → f j ≤ 1) → tl_sum f n ≤ n
  | 0, _ => Nat.le_refl 0
  | n + 1, h => by
    show tl_sum f n + f n ≤ n + 1
    have := tl_sum1 n (fun j hj => h j (by omega))
    have := h n (by omega)
    omega
theorem tl_Sle : ∀ n, n < 8 → tl_S n ≤ tl_S (n + 1) ∧ tl_S (n + 1) ≤ 570 := by decide
/-- is listed tree t of kind k -/
def tl_K (fS lS oS tS : Nat → Int32) (l c d : Nat → Nat) (k t : Nat) : Bool := tl_kind k (tl_acc (fS 0) (tl_w lS oS tS 0 l c d t)) (tl_acc (fS 1) (tl_w lS oS tS 1 l c d t))
/-- how many trees of size n -/
def tl_g (K : Nat → Bool) (n : Nat) : Nat := tl_sum (fun j => (K (tl_S n + j)).toNat) (tl_S (n + 1) - tl_S n)
theorem tl_gB {K : Nat → Bool} {n : Nat} (h : n < 8) : tl_g K n < 2 ^ 31 := by
  have h1 := tl_sum1 (f := fun j => (K (tl_S n + j)).toNat) (tl_S (n + 1) - tl_S n) fun j _ => Bool.toNat_le _
  have h2 := (tl_Sle n h).2
  have h3 : tl_g K n ≤ tl_S (n + 1) - tl_S n := h1
  omega
def tl_lst (g : Nat → Nat) : Nat → Nat → Int32
  | 0, _ => -4
  | f + 1, n => if g n = 0 then tl_lst g f (n + 1) else nI n
end
section
variable {xt xd xm : Int32} {lS oS tS fS le fi se si ra tz st ru sk : Nat → Int32}
variable {l c d z : Nat → Nat}
theorem xr_read {post : SX → Prop} (tp : tl_TP 570 l c d z) (ta : xr_TA 570 l c d le fi se)
    (h : ∀ ru' : Nat → Int32, (∀ k, k < 7 → xr_KX k (tl_K fS lS oS tS l c d k) (xt, xd, xm, lS, oS, tS, fS, le, fi, se, si, ra, tz, st, ru', sk)) → post (xt, xd, xm, lS, oS, tS, fS, le, fi, se, si, ra, tz, st, ru', sk)) : wpX_readListedTrees post (xt, xd, xm, lS, oS, tS, fS, le, fi, se, si, ra, tz, st, ru, sk) := by
  unfold wpX_readListedTrees
  dsimp only
  refine xr_all (m := 0) (T := 570) (by decide) (by decide) tp ta ?_
  intro r1 _ h1
  dsimp only
  refine xr_all (m := 1) (T := 570) (by decide) (by decide) tp ta ?_
  intro r2 f2 h2
  refine h r2 fun k hk t ht post hp => ?_
  refine xr_kind (tl_w lS oS tS 0 l c d t) (tl_w lS oS tS 1 l c d t) hk (by omega) (fun q hq => ?_) (fun q hq => h2 t ht q hq) (tl_wB2 tp t ht) (tl_wB2 tp t ht) hp
  rw [f2 _ (by omega)]
  exact h1 t ht q hq
theorem xr_least {post : Int32 → SX → Prop} {k : Nat} {g : Nat → Nat} (hg : ∀ n, n < 8 → g n < 2 ^ 31) (hc : ∀ n, 1 ≤ n → n ≤ 7 → ∀ q : Int32 → Prop, q (nI (g n)) → wpX_countOfKind q (xt, xd, xm, lS, oS, tS, fS, le, fi, se, si, ra, tz, st, ru, sk) (nI k) (nI n)) :
    ∀ f n, n + f = 8 → 1 ≤ n → post (tl_lst g f n) (xt, xd, xm, lS, oS, tS, fS, le, fi, se, si, ra, tz, st, ru, sk) → wX_least_16 post (nI k) xt xd xm lS oS tS fS le fi se si ra tz st ru sk (f + 1) (nI n) := by
  intro f
  induction f with
  | zero =>
    intro n e h1 h
    exact br_t (nI_lt (a := 7) (by omega) (by omega)) h
  | succ f ih =>
    intro n e h1 h
    refine br_f (nI_nlt (a := 7) (by omega) (by decide)) (hc n h1 (by omega) _ ?_)
    by_cases h0 : g n = 0
    · have e1 : tl_lst g (f + 1) n = tl_lst g f (n + 1) := if_pos h0
      rw [e1] at h
      exact br_t (by rw [h0]; decide) (nm_r (nI_1 n) (ih (n + 1) (by omega) (by omega) h))
    · have e1 : tl_lst g (f + 1) n = nI n := if_neg h0
      rw [e1] at h
      exact br_f (nI_nle (by omega) (hg n (by omega))) h
end
section
variable {yn ye ys yd : Int32} {lS oS tS fS le fI sE si bg tO ra sts wy mk sk op : Nat → Int32}
theorem yr_least {post : Int32 → SY → Prop} {k : Nat} {g : Nat → Nat} (hg : ∀ n, n < 8 → g n < 2 ^ 31) (hc : ∀ n, 1 ≤ n → n ≤ 7 → ∀ q : Int32 → Prop, q (nI (g n)) → wpY_counted q (yn, ye, ys, yd, lS, oS, tS, fS, le, fI, sE, si, bg, tO, ra, sts, wy, mk, sk, op) (nI k) (nI n)) :
    ∀ f n, n + f = 8 → 1 ≤ n → post (tl_lst g f n) (yn, ye, ys, yd, lS, oS, tS, fS, le, fI, sE, si, bg, tO, ra, sts, wy, mk, sk, op) → wY_least_16 post (nI k) yn ye ys yd lS oS tS fS le fI sE si bg tO ra sts wy mk sk op (f + 1) (nI n) := by
  intro f
  induction f with
  | zero =>
    intro n e h1 h
    exact br_t (nI_lt (a := 7) (by omega) (by omega)) h
  | succ f ih =>
    intro n e h1 h
    refine br_f (nI_nlt (a := 7) (by omega) (by decide)) (hc n h1 (by omega) _ ?_)
    by_cases h0 : g n = 0
    · have e1 : tl_lst g (f + 1) n = tl_lst g f (n + 1) := if_pos h0
      rw [e1] at h
      exact br_t (by rw [h0]; decide) (nm_r (nI_1 n) (ih (n + 1) (by omega) (by omega) h))
    · have e1 : tl_lst g (f + 1) n = nI n := if_neg h0
      rw [e1] at h
      exact br_f (nI_nle (by omega) (hg n (by omega))) h
end
section
theorem i_vc_count {k : Nat} {u : SX} {v : SY} (I : i_Rel k u v) (hk : k + 4 ≤ 2048) (v1 : Int32) (v2 : Int32) : wpX_count (fun r u' => wpY_count (fun r' v' => r' = r ∧ i_Rel (k + 4) u' v') v v1 v2) u v1 v2 := by
  have I0 := I
  obtain ⟨e, s, D, l, c, d, z, lS, oS, tS, fS, le, fi, se, si, ra, tz, st, ru, sk, fI, sE, bg, tO, sts, wy, mk, op, rfl, rfl, F, R, B, S⟩ := I
  unfold wpX_count wpY_count
  dsimp only
  by_cases h1 : ∃ j, j < 7 ∧ v1 = nI j
  · obtain ⟨a, ha, rfl⟩ := h1
    refine xg_kindT ha ?_
    refine br_f (by decide) ?_
    by_cases h2 : ∃ n, 1 ≤ n ∧ n ≤ 7 ∧ v2 = nI n
    · obtain ⟨n, h1, h7, rfl⟩ := h2
      have he : e ≤ 12 := by have := S.1; have := S.2.1; omega
      refine xg_sizeT h1 h7 ?_
      refine br_f (by decide) ?_
      refine xr_read (tl_TPm (by omega) R.1) (xr_TAm (by omega) R.2.1) ?_
      intro ru' hK
      dsimp only
      refine xr_cnt (hK a ha) (by omega) (B.2.1 n h1 (by omega)).1 (B.2.1 (n + 1) (by omega) (by omega)).1 (tl_Sle n (by omega)).1 (tl_Sle n (by omega)).2 ?_
      refine yg_nokindF ha ?_
      refine br_t rfl ?_
      refine yg_sizeT h1 h7 ?_
      refine yr_mark (T := 570 + e) (by omega) (by omega) rfl (nI_add 570 e) R.1 R.2.2.1 F.1 F.2.1 F.2.2 ?_
      intro wy' sts' mk' hM
      dsimp only
      refine yr_cnt ha hM (by omega) (B.2.1 n h1 (by omega)).2 (B.2.1 (n + 1) (by omega) (by omega)).2 (tl_Sle n (by omega)).1 (tl_Sle n (by omega)).2 ?_
      exact ⟨rfl, e, s, D, l, c, d, z, lS, oS, tS, fS, le, fi, se, si, ra, tz, st, ru', sk, fI, sE, bg, tO, sts', wy', mk', op, rfl, rfl, F, R, B, S⟩
    · refine xg_sizeF h2 ?_
      refine br_t rfl ?_
      refine yg_nokindF ha ?_
      exact br_t rfl (yg_sizeF h2 ⟨rfl, I0⟩)
  · refine xg_kindF h1 ?_
    refine br_t rfl ?_
    refine yg_nokindT h1 ?_
    exact br_f (by decide) ⟨rfl, I0⟩
theorem i_vc_least {k : Nat} {u : SX} {v : SY} (I : i_Rel k u v) (hk : k + 4 ≤ 2048) (v1 : Int32) : wpX_least (fun r u' => wpY_least (fun r' v' => r' = r ∧ i_Rel (k + 4) u' v') v v1) u v1 := by
  have I0 := I
  obtain ⟨e, s, D, l, c, d, z, lS, oS, tS, fS, le, fi, se, si, ra, tz, st, ru, sk, fI, sE, bg, tO, sts, wy, mk, op, rfl, rfl, F, R, B, S⟩ := I
  unfold wpX_least wpY_least
  dsimp only
  by_cases h1 : ∃ j, j < 7 ∧ v1 = nI j
  · obtain ⟨a, ha, rfl⟩ := h1
    have he : e ≤ 12 := by have := S.1; have := S.2.1; omega
    refine xg_kindT ha ?_
    refine br_f (by decide) ?_
    refine xr_read (tl_TPm (by omega) R.1) (xr_TAm (by omega) R.2.1) ?_
    intro ru' hK
    dsimp only
    refine ⟨8, ?_⟩
    refine xr_least (g := tl_g (tl_K fS lS oS tS l c d a)) (fun n hn => tl_gB hn) ?_ 7 1 (by decide) (by decide) ?_
    · intro n h1 h7 q hq
      exact xr_cnt (hK a ha) (by omega) (B.2.1 n h1 (by omega)).1 (B.2.1 (n + 1) (by omega) (by omega)).1 (tl_Sle n (by omega)).1 (tl_Sle n (by omega)).2 hq
    refine yg_nokindF ha ?_
    refine br_t rfl ?_
    refine yr_mark (T := 570 + e) (by omega) (by omega) rfl (nI_add 570 e) R.1 R.2.2.1 F.1 F.2.1 F.2.2 ?_
    intro wy' sts' mk' hM
    dsimp only
    refine ⟨8, ?_⟩
    refine yr_least (g := tl_g (tl_K fS lS oS tS l c d a)) (fun n hn => tl_gB hn) ?_ 7 1 (by decide) (by decide) ?_
    · intro n h1 h7 q hq
      exact yr_cnt ha hM (by omega) (B.2.1 n h1 (by omega)).2 (B.2.1 (n + 1) (by omega) (by omega)).2 (tl_Sle n (by omega)).1 (tl_Sle n (by omega)).2 hq
    exact ⟨rfl, e, s, D, l, c, d, z, lS, oS, tS, fS, le, fi, se, si, ra, tz, st, ru', sk, fI, sE, bg, tO, sts', wy', mk', op, rfl, rfl, F, R, B, S⟩
  · refine xg_kindF h1 ?_
    refine br_t rfl ?_
    refine yg_nokindT h1 ?_
    exact br_f (by decide) ⟨rfl, I0⟩
theorem i_vc_load {k : Nat} {u : SX} {v : SY} (I : i_Rel k u v) (hk : k + 4 ≤ 2048) (v1 : Int32) (v2 : Int32) (v3 : Int32) : wpX_load (fun r u' => wpY_load (fun r' v' => r' = r ∧ i_Rel (k + 4) u' v') v v1 v2 v3) u v1 v2 v3 := by
  have I0 := I
  obtain ⟨e, s, D, l, c, d, z, lS, oS, tS, fS, le, fi, se, si, ra, tz, st, ru, sk, fI, sE, bg, tO, sts, wy, mk, op, rfl, rfl, F, R, B, S⟩ := I
  unfold wpX_load wpY_load
  dsimp only
  by_cases h1 : ∃ j, j < 7 ∧ v1 = nI j
  · obtain ⟨a, ha, rfl⟩ := h1
    refine xg_kindT ha ?_
    refine br_f (by decide) ?_
    by_cases h2 : ∃ n, 1 ≤ n ∧ n ≤ 7 ∧ v2 = nI n
    · obtain ⟨n, h1, h7, rfl⟩ := h2
      have he : e ≤ 12 := by have := S.1; have := S.2.1; omega
      have hS := tl_Sle n (by omega)
      refine xg_sizeT h1 h7 ?_
      refine br_f (by decide) ?_
      refine xr_read (tl_TPm (by omega) R.1) (xr_TAm (by omega) R.2.1) ?_
      intro ru' hK
      dsimp only
      have Y : ∀ post : Int32 → SY → Prop, (∀ wy' sts' mk' : Nat → Int32, (tl_find (tl_K fS lS oS tS l c d a) v3 (tl_S (n + 1) - tl_S n) 0 (tl_S n) = none → post (-4) (nI 570, nI e, nI s, nI D, lS, oS, tS, fS, le, fI, sE, si, bg, tO, ra, sts', wy', mk', sk, op)) ∧
          (∀ t, tl_find (tl_K fS lS oS tS l c d a) v3 (tl_S (n + 1) - tl_S n) 0 (tl_S n) = some t → post 0 (nI 570, 0, nI n, 1, lS, oS, tS, fS, le, fI, sE, si, bg, tO, ra, sts', wy', mk', upd sk 0 (nI t), op))) →
          wpY_load post (nI 570, nI e, nI s, nI D, lS, oS, tS, fS, le, fI, sE, si, bg, tO, ra, sts, wy, mk, sk, op) (nI a) (nI n) v3 := by
        intro post H
        unfold wpY_load
        dsimp only
        refine yg_nokindF ha ?_
        refine br_t rfl ?_
        refine yg_sizeT h1 h7 ?_
        refine yr_mark (T := 570 + e) (by omega) (by omega) rfl (nI_add 570 e) R.1 R.2.2.1 F.1 F.2.1 F.2.2 ?_
        intro wy' sts' mk' hM
        dsimp only
        refine ⟨vp_in_nI (by omega) (by decide), nm_r (e' := nI (tl_S n)) (by rw [nI_clamp (by omega), (B.2.1 n h1 (by omega)).2]) ?_⟩
        exact yr_find ha hM (by omega) (B.2.1 (n + 1) (by omega) (by omega)).2 hS.1 hS.2 (H wy' sts' mk').1 (H wy' sts' mk').2
      unfold wpY_load at Y
      dsimp only at Y
      refine xr_find (hK a ha) (by omega) (B.2.1 n h1 (by omega)).1 (B.2.1 (n + 1) (by omega) (by omega)).1 hS.1 hS.2 ?_ ?_
      · intro hN
        refine br_t rfl ?_
        refine Y (fun r' v' => r' = -4 ∧ i_Rel (k + 4) (nI (570 + e), nI D, nI s, lS, oS, tS, fS, le, fi, se, si, ra, tz, st, ru', sk) v') fun wy' sts' mk' => ⟨fun _ => ?_, fun t ht => ?_⟩
        · exact ⟨rfl, e, s, D, l, c, d, z, lS, oS, tS, fS, le, fi, se, si, ra, tz, st, ru', sk, fI, sE, bg, tO, sts', wy', mk', op, rfl, rfl, F, R, B, S⟩
        · rw [hN] at ht; exact nomatch ht
      · intro t ht
        have hin := tl_findIn _ _ _ _ ht
        have htz : z t = n := B.2.2 n h1 h7 t hin.1 (by omega)
        have h4 : ¬ nI t = -4 := fun h => nI_pos (by omega : t < 2 ^ 31) (by rw [h]; decide)
        refine br_f h4 ?_
        unfold wpX_emptyStack
        dsimp only
        unfold wpX_pushTree
        dsimp only
        refine ⟨by rw [tl_i0]; exact vp_in_nI (by decide) (by decide), nm_r (e' := upd sk 0 (nI t)) rfl (nm_r (e' := nI 1) rfl ?_)⟩
        refine Y (fun r' v' => r' = 0 ∧ i_Rel (k + 4) (570, nI 1, nI n, lS, oS, tS, fS, le, fi, se, si, ra, tz, st, ru', upd sk 0 (nI t)) v') fun wy' sts' mk' => ⟨fun hn => ?_, fun t' ht' => ?_⟩
        · rw [ht] at hn; exact nomatch hn
        · rw [ht] at ht'
          cases ht'
          refine ⟨rfl, 0, n, 1, l, c, d, z, lS, oS, tS, fS, le, fi, se, si, ra, tz, st, ru', upd sk 0 (nI t), fI, sE, bg, tO, sts', wy', mk', op, rfl, rfl, F, tl_Trm (by omega) R, B, by omega, by omega, fun j hj => ⟨t, by omega, ?_⟩, ?_⟩
          · have : j = 0 := by omega
            subst this; exact pk_us
          · show 0 + z (upd sk 0 (nI t) 0).toNatClampNeg ≤ n
            rw [pk_us, nI_clamp (by omega), htz, Nat.zero_add]
            exact Nat.le_refl n
    · refine xg_sizeF h2 ?_
      refine br_t rfl ?_
      refine yg_nokindF ha ?_
      exact br_t rfl (yg_sizeF h2 ⟨rfl, I0⟩)
  · refine xg_kindF h1 ?_
    refine br_t rfl ?_
    refine yg_nokindT h1 ?_
    exact br_f (by decide) ⟨rfl, I0⟩
end
end
section
section
/-! the 570 trees in their order: letter, children, size, rank -/
def tb_l (t : Nat) : Nat := 14934650266808366570320408622852960646761673277207226330614110735087816844749013262154996078651848582108360475310915294566518312586678747717366605686086578535186473409167900885946636800641365577064777390949364952591095586033565875202529333868203923886937022878141324114933030808934325416419646539408544885830610385500312339886308601186736929444 / 4 ^ t % 4
def tb_c (t : Nat) : Nat := 47207717338472013116651325826507397419021424273211876133134760465488362733176222631025433389708411577347511256605257622044737522164885537377221123340641759884866888165721452016039021360262319161626643169589720554954226672986519171637021016222100640746504333560042256234209157535353930320458571813334993899559306107019252998173032001370850224870058393105962789538725438500407798531437655191301543717786957179197156657796552953789553848020881887971979035743643320228089187877544893012912527521315283596136520015971470107979988718038895838921413032751191062980382608115233812770082609552449429730274994705129640230638953424309533317262167905099600152548529501620485769062774392006542551049745486156262295405508700008429777314718205962472121530051877063007693617095780036627600927653937025489950554771257317589764097369034100293037567559365814515152118925266395376770707662867360472992611974625259693066133994362996995947619877741903226888313338842736060331352435426675582243406451396785863521765854104872877063881745755751449982517063025205494010031997211246103398018613134135804177315133711699369554111441228823358001464179071127255765019250101522224555086421487168474354065699560368755214582553089353354163043142658260155943694781264772937379809305469185580754357242591698097935726163488051008730648960338663415562880976989414407910287806668876355242151040730335902219419980033775634572715474956745846646388173599012379730884454442555298511689260265755622544494798186917424149098749864110884080091887662804225487516315162695509385682622047410336141952437870703918492798353121195390605003864109967575174236619622877076080244734727222722045907331534623673625860185848655194662230496876319151954393171363426698375725056 / 1024 ^ t % 1024
def tb_d (t : Nat) : Nat := 725564026474245241378788004247485784606236898743364837779952974642820971328270633924011726130408515514015256982749230222517212602980715989007774011330541532467375847428890650955914306557431525492756122112187757509310878962859897320672956672090887339868692874272775813830659851181263727027924107646619155445275671252124888862119397754005794693053254351372828563975664632997995104189781807811129982666419424072690860807837363271734000291530527005496056670108007465764252532150553598466337835495823490752470953134431142479831749832897302424201627158444346200848108988685705257149625023072779642302251363042950672135156707638162942116317562804140058522716350875240298113081705170413982924769126148531860955608184132206269636624395138003011299385686001777639564385508602095591003521899391313187783333734225487950877757527967935739549252726502389340291350624753545266845485079990366820851133807027157774397322355750709649558201994481815107163856607980127266156998816813733522652495753645958862304057653714836680633792279999625024667487609441869669859829241487686766916938603818220731469636031450535253183833388265358945922234966822118270723444796697355430119445030317161350992935306823788830257199494695598727721391892097866252981593046334645671236182603168613890202463272298884302385731065739147822311432824103322290955556096576007883181878532041048890607509692461587677346017098429431036449309952283186142951142607326899731111943140916701413113212713254157173448855834664204527696717959934110495880358980075127725272816790233117105606334821325752054027353507368676728332969774158915167587128307344805367226635761961772316059916752962041426014546399153879742718709465397722844065880122053960286440789459389785057525760 / 1024 ^ t % 1024
def tb_z (t : Nat) : Nat := if t < 2 then 1 else if t < 4 then 2 else if t < 10 then 3 else if t < 24 then 4 else if t < 66 then 5 else if t < 188 then 6 else 7
def tb_r (t : Nat) : Nat := t - tl_S (tb_z t)
def tb_n (j : Nat) : Nat := ([0, 2, 2, 6, 14, 42, 122, 382, 1206, 3922, 12914, 43190, 145950, 498170, 1714026, 5940014, 20712646, 72623266, 255875298, 905477734] : List Nat).getD j 0
def tb_D (j : Nat) : Int32 := nI (tb_n j)
def tb_C (n : Nat) : Nat := tl_S (n + 1) - tl_S n
def tb_sm (n i : Nat) : Nat := tl_sum (fun q => tb_C (q + 1) * tb_C (n - 1 - (q + 1))) i
def tb_B (n k : Nat) : Nat := tl_S n + tb_C (n - 1) + tb_sm n (k - 1)
def tb_cut (T : Nat) (g : Nat → Int32) : Nat → Int32 := fun j => if j < T then g j else 0
theorem tb_lo {T j : Nat} {g : Nat → Int32} (h : j < T) : tb_cut T g j = g j := if_pos h
theorem tb_up {T : Nat} {g : Nat → Int32} {x : Int32} (h : x = g T) : upd (tb_cut T g) T x = tb_cut (T + 1) g := by
  funext j
  by_cases e : j = T
  · subst e; rw [pk_us, tb_lo (by omega)]; exact h
  · rw [pk_un e]
    unfold tb_cut
    by_cases h2 : j < T
    · rw [if_pos h2, if_pos (by omega)]
    · rw [if_neg h2, if_neg (by omega)]
theorem tb_0 {g : Nat → Int32} : tb_cut 0 g = fun _ => 0 := rfl
def tb_L (T : Nat) : Nat → Int32 := tb_cut T (fun t => nI (tb_l t))
def tb_F (T : Nat) : Nat → Int32 := tb_cut T (fun t => nI (tb_c t))
def tb_G (T : Nat) : Nat → Int32 := tb_cut T (fun t => nI (tb_d t))
def tb_Z (T : Nat) : Nat → Int32 := tb_cut T (fun t => nI (tb_z t))
def tb_R (T : Nat) : Nat → Int32 := tb_cut T (fun t => nI (tb_r t))
def tb_P (T : Nat) : Nat → Int32 := tb_cut T (fun t => if tb_l t < 2 then -1 else nI (tb_c t))
def tb_Q (T : Nat) : Nat → Int32 := tb_cut T (fun t => if tb_l t < 3 then -1 else nI (tb_d t))
def tb_T (n : Nat) : Nat → Int32 := tb_cut (n + 1) (fun j => nI (tl_S j))
def tb_N (n : Nat) : Nat → Int32 := tb_cut n tb_D
/-! what is checked of the list, number by number -/
theorem tb_k1 : ∀ n, n < 8 → 1 ≤ n → ∀ i, i < tb_C n → tb_z (tl_S n + i) = n := by decide +kernel
theorem tb_o1 : ∀ n, n < 8 → 2 ≤ n → ∀ i, i < tb_C (n - 1) → tl_S n + i < 570 ∧ tb_l (tl_S n + i) = 2 ∧ tb_c (tl_S n + i) = tl_S (n - 1) + i := by decide +kernel
theorem tb_o2 : ∀ n, n < 8 → 2 ≤ n → ∀ i, i < tb_C (n - 1) → tb_d (tl_S n + i) = 0 ∧ tb_z (tl_S n + i) = n ∧ tb_r (tl_S n + i) = tb_r (tl_S (n - 1) + i) := by decide +kernel
def tb_all (n k : Nat) (f : Nat → Nat → Bool) : Bool := (List.range (tb_C k)).all fun i => (List.range (tb_C (n - 1 - k))).all fun j => f i j
theorem tb_allE {n k : Nat} {f : Nat → Nat → Bool} (h : tb_all n k f = true) {i j : Nat} (hi : i < tb_C k) (hj : j < tb_C (n - 1 - k)) : f i j = true := by
  unfold tb_all at h
  rw [List.all_eq_true] at h
  have h2 := h i (List.mem_range.mpr hi)
  rw [List.all_eq_true] at h2
  exact h2 j (List.mem_range.mpr hj)
theorem tb_t1b : ∀ n, n < 8 → ∀ k, k < n → 1 ≤ k → k + 1 < n → tb_all n k (fun i j => decide (tb_B n k + i * tb_C (n - 1 - k) + j < 570 ∧ tb_l (tb_B n k + i * tb_C (n - 1 - k) + j) = 3)) = true := by decide +kernel
theorem tb_t1 : ∀ n, n < 8 → ∀ k, k < n → 1 ≤ k → k + 1 < n → ∀ i, i < tb_C k → ∀ j, j < tb_C (n - 1 - k) → tb_B n k + i * tb_C (n - 1 - k) + j < 570 ∧ tb_l (tb_B n k + i * tb_C (n - 1 - k) + j) = 3 :=
  fun n hn k hk h1 h2 i hi j hj => of_decide_eq_true (tb_allE (tb_t1b n hn k hk h1 h2) hi hj)
theorem tb_t2b : ∀ n, n < 8 → ∀ k, k < n → 1 ≤ k → k + 1 < n → tb_all n k (fun i j => decide (tb_c (tb_B n k + i * tb_C (n - 1 - k) + j) = tl_S k + i ∧ tb_d (tb_B n k + i * tb_C (n - 1 - k) + j) = tl_S (n - 1 - k) + j)) = true := by decide +kernel
theorem tb_t2 : ∀ n, n < 8 → ∀ k, k < n → 1 ≤ k → k + 1 < n → ∀ i, i < tb_C k → ∀ j, j < tb_C (n - 1 - k) → tb_c (tb_B n k + i * tb_C (n - 1 - k) + j) = tl_S k + i ∧ tb_d (tb_B n k + i * tb_C (n - 1 - k) + j) = tl_S (n - 1 - k) + j :=
  fun n hn k hk h1 h2 i hi j hj => of_decide_eq_true (tb_allE (tb_t2b n hn k hk h1 h2) hi hj)
theorem tb_t3b : ∀ n, n < 8 → ∀ k, k < n → 1 ≤ k → k + 1 < n → tb_all n k (fun i j => decide (tb_z (tb_B n k + i * tb_C (n - 1 - k) + j) = n ∧ tb_r (tb_B n k + i * tb_C (n - 1 - k) + j) = tb_C (n - 1) + tb_sm n (k - 1) + tb_r (tl_S k + i) * tb_C (n - 1 - k) + tb_r (tl_S (n - 1 - k) + j))) = true := by decide +kernel
theorem tb_t3 : ∀ n, n < 8 → ∀ k, k < n → 1 ≤ k → k + 1 < n → ∀ i, i < tb_C k → ∀ j, j < tb_C (n - 1 - k) → tb_z (tb_B n k + i * tb_C (n - 1 - k) + j) = n ∧ tb_r (tb_B n k + i * tb_C (n - 1 - k) + j) = tb_C (n - 1) + tb_sm n (k - 1) + tb_r (tl_S k + i) * tb_C (n - 1 - k) + tb_r (tl_S (n - 1 - k) + j) :=
  fun n hn k hk h1 h2 i hi j hj => of_decide_eq_true (tb_allE (tb_t3b n hn k hk h1 h2) hi hj)
theorem tb_t4b : ∀ n, n < 8 → ∀ k, k < n → 1 ≤ k → k + 1 < n → tb_all n k (fun i j => decide (tl_S k + i < tb_B n k + i * tb_C (n - 1 - k) + j ∧ tl_S (n - 1 - k) + j < tb_B n k + i * tb_C (n - 1 - k) + j)) = true := by decide +kernel
theorem tb_t4 : ∀ n, n < 8 → ∀ k, k < n → 1 ≤ k → k + 1 < n → ∀ i, i < tb_C k → ∀ j, j < tb_C (n - 1 - k) → tl_S k + i < tb_B n k + i * tb_C (n - 1 - k) + j ∧ tl_S (n - 1 - k) + j < tb_B n k + i * tb_C (n - 1 - k) + j :=
  fun n hn k hk h1 h2 i hi j hj => of_decide_eq_true (tb_allE (tb_t4b n hn k hk h1 h2) hi hj)
theorem tb_b1 : ∀ n, n < 8 → 2 ≤ n → tb_B n 1 = tl_S n + tb_C (n - 1) ∧ tb_B n (n - 1) = tl_S (n + 1) := by decide +kernel
theorem tb_b2 : ∀ n, n < 8 → ∀ k, k < n → 1 ≤ k → k + 1 < n → tb_B n (k + 1) = tb_B n k + tb_C k * tb_C (n - 1 - k) := by decide +kernel
theorem tb_s1 : ∀ n, n < 8 → 1 ≤ n → tl_S (n + 1) = tl_S n + tb_C n ∧ tl_S (n + 1) ≤ 570 := by decide +kernel
theorem tb_n1 : ∀ j, j < 8 → tb_n j = tb_C j := by decide +kernel
theorem tb_sI1 : ∀ n, n < 8 → ∀ k, k < n → tl_sI (tb_N 12) n (k - 1) = nI (tb_sm n (k - 1)) := by decide +kernel
theorem tb_D1 : ∀ n, n < 20 → 2 ≤ n → tb_N n (n - 1) + tl_sI (tb_N n) n (n - 2) = tb_D n := by decide +kernel
theorem tb_p1 : ∀ t, t < 570 → tb_l t ≤ 3 ∧ (2 ≤ tb_l t → tb_c t < t) ∧ (tb_l t = 3 → tb_d t < t) := by decide +kernel
theorem tb_p2 : ∀ t, t < 570 → (tb_l t < 2 → tb_z t = 1) ∧ (tb_l t = 2 → tb_z t = 1 + tb_z (tb_c t)) := by decide +kernel
theorem tb_p3 : ∀ t, t < 570 → (tb_l t = 3 → tb_z t = 1 + tb_z (tb_c t) + tb_z (tb_d t)) ∧ tb_z t ≤ 12 := by decide +kernel
theorem tb_p4 : ∀ t, t < 570 → tl_S (tb_z t) ≤ t ∧ 1 ≤ tb_z t ∧ tb_z t ≤ 7 := by decide +kernel
theorem tb_p5 : ∀ t, t < 2 → tb_l t = t ∧ tb_c t = 0 ∧ tb_d t = 0 := by decide +kernel
theorem tb_p6 : ∀ t, t < 2 → tb_z t = 1 ∧ tb_r t = t := by decide +kernel
end
end
section
section
theorem tb_pos {n : Nat} (hn : n < 8) (h1 : 1 ≤ n) : tl_S (n + 1) = tl_S n + tb_C n := (tb_s1 n hn h1).1
theorem xi_add {post : SX → Prop} {T n : Nat} {p0 p1 p2 p3 p4 : Int32} (hT : T < 570) (e0 : p0 = nI (tb_l T)) (e1 : p1 = nI (tb_c T)) (e2 : p2 = nI (tb_d T)) (e3 : p3 = nI (tb_z T)) (e4 : p4 = nI (tb_r T))
    (h : post (nI (T + 1), 0, 0, fun _ => 0, fun _ => 0, fun _ => 0, fun _ => 0, tb_L (T + 1), tb_F (T + 1), tb_G (T + 1), tb_Z (T + 1), tb_R (T + 1), tb_N 12, tb_T (n), fun _ => 0, fun _ => 0)) : wpX_addTree post (nI (T), 0, 0, fun _ => 0, fun _ => 0, fun _ => 0, fun _ => 0, tb_L (T), tb_F (T), tb_G (T), tb_Z (T), tb_R (T), tb_N 12, tb_T (n), fun _ => 0, fun _ => 0) p0 p1 p2 p3 p4 := by
  refine xm_add (by omega) ?_
  have a0 : upd (tb_L T) T p0 = tb_L (T + 1) := tb_up e0
  have a1 : upd (tb_F T) T p1 = tb_F (T + 1) := tb_up e1
  have a2 : upd (tb_G T) T p2 = tb_G (T + 1) := tb_up e2
  have a3 : upd (tb_Z T) T p3 = tb_Z (T + 1) := tb_up e3
  have a4 : upd (tb_R T) T p4 = tb_R (T + 1) := tb_up e4
  rw [a0, a1, a2, a3, a4]
  exact h
theorem xi_one {post : SX → Prop} {n i : Nat} (hn : n < 8) (h2 : 2 ≤ n) (hi : i < tb_C (n - 1)) (h : post (nI (tl_S n + i + 1), 0, 0, fun _ => 0, fun _ => 0, fun _ => 0, fun _ => 0, tb_L (tl_S n + i + 1), tb_F (tl_S n + i + 1), tb_G (tl_S n + i + 1), tb_Z (tl_S n + i + 1), tb_R (tl_S n + i + 1), tb_N 12, tb_T (n), fun _ => 0, fun _ => 0)) : wpX_addOne post (nI (tl_S n + i), 0, 0, fun _ => 0, fun _ => 0, fun _ => 0, fun _ => 0, tb_L (tl_S n + i), tb_F (tl_S n + i), tb_G (tl_S n + i), tb_Z (tl_S n + i), tb_R (tl_S n + i), tb_N 12, tb_T (n), fun _ => 0, fun _ => 0) (nI (tl_S (n - 1) + i)) := by
  obtain ⟨o1, o2, o3⟩ := tb_o1 n hn h2 i hi
  obtain ⟨o4, o5, o6⟩ := tb_o2 n hn h2 i hi
  have s1 := tb_pos (n := n - 1) (by omega) (by omega)
  rw [show n - 1 + 1 = n by omega] at s1
  have k1 := tb_k1 (n - 1) (by omega) (by omega) i hi
  have hc : tl_S (n - 1) + i < tl_S n + i := by omega
  have hcl : (nI (tl_S (n - 1) + i)).toNatClampNeg = tl_S (n - 1) + i := nI_clamp (by omega)
  have it : vp_in (nI (tl_S (n - 1) + i)) 582 := vp_in_nI (by omega) (by decide)
  have ez : tb_Z (tl_S n + i) (tl_S (n - 1) + i) = nI (tb_z (tl_S (n - 1) + i)) := tb_lo hc
  have er : tb_R (tl_S n + i) (tl_S (n - 1) + i) = nI (tb_r (tl_S (n - 1) + i)) := tb_lo hc
  unfold wpX_addOne
  dsimp only
  refine ⟨it, it, ?_⟩
  refine xi_add o1 (by rw [o2]; rfl) (by rw [o3]) (by rw [o4]; rfl) ?_ ?_ h
  · rw [hcl, ez, k1, o5, show (1 : Int32) = nI 1 from rfl, nI_add]; exact congrArg nI (by omega)
  · rw [hcl, er, o6]
theorem tb_Tj {n j : Nat} (h : j ≤ n) : tb_T n j = nI (tl_S j) := tb_lo (by omega)
theorem xi_listOne {post : SX → Prop} {n : Nat} (hn : n < 8) (h2 : 2 ≤ n) (h : post (nI (tl_S n + tb_C (n - 1)), 0, 0, fun _ => 0, fun _ => 0, fun _ => 0, fun _ => 0, tb_L (tl_S n + tb_C (n - 1)), tb_F (tl_S n + tb_C (n - 1)), tb_G (tl_S n + tb_C (n - 1)), tb_Z (tl_S n + tb_C (n - 1)), tb_R (tl_S n + tb_C (n - 1)), tb_N 12, tb_T (n), fun _ => 0, fun _ => 0)) : wpX_listOneTrees post (nI (tl_S n), 0, 0, fun _ => 0, fun _ => 0, fun _ => 0, fun _ => 0, tb_L (tl_S n), tb_F (tl_S n), tb_G (tl_S n), tb_Z (tl_S n), tb_R (tl_S n), tb_N 12, tb_T (n), fun _ => 0, fun _ => 0) (nI n) := by
  have s1 := tb_pos (n := n - 1) (by omega) (by omega)
  rw [show n - 1 + 1 = n by omega] at s1
  have s2 := (tb_s1 (n - 1) (by omega) (by omega)).2
  rw [show n - 1 + 1 = n by omega] at s2
  have e1 : nI n - 1 = nI (n - 1) := pk_sub (b := 1) (by omega)
  refine ⟨vp_in_nI (by omega) (by decide), nm_r (e' := nI (tl_S n)) (by rw [nI_clamp (by omega), tb_Tj (Nat.le_refl n)]) ⟨pk_in (n - 1) 9 (by omega) e1, nm_r (e' := nI (tl_S (n - 1))) (by rw [pk_cl _ e1, tb_Tj (by omega)]) ?_⟩⟩
  refine loop_0 (fun f i (_ : Unit) => wX_listOneTrees_16 post (nI (tl_S n)) f (nI (tl_S (n - 1) + i)) (nI (tl_S n + i)) 0 0 (fun _ => 0) (fun _ => 0) (fun _ => 0) (fun _ => 0) (tb_L (tl_S n + i)) (tb_F (tl_S n + i)) (tb_G (tl_S n + i)) (tb_Z (tl_S n + i)) (tb_R (tl_S n + i)) (tb_N 12) (tb_T (n)) (fun _ => 0) (fun _ => 0)) (fun _ _ => True) (tb_C (n - 1)) () trivial ?_ ?_
  · intro f _ _
    exact br_t (nI_le (by omega) (by omega)) h
  · intro f i _ hi _ K
    refine br_f (nI_ge (by omega) (by omega)) ?_
    refine xi_one hn h2 hi ?_
    exact nm_r (nI_1 _) (K () trivial)
theorem xi_two {post : SX → Prop} {n k i j : Nat} (hn : n < 8) (hk1 : 1 ≤ k) (hk : k + 1 < n) (hi : i < tb_C k) (hj : j < tb_C (n - 1 - k)) (h : post (nI (tb_B n k + i * tb_C (n - 1 - k) + j + 1), 0, 0, fun _ => 0, fun _ => 0, fun _ => 0, fun _ => 0, tb_L (tb_B n k + i * tb_C (n - 1 - k) + j + 1), tb_F (tb_B n k + i * tb_C (n - 1 - k) + j + 1), tb_G (tb_B n k + i * tb_C (n - 1 - k) + j + 1), tb_Z (tb_B n k + i * tb_C (n - 1 - k) + j + 1), tb_R (tb_B n k + i * tb_C (n - 1 - k) + j + 1), tb_N 12, tb_T (n), fun _ => 0, fun _ => 0)) :
    wpX_addTwo post (nI (tb_B n k + i * tb_C (n - 1 - k) + j), 0, 0, fun _ => 0, fun _ => 0, fun _ => 0, fun _ => 0, tb_L (tb_B n k + i * tb_C (n - 1 - k) + j), tb_F (tb_B n k + i * tb_C (n - 1 - k) + j), tb_G (tb_B n k + i * tb_C (n - 1 - k) + j), tb_Z (tb_B n k + i * tb_C (n - 1 - k) + j), tb_R (tb_B n k + i * tb_C (n - 1 - k) + j), tb_N 12, tb_T (n), fun _ => 0, fun _ => 0) (nI (tl_S k + i)) (nI (tl_S (n - 1 - k) + j)) := by
  obtain ⟨a1, a2⟩ := tb_t1 n hn k (by omega) hk1 hk i hi j hj
  obtain ⟨a3, a4⟩ := tb_t2 n hn k (by omega) hk1 hk i hi j hj
  obtain ⟨a5, a6⟩ := tb_t3 n hn k (by omega) hk1 hk i hi j hj
  obtain ⟨a7, a8⟩ := tb_t4 n hn k (by omega) hk1 hk i hi j hj
  have z1 := tb_k1 k (by omega) hk1 i hi
  have z2 := tb_k1 (n - 1 - k) (by omega) (by omega) j hj
  have sI := tb_sI1 n hn k (by omega)
  generalize tb_B n k + i * tb_C (n - 1 - k) + j = T at *
  have e1 : tb_Z T (tl_S k + i) = nI k := by
    have : tb_Z T (tl_S k + i) = nI (tb_z (tl_S k + i)) := tb_lo a7
    rw [this, z1]
  have e2 : tb_Z T (tl_S (n - 1 - k) + j) = nI (n - 1 - k) := by
    have : tb_Z T (tl_S (n - 1 - k) + j) = nI (tb_z (tl_S (n - 1 - k) + j)) := tb_lo a8
    rw [this, z2]
  have r1 : tb_R T (tl_S k + i) = nI (tb_r (tl_S k + i)) := tb_lo a7
  have r2 : tb_R T (tl_S (n - 1 - k) + j) = nI (tb_r (tl_S (n - 1 - k) + j)) := tb_lo a8
  have n1 : tb_N 12 (n - 1) = nI (tb_C (n - 1)) := by
    have : tb_N 12 (n - 1) = tb_D (n - 1) := tb_lo (by omega)
    rw [this]; unfold tb_D; rw [tb_n1 (n - 1) (by omega)]
  have n2 : tb_N 12 (n - 1 - k) = nI (tb_C (n - 1 - k)) := by
    have : tb_N 12 (n - 1 - k) = tb_D (n - 1 - k) := tb_lo (by omega)
    rw [this]; unfold tb_D; rw [tb_n1 (n - 1 - k) (by omega)]
  refine xm_two (by omega) a7 a8 e1 e2 hk1 (by omega) (by omega) ?_
  rw [show 1 + k + (n - 1 - k) = n by omega, show k + (n - 1 - k) = n - 1 by omega, n1, n2, r1, r2, sI, pk_mul, nI_add, nI_add, nI_add, ← a6]
  have b0 : upd (tb_L T) T 3 = tb_L (T + 1) := tb_up (by rw [a2]; rfl)
  have b1 : upd (tb_F T) T (nI (tl_S k + i)) = tb_F (T + 1) := tb_up (by rw [a3])
  have b2 : upd (tb_G T) T (nI (tl_S (n - 1 - k) + j)) = tb_G (T + 1) := tb_up (by rw [a4])
  have b3 : upd (tb_Z T) T (nI n) = tb_Z (T + 1) := tb_up (by rw [a5])
  have b4 : upd (tb_R T) T (nI (tb_r T)) = tb_R (T + 1) := tb_up rfl
  rw [b0, b1, b2, b3, b4]
  exact h
theorem xi_listTwo {post : SX → Prop} {n k : Nat} (hn : n < 8) (hk1 : 1 ≤ k) (hk : k + 1 < n) (h : post (nI (tb_B n (k + 1)), 0, 0, fun _ => 0, fun _ => 0, fun _ => 0, fun _ => 0, tb_L (tb_B n (k + 1)), tb_F (tb_B n (k + 1)), tb_G (tb_B n (k + 1)), tb_Z (tb_B n (k + 1)), tb_R (tb_B n (k + 1)), tb_N 12, tb_T (n), fun _ => 0, fun _ => 0)) : wpX_listTwoTrees post (nI (tb_B n k), 0, 0, fun _ => 0, fun _ => 0, fun _ => 0, fun _ => 0, tb_L (tb_B n k), tb_F (tb_B n k), tb_G (tb_B n k), tb_Z (tb_B n k), tb_R (tb_B n k), tb_N 12, tb_T (n), fun _ => 0, fun _ => 0) (nI k) (nI (n - 1 - k)) := by
  have s1 := tb_pos (n := k) (by omega) hk1
  have s2 := (tb_s1 k (by omega) hk1).2
  have u1 := tb_pos (n := n - 1 - k) (by omega) (by omega)
  have u2 := (tb_s1 (n - 1 - k) (by omega) (by omega)).2
  rw [tb_b2 n hn k (by omega) hk1 hk] at h
  refine ⟨pk_in (k + 1) 9 (by omega) (nI_1 k), nm_r (e' := nI (tl_S (k + 1))) (by rw [pk_cl _ (nI_1 k), tb_Tj (by omega)]) ⟨pk_in (n - 1 - k + 1) 9 (by omega) (nI_1 _), nm_r (e' := nI (tl_S (n - 1 - k + 1))) (by rw [pk_cl _ (nI_1 _), tb_Tj (by omega)]) ⟨vp_in_nI (by omega) (by decide), nm_r (e' := nI (tl_S k)) (by rw [nI_clamp (by omega), tb_Tj (by omega)]) ?_⟩⟩⟩
  refine loop_0 (fun f i (T : Nat) => wX_listTwoTrees_27 post (nI (n - 1 - k)) (nI (tl_S (k + 1))) (nI (tl_S (n - 1 - k + 1))) f (nI (tl_S k + i)) (nI (T)) 0 0 (fun _ => 0) (fun _ => 0) (fun _ => 0) (fun _ => 0) (tb_L (T)) (tb_F (T)) (tb_G (T)) (tb_Z (T)) (tb_R (T)) (tb_N 12) (tb_T (n)) (fun _ => 0) (fun _ => 0)) (fun i T => T = tb_B n k + i * tb_C (n - 1 - k)) (tb_C k) (tb_B n k) (by rw [Nat.zero_mul]; rfl) ?_ ?_
  · intro f T e
    subst e
    exact br_t (nI_le (by omega) (by omega)) h
  · intro f i T hi e K
    subst e
    refine br_f (nI_ge (by omega) (by omega)) ⟨vp_in_nI (by omega) (by decide), nm_r (e' := nI (tl_S (n - 1 - k))) (by rw [nI_clamp (by omega), tb_Tj (by omega)]) ?_⟩
    refine loop_0 (fun f' j (_ : Unit) => wX_listTwoTrees_41 post (wX_listTwoTrees_27 post (nI (n - 1 - k)) (nI (tl_S (k + 1))) (nI (tl_S (n - 1 - k + 1))) f) (nI (n - 1 - k)) (nI (tl_S (k + 1))) (nI (tl_S (n - 1 - k + 1))) (nI (tl_S k + i)) f' (nI (tl_S (n - 1 - k) + j)) (nI (tb_B n k + i * tb_C (n - 1 - k) + j)) 0 0 (fun _ => 0) (fun _ => 0) (fun _ => 0) (fun _ => 0) (tb_L (tb_B n k + i * tb_C (n - 1 - k) + j)) (tb_F (tb_B n k + i * tb_C (n - 1 - k) + j)) (tb_G (tb_B n k + i * tb_C (n - 1 - k) + j)) (tb_Z (tb_B n k + i * tb_C (n - 1 - k) + j)) (tb_R (tb_B n k + i * tb_C (n - 1 - k) + j)) (tb_N 12) (tb_T (n)) (fun _ => 0) (fun _ => 0)) (fun _ _ => True) (tb_C (n - 1 - k)) () trivial ?_ ?_
    · intro f' _ _
      refine br_t (nI_le (by omega) (by omega)) (nm_r (nI_1 _) (K _ ?_))
      rw [Nat.succ_mul, Nat.add_assoc]
    · intro f' j _ hj _ K2
      refine br_f (nI_ge (by omega) (by omega)) ?_
      refine xi_two hn hk1 hk hi hj ?_
      exact nm_r (nI_1 _) (K2 () trivial)
/-- sizes from n on -/
theorem xi_37 {post : SX → Prop} (h : post (nI (570), 0, 0, fun _ => 0, fun _ => 0, fun _ => 0, fun _ => 0, tb_L (570), tb_F (570), tb_G (570), tb_Z (570), tb_R (570), tb_N 12, tb_T (8), fun _ => 0, fun _ => 0)) : ∀ f n, n + f = 8 → 2 ≤ n → wX_listTrees_37 post (f + 1) (nI n) (nI (tl_S n)) 0 0 (fun _ => 0) (fun _ => 0) (fun _ => 0) (fun _ => 0) (tb_L (tl_S n)) (tb_F (tl_S n)) (tb_G (tl_S n)) (tb_Z (tl_S n)) (tb_R (tl_S n)) (tb_N 12) (tb_T (n)) (fun _ => 0) (fun _ => 0) := by
  intro f
  induction f with
  | zero =>
    intro n e _
    have e8 : n = 8 := by omega
    subst e8
    exact br_t (by decide) h
  | succ f ih =>
    intro n e h2
    have e1 : nI n - 1 = nI (n - 1) := pk_sub (b := 1) (by omega)
    refine br_f (nI_nlt (a := 7) (by omega) (by decide)) ?_
    refine xi_listOne (by omega) h2 ?_
    rw [← (tb_b1 n (by omega) h2).1]
    dsimp only
    refine loop_0 (fun f' i (_ : Unit) => wX_listTrees_50 post (wX_listTrees_37 post (f + 1)) (nI n) f' (nI (i + 1)) (nI (tb_B n (i + 1))) 0 0 (fun _ => 0) (fun _ => 0) (fun _ => 0) (fun _ => 0) (tb_L (tb_B n (i + 1))) (tb_F (tb_B n (i + 1))) (tb_G (tb_B n (i + 1))) (tb_Z (tb_B n (i + 1))) (tb_R (tb_B n (i + 1))) (tb_N 12) (tb_T (n)) (fun _ => 0) (fun _ => 0)) (fun _ _ => True) (n - 2) () trivial ?_ ?_
    · intro f' _ _
      have s2 := (tb_b1 n (by omega) h2).2
      refine br_t (by rw [e1]; exact nI_le (by omega) (by omega)) ⟨pk_in (n + 1) 9 (by omega) (nI_1 n), nm_r (e' := tb_T (n + 1)) ?_ (nm_r (nI_1 n) ?_)⟩
      · rw [pk_cl _ (nI_1 n)]
        exact tb_up (by rw [← s2]; exact congrArg (fun x => nI (tb_B n x)) (by omega))
      · rw [show n - 2 + 1 = n - 1 by omega, s2]
        exact ih (n + 1) (by omega) (by omega)
    · intro f' i _ hi _ K
      have e2 : nI n - 1 - nI (i + 1) = nI (n - 1 - (i + 1)) := by rw [e1, pk_sub (by omega)]
      refine br_f (by rw [e1]; exact nI_ge (by omega) (by omega)) ?_
      rw [e2]
      refine xi_listTwo (by omega) (by omega) (by omega) ?_
      exact nm_r (nI_1 _) (K () trivial)
theorem xi_list {post : SX → Prop} (h : post (nI (570), 0, 0, fun _ => 0, fun _ => 0, fun _ => 0, fun _ => 0, tb_L (570), tb_F (570), tb_G (570), tb_Z (570), tb_R (570), tb_N 12, tb_T (8), fun _ => 0, fun _ => 0)) : wpX_listTrees post (0, 0, 0, fun _ => 0, fun _ => 0, fun _ => 0, fun _ => 0, fun _ => 0, fun _ => 0, fun _ => 0, fun _ => 0, fun _ => 0, tb_N 12, fun _ => 0, fun _ => 0, fun _ => 0) := by
  have e0 : upd (fun _ => 0) 1 0 = tb_T 1 := by
    funext j
    by_cases e : j = 1
    · subst e; exact pk_us
    · rw [pk_un e]
      unfold tb_T tb_cut
      by_cases h : j < 1 + 1
      · rw [if_pos h]
        have : j = 0 := by omega
        subst this; rfl
      · rw [if_neg h]
  refine nm_r e0 ?_
  refine loop_0 (fun f i (_ : Unit) => wX_listTrees_9 post f (nI i) (nI (i)) 0 0 (fun _ => 0) (fun _ => 0) (fun _ => 0) (fun _ => 0) (tb_L (i)) (tb_F (i)) (tb_G (i)) (tb_Z (i)) (tb_R (i)) (tb_N 12) (tb_T (1)) (fun _ => 0) (fun _ => 0)) (fun _ _ => True) 2 () trivial ?_ ?_
  · intro f _ _
    refine br_t (by decide) (nm_r (e' := tb_T 2) (tb_up rfl) ⟨7, ?_⟩)
    exact xi_37 h 6 2 (by decide) (by decide)
  · intro f i _ hi _ K
    obtain ⟨a1, a2, a3⟩ := tb_p5 i hi
    obtain ⟨a4, a5⟩ := tb_p6 i hi
    refine br_f (nI_ge (b := 2) hi (by decide)) ?_
    unfold wpX_addLeaf
    dsimp only
    refine xi_add (by omega) (by rw [a1]) (by rw [a2]; rfl) (by rw [a3]; rfl) (by rw [a4]; rfl) (by rw [a5]) ?_
    exact nm_r (nI_1 i) (K () trivial)
theorem xi_init {post : SX → Prop} (h : post (nI (570), 0, 0, fun _ => 0, fun _ => 0, fun _ => 0, fun _ => 0, tb_L (570), tb_F (570), tb_G (570), tb_Z (570), tb_R (570), tb_N 12, tb_T (8), fun _ => 0, fun _ => 0)) : wpX_init post := by
  unfold wpX_init
  have e0 : upd (fun _ => 0) 1 2 = tb_N 2 := by
    funext j
    by_cases e : j = 1
    · subst e; exact pk_us
    · rw [pk_un e]
      unfold tb_N tb_cut
      by_cases h : j < 2
      · rw [if_pos h]
        have : j = 0 := by omega
        subst this; rfl
      · rw [if_neg h]
  refine nm_r e0 ?_
  refine loop_0 (fun f i (_ : Unit) => wX_countTreesOfSizes_9 _ 0 0 0 f (nI (i + 2)) (fun _ => 0) (fun _ => 0) (fun _ => 0) (fun _ => 0) (fun _ => 0) (fun _ => 0) (fun _ => 0) (fun _ => 0) (fun _ => 0) (tb_N (i + 2)) (fun _ => 0) (fun _ => 0) (fun _ => 0)) (fun _ _ => True) 10 () trivial ?_ ?_
  · intro f _ _
    exact br_t (by decide) (xi_list h)
  · intro f i _ hi _ K
    have e1 : nI (i + 2) - 1 = nI (i + 1) := nI_pred (i + 1)
    refine br_f (nI_ge (b := 12) (by omega) (by decide)) ⟨pk_in (i + 1) 12 (by omega) e1, ?_⟩
    rw [e1]
    refine xm_twb (by omega) (by omega) (by omega) ?_
    refine ⟨vp_in_nI (by omega) (by decide), nm_r (e' := tb_N (i + 2 + 1)) ?_ (nm_r (nI_1 (i + 2)) (K () trivial))⟩
    rw [nI_clamp (by omega), nI_clamp (by omega)]
    exact tb_up (tb_D1 (i + 2) (by omega) (by omega))
end
end
section
section
/-- the reference adds tree T of the list -/
theorem yi_add {post : SY → Prop} {T n : Nat} {p0 p1 p2 : Int32} (hT : T < 570) (e0 : p0 = nI (tb_l T)) (e1 : p1 = if tb_l T < 2 then -1 else nI (tb_c T)) (e2 : p2 = if tb_l T < 3 then -1 else nI (tb_d T))
    (h : post (nI (T + 1), 0, 0, 0, fun _ => 0, fun _ => 0, fun _ => 0, fun _ => 0, tb_L (T + 1), tb_P (T + 1), tb_Q (T + 1), tb_Z (T + 1), tb_T (n), tb_N 20, tb_R (0), fun _ => 0, fun _ => 0, fun _ => 0, fun _ => 0, fun _ => 0)) : wpY_add post (nI (T), 0, 0, 0, fun _ => 0, fun _ => 0, fun _ => 0, fun _ => 0, tb_L (T), tb_P (T), tb_Q (T), tb_Z (T), tb_T (n), tb_N 20, tb_R (0), fun _ => 0, fun _ => 0, fun _ => 0, fun _ => 0, fun _ => 0) p0 p1 p2 := by
  obtain ⟨q1, q2, q3⟩ := tb_p1 T hT
  obtain ⟨q4, q5⟩ := tb_p2 T hT
  obtain ⟨q6, _⟩ := tb_p3 T hT
  have hin : vp_in (nI T) 600 := vp_in_nI (by omega) (by decide)
  have hcl : (nI T).toNatClampNeg = T := nI_clamp (by omega)
  have b0 : upd (tb_L T) T p0 = tb_L (T + 1) := tb_up e0
  have b1 : upd (tb_P T) T p1 = tb_P (T + 1) := tb_up e1
  have b2 : upd (tb_Q T) T p2 = tb_Q (T + 1) := tb_up e2
  refine ⟨hin, nm_r (e' := tb_L (T + 1)) (by rw [hcl, b0]) ⟨hin, nm_r (e' := tb_P (T + 1)) (by rw [hcl, b1]) ⟨hin, nm_r (e' := tb_Q (T + 1)) (by rw [hcl, b2]) ?_⟩⟩⟩
  have fin : ∀ a b : Int32, a + b = nI (tb_z T) → wY_add_68 post b a (nI T) (nI T) 0 0 0 (fun _ => 0) (fun _ => 0) (fun _ => 0) (fun _ => 0) (tb_L (T + 1)) (tb_P (T + 1)) (tb_Q (T + 1)) (tb_Z T) (tb_T n) (tb_N 20) (tb_R 0) (fun _ => 0) (fun _ => 0) (fun _ => 0) (fun _ => 0) (fun _ => 0) := by
    intro a b e
    have b3 : upd (tb_Z T) T (nI (tb_z T)) = tb_Z (T + 1) := tb_up rfl
    exact ⟨hin, nm_r (e' := tb_Z (T + 1)) (by rw [hcl, e, b3]) (nm_r (nI_1 T) h)⟩
  by_cases h2 : tb_l T < 2
  · rw [if_pos h2] at e1
    rw [if_pos (by omega)] at e2
    subst e1 e2
    refine br_f (by decide) (br_f (by decide) (fin _ _ ?_))
    rw [q4 h2]; rfl
  · rw [if_neg h2] at e1
    subst e1
    have hc := q2 (by omega)
    have cc : (nI (tb_c T)).toNatClampNeg = tb_c T := nI_clamp (by omega)
    have zc : tb_Z T (tb_c T) = nI (tb_z (tb_c T)) := tb_lo hc
    refine br_t (nI_pos' (by omega)) ⟨vp_in_nI (by omega) (by decide), ?_⟩
    rw [cc, zc]
    by_cases h3 : tb_l T < 3
    · rw [if_pos h3] at e2
      subst e2
      refine br_f (by decide) (fin _ _ ?_)
      rw [q5 (by omega), Int32.add_zero]; exact nI_add 1 _
    · rw [if_neg h3] at e2
      subst e2
      have hd := q3 (by omega)
      have cd : (nI (tb_d T)).toNatClampNeg = tb_d T := nI_clamp (by omega)
      have zd : tb_Z T (tb_d T) = nI (tb_z (tb_d T)) := tb_lo hd
      refine br_t (nI_pos' (by omega)) ⟨vp_in_nI (by omega) (by decide), ?_⟩
      rw [cd, zd]
      refine fin _ _ ?_
      rw [q6 (by omega), show (1 : Int32) = nI 1 from rfl, nI_add, nI_add]
theorem yi_pairs {post : SY → Prop} {n k : Nat} (hn : n < 8) (hk1 : 1 ≤ k) (hk : k + 1 < n) (h : post (nI (tb_B n (k + 1)), 0, 0, 0, fun _ => 0, fun _ => 0, fun _ => 0, fun _ => 0, tb_L (tb_B n (k + 1)), tb_P (tb_B n (k + 1)), tb_Q (tb_B n (k + 1)), tb_Z (tb_B n (k + 1)), tb_T (n), tb_N 20, tb_R (0), fun _ => 0, fun _ => 0, fun _ => 0, fun _ => 0, fun _ => 0)) : wpY_pairs post (nI (tb_B n k), 0, 0, 0, fun _ => 0, fun _ => 0, fun _ => 0, fun _ => 0, tb_L (tb_B n k), tb_P (tb_B n k), tb_Q (tb_B n k), tb_Z (tb_B n k), tb_T (n), tb_N 20, tb_R (0), fun _ => 0, fun _ => 0, fun _ => 0, fun _ => 0, fun _ => 0) (nI k) (nI (n - 1 - k)) := by
  have s1 := tb_pos (n := k) (by omega) hk1
  have s2 := (tb_s1 k (by omega) hk1).2
  have u1 := tb_pos (n := n - 1 - k) (by omega) (by omega)
  have u2 := (tb_s1 (n - 1 - k) (by omega) (by omega)).2
  rw [tb_b2 n hn k (by omega) hk1 hk] at h
  have i1 : vp_in (nI k + 1) 9 := pk_in (k + 1) 9 (by omega) (nI_1 k)
  have i2 : vp_in (nI (n - 1 - k) + 1) 9 := pk_in (n - 1 - k + 1) 9 (by omega) (nI_1 _)
  have t1 : tb_T n (nI k + 1).toNatClampNeg = nI (tl_S (k + 1)) := by rw [pk_cl _ (nI_1 k), tb_Tj (by omega)]
  have t2 : tb_T n (nI (n - 1 - k) + 1).toNatClampNeg = nI (tl_S (n - 1 - k + 1)) := by rw [pk_cl _ (nI_1 _), tb_Tj (by omega)]
  refine ⟨vp_in_nI (by omega) (by decide), nm_r (e' := nI (tl_S k)) (by rw [nI_clamp (by omega), tb_Tj (by omega)]) ?_⟩
  refine loop_0 (fun f i (T : Nat) => wY_pairs_7 post (nI k) (nI (n - 1 - k)) f (nI (tl_S k + i)) (nI (T)) 0 0 0 (fun _ => 0) (fun _ => 0) (fun _ => 0) (fun _ => 0) (tb_L (T)) (tb_P (T)) (tb_Q (T)) (tb_Z (T)) (tb_T (n)) (tb_N 20) (tb_R (0)) (fun _ => 0) (fun _ => 0) (fun _ => 0) (fun _ => 0) (fun _ => 0)) (fun i T => T = tb_B n k + i * tb_C (n - 1 - k)) (tb_C k) (tb_B n k) (by rw [Nat.zero_mul]; rfl) ?_ ?_
  · intro f T e
    subst e
    exact ⟨i1, br_t (by rw [t1]; exact nI_le (by omega) (by omega)) h⟩
  · intro f i T hi e K
    subst e
    refine ⟨i1, br_f (by rw [t1]; exact nI_ge (by omega) (by omega)) ⟨vp_in_nI (by omega) (by decide), nm_r (e' := nI (tl_S (n - 1 - k))) (by rw [nI_clamp (by omega), tb_Tj (by omega)]) ?_⟩⟩
    refine loop_0 (fun f' j (_ : Unit) => wY_pairs_27 post (wY_pairs_7 post (nI k) (nI (n - 1 - k)) f) (nI k) (nI (n - 1 - k)) (nI (tl_S k + i)) f' (nI (tl_S (n - 1 - k) + j)) (nI (tb_B n k + i * tb_C (n - 1 - k) + j)) 0 0 0 (fun _ => 0) (fun _ => 0) (fun _ => 0) (fun _ => 0) (tb_L (tb_B n k + i * tb_C (n - 1 - k) + j)) (tb_P (tb_B n k + i * tb_C (n - 1 - k) + j)) (tb_Q (tb_B n k + i * tb_C (n - 1 - k) + j)) (tb_Z (tb_B n k + i * tb_C (n - 1 - k) + j)) (tb_T (n)) (tb_N 20) (tb_R (0)) (fun _ => 0) (fun _ => 0) (fun _ => 0) (fun _ => 0) (fun _ => 0)) (fun _ _ => True) (tb_C (n - 1 - k)) () trivial ?_ ?_
    · intro f' _ _
      refine ⟨i2, br_t (by rw [t2]; exact nI_le (by omega) (by omega)) (nm_r (nI_1 _) (K _ ?_))⟩
      rw [Nat.succ_mul, Nat.add_assoc]
    · intro f' j _ hj _ K2
      obtain ⟨a1, a2⟩ := tb_t1 n hn k (by omega) hk1 hk i hi j hj
      obtain ⟨a3, a4⟩ := tb_t2 n hn k (by omega) hk1 hk i hi j hj
      refine ⟨i2, br_f (by rw [t2]; exact nI_ge (by omega) (by omega)) ?_⟩
      refine yi_add a1 (by rw [a2]; rfl) (by rw [a2, a3, if_neg (by decide)]) (by rw [a2, a4, if_neg (by decide)]) ?_
      exact nm_r (nI_1 _) (K2 () trivial)
/-- the ranks of the list -/
theorem yi_329 {post : SY → Prop} (h : post (nI (570), 0, 0, 0, fun _ => 0, fun _ => 0, fun _ => 0, fun _ => 0, tb_L (570), tb_P (570), tb_Q (570), tb_Z (570), tb_T (8), tb_N 20, tb_R (570), fun _ => 0, fun _ => 0, fun _ => 0, fun _ => 0, fun _ => 0)) : ∃ f, wY_init_329 post (nI (570)) 0 0 0 f 0 (fun _ => 0) (fun _ => 0) (fun _ => 0) (fun _ => 0) (tb_L (570)) (tb_P (570)) (tb_Q (570)) (tb_Z (570)) (tb_T (8)) (tb_N 20) (tb_R (0)) (fun _ => 0) (fun _ => 0) (fun _ => 0) (fun _ => 0) (fun _ => 0) := by
  refine loop_0 (fun f i (_ : Unit) => wY_init_329 post (nI (570)) 0 0 0 f (nI i) (fun _ => 0) (fun _ => 0) (fun _ => 0) (fun _ => 0) (tb_L (570)) (tb_P (570)) (tb_Q (570)) (tb_Z (570)) (tb_T (8)) (tb_N 20) (tb_R (i)) (fun _ => 0) (fun _ => 0) (fun _ => 0) (fun _ => 0) (fun _ => 0)) (fun _ _ => True) 570 () trivial ?_ ?_
  · intro f _ _
    exact br_t (by decide) h
  · intro f i _ hi _ K
    obtain ⟨p1, p2, p3⟩ := tb_p4 i hi
    have hin : vp_in (nI i) 600 := vp_in_nI (by omega) (by decide)
    have hcl : (nI i).toNatClampNeg = i := nI_clamp (by omega)
    have ez : tb_Z 570 i = nI (tb_z i) := tb_lo hi
    refine br_f (nI_ge hi (by decide)) ⟨hin, ?_⟩
    rw [hcl, ez]
    refine ⟨vp_in_nI (by omega) (by decide), hin, nm_r (e' := tb_R (i + 1)) ?_ (nm_r (nI_1 i) (K () trivial))⟩
    rw [nI_clamp (by omega), tb_Tj (by omega), pk_sub p1]
    exact tb_up rfl
theorem yi_237 {post : SY → Prop} (h : post (nI (570), 0, 0, 0, fun _ => 0, fun _ => 0, fun _ => 0, fun _ => 0, tb_L (570), tb_P (570), tb_Q (570), tb_Z (570), tb_T (8), tb_N 20, tb_R (570), fun _ => 0, fun _ => 0, fun _ => 0, fun _ => 0, fun _ => 0)) : ∀ f n, n + f = 8 → 2 ≤ n → wY_init_237 post (f + 1) (nI n) (nI (tl_S n)) 0 0 0 (fun _ => 0) (fun _ => 0) (fun _ => 0) (fun _ => 0) (tb_L (tl_S n)) (tb_P (tl_S n)) (tb_Q (tl_S n)) (tb_Z (tl_S n)) (tb_T (n - 1)) (tb_N 20) (tb_R (0)) (fun _ => 0) (fun _ => 0) (fun _ => 0) (fun _ => 0) (fun _ => 0) := by
  intro f
  induction f with
  | zero =>
    intro n e _
    have e8 : n = 8 := by omega
    subst e8
    refine br_t (by decide) (nm_r (e' := tb_T 8) (tb_up rfl) ?_)
    exact yi_329 h
  | succ f ih =>
    intro n e h2
    have e1 : nI n - 1 = nI (n - 1) := pk_sub (b := 1) (by omega)
    have cn : (nI n).toNatClampNeg = n := nI_clamp (by omega)
    have inn : vp_in (nI n) 9 := vp_in_nI (by omega) (by decide)
    have s1 := tb_pos (n := n - 1) (by omega) (by omega)
    have s2 := (tb_s1 (n - 1) (by omega) (by omega)).2
    rw [show n - 1 + 1 = n by omega] at s1 s2
    have tu : upd (tb_T (n - 1)) n (nI (tl_S n)) = tb_T n := by
      obtain ⟨y, rfl⟩ : ∃ y, n = y + 1 := ⟨n - 1, by omega⟩
      exact tb_up rfl
    refine br_f (nI_nlt (a := 7) (by omega) (by decide)) ⟨inn, nm_r (e' := tb_T n) (by rw [cn, tu]) ⟨pk_in (n - 1) 9 (by omega) e1, nm_r (e' := nI (tl_S (n - 1))) (by rw [pk_cl _ e1, tb_Tj (by omega)]) ?_⟩⟩
    refine loop_0 (fun f' i (_ : Unit) => wY_init_262 post (wY_init_237 post (f + 1)) (nI n) f' (nI (tl_S (n - 1) + i)) (nI (tl_S n + i)) 0 0 0 (fun _ => 0) (fun _ => 0) (fun _ => 0) (fun _ => 0) (tb_L (tl_S n + i)) (tb_P (tl_S n + i)) (tb_Q (tl_S n + i)) (tb_Z (tl_S n + i)) (tb_T (n)) (tb_N 20) (tb_R (0)) (fun _ => 0) (fun _ => 0) (fun _ => 0) (fun _ => 0) (fun _ => 0)) (fun _ _ => True) (tb_C (n - 1)) () trivial ?_ ?_
    · intro f' _ _
      refine ⟨inn, br_t (by rw [cn, tb_Tj (Nat.le_refl n)]; exact nI_le (by omega) (by omega)) ?_⟩
      rw [← (tb_b1 n (by omega) h2).1]
      refine loop_0 (fun f' i (_ : Unit) => wY_init_287 post (wY_init_237 post (f + 1)) (nI n) f' (nI (i + 1)) (nI (tb_B n (i + 1))) 0 0 0 (fun _ => 0) (fun _ => 0) (fun _ => 0) (fun _ => 0) (tb_L (tb_B n (i + 1))) (tb_P (tb_B n (i + 1))) (tb_Q (tb_B n (i + 1))) (tb_Z (tb_B n (i + 1))) (tb_T (n)) (tb_N 20) (tb_R (0)) (fun _ => 0) (fun _ => 0) (fun _ => 0) (fun _ => 0) (fun _ => 0)) (fun _ _ => True) (n - 2) () trivial ?_ ?_
      · intro f' _ _
        have s2 := (tb_b1 n (by omega) h2).2
        refine br_t (by rw [e1]; exact nI_le (by omega) (by omega)) (nm_r (nI_1 n) ?_)
        rw [show n - 2 + 1 = n - 1 by omega, s2]
        exact ih (n + 1) (by omega) (by omega)
      · intro f' i _ hi _ K
        have e2 : nI n - 1 - nI (i + 1) = nI (n - 1 - (i + 1)) := by rw [e1, pk_sub (by omega)]
        refine br_f (by rw [e1]; exact nI_ge (by omega) (by omega)) ?_
        rw [e2]
        refine yi_pairs (by omega) (by omega) (by omega) ?_
        exact nm_r (nI_1 _) (K () trivial)
    · intro f' i _ hi _ K
      obtain ⟨o1, o2, o3⟩ := tb_o1 n (by omega) h2 i hi
      obtain ⟨o4, o5, o6⟩ := tb_o2 n (by omega) h2 i hi
      refine ⟨inn, br_f (by rw [cn, tb_Tj (Nat.le_refl n)]; exact nI_ge (by omega) (by omega)) ?_⟩
      refine yi_add o1 (by rw [o2]; rfl) (by rw [o2, o3, if_neg (by decide)]) (by rw [o2, if_pos (by decide)]) ?_
      exact nm_r (nI_1 _) (K () trivial)
theorem tb_uu {a : Nat → Int32} {n : Nat} {x y : Int32} : upd (upd a n x) n y = upd a n y := by
  funext j
  by_cases e : j = n
  · subst e; rw [pk_us, pk_us]
  · rw [pk_un e, pk_un e, pk_un e]
theorem yi_init {post : SY → Prop} (h : post (nI (570), 0, 0, 0, fun _ => 0, fun _ => 0, fun _ => 0, fun _ => 0, tb_L (570), tb_P (570), tb_Q (570), tb_Z (570), tb_T (8), tb_N 20, tb_R (570), fun _ => 0, fun _ => 0, fun _ => 0, fun _ => 0, fun _ => 0)) : wpY_init post := by
  have e0 : upd (fun _ => 0) 1 2 = tb_N 2 := by
    funext j
    by_cases e : j = 1
    · subst e; exact pk_us
    · rw [pk_un e]
      unfold tb_N tb_cut
      by_cases h : j < 2
      · rw [if_pos h]
        have : j = 0 := by omega
        subst this; rfl
      · rw [if_neg h]
  refine nm_r e0 ?_
  refine loop_0 (fun f i (_ : Unit) => wY_init_147 post 0 0 0 0 f (nI (i + 2)) (fun _ => 0) (fun _ => 0) (fun _ => 0) (fun _ => 0) (fun _ => 0) (fun _ => 0) (fun _ => 0) (fun _ => 0) (fun _ => 0) (tb_N (i + 2)) (fun _ => 0) (fun _ => 0) (fun _ => 0) (fun _ => 0) (fun _ => 0) (fun _ => 0)) (fun _ _ => True) 18 () trivial ?_ ?_
  · intro f _ _
    have e1 : upd (fun _ => 0) 1 0 = tb_T 1 := by
      funext j
      by_cases e : j = 1
      · subst e; exact pk_us
      · rw [pk_un e]
        unfold tb_T tb_cut
        by_cases h : j < 1 + 1
        · rw [if_pos h]
          have : j = 0 := by omega
          subst this; rfl
        · rw [if_neg h]
    refine br_t (by decide) (nm_r e1 ?_)
    refine yi_add (T := 0) (n := 1) (by decide) (by decide +kernel) (by decide +kernel) (by decide +kernel) ?_
    refine yi_add (T := 1) (n := 1) (by decide) (by decide +kernel) (by decide +kernel) (by decide +kernel) ?_
    exact ⟨7, yi_237 h 6 2 (by decide) (by decide)⟩
  · intro f i _ hi _ K
    have e1 : nI (i + 2) - 1 = nI (i + 1) := nI_pred (i + 1)
    have cn : (nI (i + 2)).toNatClampNeg = i + 2 := nI_clamp (by omega)
    have inn : vp_in (nI (i + 2)) 20 := vp_in_nI (by omega) (by decide)
    refine br_f (nI_ge (b := 20) (by omega) (by decide)) ⟨pk_in (i + 1) 20 (by omega) e1, inn, nm_r (e' := upd (tb_N (i + 2)) (i + 2) (tb_N (i + 2) (i + 1))) (by rw [cn, pk_cl _ e1]) ?_⟩
    refine loop_0 (fun f' j (x : Int32) => wY_init_169 post (wY_init_147 post 0 0 0 0 f) (nI (i + 2)) 0 0 0 0 f' (nI (j + 1)) (fun _ => 0) (fun _ => 0) (fun _ => 0) (fun _ => 0) (fun _ => 0) (fun _ => 0) (fun _ => 0) (fun _ => 0) (fun _ => 0) (upd (tb_N (i + 2)) (i + 2) x) (fun _ => 0) (fun _ => 0) (fun _ => 0) (fun _ => 0) (fun _ => 0) (fun _ => 0)) (fun j x => x = tb_N (i + 2) (i + 1) + tl_sI (tb_N (i + 2)) (i + 2) j) i (tb_N (i + 2) (i + 1)) (Int32.add_zero _).symm ?_ ?_
    · intro f' x ex
      refine br_t (by rw [e1]; exact nI_le (by omega) (by omega)) (nm_r (nI_1 (i + 2)) ?_)
      have eu : upd (tb_N (i + 2)) (i + 2) x = tb_N (i + 2 + 1) := tb_up (by rw [ex]; exact tb_D1 (i + 2) (by omega) (by omega))
      rw [eu]
      exact K () trivial
    · intro f' j x hj ex L
      have e2 : nI (i + 2) - 1 - nI (j + 1) = nI (i + 2 - 1 - (j + 1)) := by rw [e1, pk_sub (by omega)]; exact congrArg nI (by omega)
      refine br_f (by rw [e1]; exact nI_ge (by omega) (by omega)) ⟨inn, vp_in_nI (by omega) (by decide), pk_in (i + 2 - 1 - (j + 1)) 20 (by omega) e2, inn, nm_r (e' := upd (tb_N (i + 2)) (i + 2) (tb_N (i + 2) (i + 1) + tl_sI (tb_N (i + 2)) (i + 2) (j + 1))) ?_ (nm_r (nI_1 (j + 1)) (L _ rfl))⟩
      rw [cn, pk_cl _ e2, nI_clamp (by omega), tb_uu, pk_us, pk_un (by omega), pk_un (by omega), ex, Int32.add_assoc]
      rfl
end
end
section
section
theorem i_vc0 : wpX_init (fun u => wpY_init (fun v => i_Rel 0 u v)) := by
  refine xi_init (yi_init ?_)
  refine ⟨0, 0, 0, tb_l, tb_c, tb_d, tb_z, fun _ => 0, fun _ => 0, fun _ => 0, fun _ => 0, tb_L 570, tb_F 570, tb_G 570, tb_Z 570, tb_R 570, tb_N 12, tb_T 8, fun _ => 0, fun _ => 0, tb_P 570, tb_Q 570, tb_T 8, tb_N 20, fun _ => 0, fun _ => 0, fun _ => 0, fun _ => 0, rfl, rfl, ?_, ?_, ?_, ?_⟩
  · exact ⟨fun _ => tl_s40, fun _ => tl_s40, fun _ => tl_s40⟩
  · refine ⟨fun t ht => ?_, fun t ht => ?_, fun t ht => ?_, fun t ht => ?_, fun t ht => tb_lo ht⟩
    · obtain ⟨a1, a2, a3⟩ := tb_p1 t ht
      obtain ⟨a4, a5⟩ := tb_p2 t ht
      obtain ⟨a6, a7⟩ := tb_p3 t ht
      exact ⟨a1, a2, a3, a4, a5, a6, a7⟩
    · exact ⟨tb_lo ht, fun _ => tb_lo ht, fun _ => tb_lo ht⟩
    · refine ⟨tb_lo ht, fun h => ?_, fun h => ?_⟩
      · exact (tb_lo ht).trans (if_neg (by omega))
      · exact (tb_lo ht).trans (if_neg (by omega))
    · refine ⟨fun h => ?_, fun h => ?_⟩
      · exact (tb_lo ht).trans (if_pos h)
      · exact (tb_lo ht).trans (if_pos h)
  · refine ⟨fun j hj => ?_, fun n h1 h8 => ⟨tb_Tj h8, tb_Tj h8⟩, fun n h1 h7 t a b => ?_⟩
    · have x1 : tb_N 20 j = tb_D j := tb_lo (by omega)
      have x2 : tb_N 12 j = tb_D j := tb_lo hj
      rw [x1, x2]
    · have s1 := tb_pos (n := n) (by omega) h1
      have k1 := tb_k1 n (by omega) h1 (t - tl_S n) (by omega)
      rw [show tl_S n + (t - tl_S n) = t by omega] at k1
      exact k1
  · exact ⟨Nat.le_refl 0, by decide, fun j hj => absurd hj (Nat.not_lt_zero j), Nat.le_refl 0⟩
end
end
