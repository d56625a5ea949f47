section
/-- what a set gives to state q -/
def tl_bi (s : Int32) (q v : Nat) : Nat := if bt s q = true then v else 0
theorem tl_biLe (s : Int32) (q v : Nat) : tl_bi s q v ≤ v := by
  unfold tl_bi; split <;> omega
theorem tl_bi0 (s : Int32) (q : Nat) : tl_bi s q 0 = 0 := by
  unfold tl_bi; split <;> rfl
/-- runs at tree t, from the runs of its children -/
def tl_st (lS oS tS : Nat → Int32) (m : Nat) (l c d : Nat → Nat) (w : Nat → Nat → Nat) (t q : Nat) : Nat :=
  if l t = 3 then tl_sum (fun j => tl_bi (tS (16 * m + j)) q (w (c t) (j % 4) * w (d t) (j / 4))) 16
  else if l t = 2 then tl_sum (fun p => tl_bi (oS (4 * m + p)) q (w (c t) p)) 4
  else tl_bi (lS (2 * m + l t)) q 1
def tl_tab (lS oS tS : Nat → Int32) (m : Nat) (l c d : Nat → Nat) : Nat → Nat → Nat → Nat
  | 0 => fun _ _ => 0
  | T + 1 => fun t q => if t = T then tl_st lS oS tS m l c d (tl_tab lS oS tS m l c d T) T q else tl_tab lS oS tS m l c d T t q
def tl_w (lS oS tS : Nat → Int32) (m : Nat) (l c d : Nat → Nat) (t q : Nat) : Nat := tl_tab lS oS tS m l c d (t + 1) t q
/-- the trees below T: letter, children, size -/
def tl_TP (T : Nat) (l c d z : Nat → Nat) : Prop := ∀ t, t < T → l t ≤ 3 ∧ (2 ≤ l t → c t < t) ∧ (l t = 3 → d t < t) ∧ (l t < 2 → z t = 1) ∧ (l t = 2 → z t = 1 + z (c t)) ∧ (l t = 3 → z t = 1 + z (c t) + z (d t)) ∧ z t ≤ 12
variable {lS oS tS : Nat → Int32} {m : Nat} {l c d z : Nat → Nat}
theorem tl_tabE {T t q : Nat} (h : t < T) : tl_tab lS oS tS m l c d T t q = tl_w lS oS tS m l c d t q := by
  induction T with
  | zero => omega
  | succ T ih =>
    by_cases e : t = T
    · subst e; rfl
    · have e1 : tl_tab lS oS tS m l c d (T + 1) t q = tl_tab lS oS tS m l c d T t q := if_neg e
      rw [e1, ih (by omega)]
theorem tl_wE {T t q : Nat} (tp : tl_TP T l c d z) (h : t < T) : tl_w lS oS tS m l c d t q = tl_st lS oS tS m l c d (tl_w lS oS tS m l c d) t q := by
  obtain ⟨h3, hc, hd, _⟩ := tp t h
  have e1 : tl_w lS oS tS m l c d t q = tl_st lS oS tS m l c d (tl_tab lS oS tS m l c d t) t q := if_pos rfl
  rw [e1]
  unfold tl_st
  by_cases e3 : l t = 3
  · rw [if_pos e3, if_pos e3]
    exact tl_sumE _ fun j _ => by
      rw [tl_tabE (hc (by omega)), tl_tabE (hd e3)]
  · rw [if_neg e3, if_neg e3]
    by_cases e2 : l t = 2
    · rw [if_pos e2, if_pos e2]
      exact tl_sumE _ fun j _ => by
        rw [tl_tabE (hc (by omega))]
    · rw [if_neg e2, if_neg e2]
theorem tl_w3 {T t q : Nat} (tp : tl_TP T l c d z) (h : t < T) (e : l t = 3) : tl_w lS oS tS m l c d t q = tl_sum (fun j => tl_bi (tS (16 * m + j)) q (tl_w lS oS tS m l c d (c t) (j % 4) * tl_w lS oS tS m l c d (d t) (j / 4))) 16 := by
  rw [tl_wE tp h]; exact if_pos e
theorem tl_w2 {T t q : Nat} (tp : tl_TP T l c d z) (h : t < T) (e : l t = 2) : tl_w lS oS tS m l c d t q = tl_sum (fun p => tl_bi (oS (4 * m + p)) q (tl_w lS oS tS m l c d (c t) p)) 4 := by
  rw [tl_wE tp h]; exact (if_neg (by omega)).trans (if_pos e)
theorem tl_w1 {T t q : Nat} (tp : tl_TP T l c d z) (h : t < T) (e : l t < 2) : tl_w lS oS tS m l c d t q = tl_bi (lS (2 * m + l t)) q 1 := by
  rw [tl_wE tp h]; exact (if_neg (by omega)).trans (if_neg (by omega))
theorem tl_sumMono {f g : Nat → Nat} : ∀ n, (∀ j, j < n → f j ≤ g j) → tl_sum f n ≤ tl_sum g n
  | 0, _ => Nat.le_refl 0
  | n + 1, h => by
    show tl_sum f n + f n ≤ tl_sum g n + g n
    have := tl_sumMono n (fun j hj => h j (by omega))
    have := h n (by omega)
    omega
theorem tl_sum4 (f : Nat → Nat) : tl_sum f 4 = f 0 + f 1 + f 2 + f 3 := by
  show 0 + f 0 + f 1 + f 2 + f 3 = _; omega
theorem tl_mul16 (a0 a1 a2 a3 b0 b1 b2 b3 : Nat) : a0 * b0 + a1 * b0 + a2 * b0 + a3 * b0 + a0 * b1 + a1 * b1 + a2 * b1 + a3 * b1 + a0 * b2 + a1 * b2 + a2 * b2 + a3 * b2 + a0 * b3 + a1 * b3 + a2 * b3 + a3 * b3 = (a0 + a1 + a2 + a3) * (b0 + b1 + b2 + b3) := by
  simp only [Nat.add_mul, Nat.mul_add]; omega
theorem tl_sum16 (f : Nat → Nat) : tl_sum f 16 = f 0 + f 1 + f 2 + f 3 + f 4 + f 5 + f 6 + f 7 + f 8 + f 9 + f 10 + f 11 + f 12 + f 13 + f 14 + f 15 := by
  show 0 + f 0 + f 1 + f 2 + f 3 + f 4 + f 5 + f 6 + f 7 + f 8 + f 9 + f 10 + f 11 + f 12 + f 13 + f 14 + f 15 = _; omega
/-- the pairs, the first child's state first (the reference's order) -/
theorem tl_sum44 (f : Nat → Nat) : tl_sum (fun p => tl_sum (fun q => f (p + 4 * q)) 4) 4 = tl_sum f 16 := by
  rw [tl_sum16, tl_sum4, tl_sum4, tl_sum4, tl_sum4, tl_sum4]
  show (f 0 + f 4 + f 8 + f 12) + (f 1 + f 5 + f 9 + f 13) + (f 2 + f 6 + f 10 + f 14) + (f 3 + f 7 + f 11 + f 15) = _
  omega
theorem tl_4up {a : Nat → Nat} {S : Nat} (h : ∀ q, q < 4 → a q ≤ S) : tl_sum a 4 ≤ 4 * S := by
  rw [tl_sum4]
  have := h 0 (by omega); have := h 1 (by omega); have := h 2 (by omega); have := h 3 (by omega)
  omega
/-- no tree has more runs than 4 to the power of its size -/
theorem tl_wB {T : Nat} (tp : tl_TP T l c d z) : ∀ t, t < T → tl_sum (tl_w lS oS tS m l c d t) 4 ≤ 4 ^ z t := by
  intro t
  induction t using Nat.strongRecOn with
  | ind t ih =>
    intro h
    obtain ⟨h3, hc, hd, z1, z2, z3, _⟩ := tp t h
    by_cases e3 : l t = 3
    · have ic := ih (c t) (hc (by omega)) (by have := hc (by omega); omega)
      have id := ih (d t) (hd e3) (by have := hd e3; omega)
      rw [z3 e3, Nat.pow_add, Nat.pow_add]
      refine Nat.le_trans (tl_4up (S := tl_sum (tl_w lS oS tS m l c d (c t)) 4 * tl_sum (tl_w lS oS tS m l c d (d t)) 4) ?_) ?_
      · intro q _
        rw [tl_w3 tp h e3]
        refine Nat.le_trans (tl_sumMono (g := fun j => tl_w lS oS tS m l c d (c t) (j % 4) * tl_w lS oS tS m l c d (d t) (j / 4)) 16 fun j _ => tl_biLe _ _ _) ?_
        rw [tl_sum16, tl_sum4, tl_sum4, ← tl_mul16]
        exact Nat.le_refl _
      · rw [show (4 : Nat) ^ 1 = 4 from rfl, Nat.mul_assoc]
        exact Nat.mul_le_mul_left 4 (Nat.mul_le_mul ic id)
    · by_cases e2 : l t = 2
      · have ic := ih (c t) (hc (by omega)) (by have := hc (by omega); omega)
        rw [z2 e2, Nat.pow_add]
        refine Nat.le_trans (tl_4up (S := tl_sum (tl_w lS oS tS m l c d (c t)) 4) ?_) ?_
        · intro q _
          rw [tl_w2 tp h e2]
          exact tl_sumMono 4 fun j _ => tl_biLe _ _ _
        · rw [show (4 : Nat) ^ 1 = 4 from rfl]
          exact Nat.mul_le_mul_left 4 ic
      · rw [z1 (by omega)]
        refine Nat.le_trans (tl_4up (S := 1) ?_) (by decide)
        intro q _
        rw [tl_w1 tp h (by omega)]
        exact tl_biLe _ _ _
theorem tl_wB2 {T : Nat} (tp : tl_TP T l c d z) (t : Nat) (h : t < T) : tl_sum (tl_w lS oS tS m l c d t) 4 < 2 ^ 31 := by
  have h1 := tl_wB (lS := lS) (oS := oS) (tS := tS) (m := m) tp t h
  have h2 : 4 ^ z t ≤ 4 ^ 12 := Nat.pow_le_pow_right (by decide) (tp t h).2.2.2.2.2.2
  have h3 : (4 : Nat) ^ 12 < 2 ^ 31 := by decide
  omega
/-- a set of states and the runs that it stands for -/
def tl_Row (s : Int32) (w : Nat → Nat) : Prop := tl_S4 s ∧ ∀ q, q < 4 → bt s q = decide (0 < w q)
def tl_kind (k : Nat) (a b : Bool) : Bool :=
  match k with
  | 0 => a
  | 1 => b
  | 2 => a && b
  | 3 => a || b
  | 4 => a && !b
  | 5 => !a && !b
  | _ => true
/-- accepted: a run ends in a final state -/
def tl_acc (f : Int32) (w : Nat → Nat) : Bool := decide (0 < tl_sum (fun q => tl_bi f q (w q)) 4)
def tl_find (K : Nat → Bool) (k : Int32) : Nat → Int32 → Nat → Option Nat
  | 0, _, _ => none
  | n + 1, b, t => if K t = true then (if b = k then some t else tl_find K k n (b + 1) (t + 1)) else tl_find K k n b (t + 1)
theorem tl_findIn {K : Nat → Bool} {k : Int32} : ∀ (n : Nat) (b : Int32) (t r : Nat), tl_find K k n b t = some r → t ≤ r ∧ r < t + n
  | 0, _, _, _, h => nomatch h
  | n + 1, b, t, r, h => by
    unfold tl_find at h
    split at h
    · split at h
      · cases h; omega
      · have := tl_findIn n _ _ _ h; omega
    · have := tl_findIn n _ _ _ h; omega
end
