section
theorem tb_pos {n : Nat} (hn : n < 8) (h1 : 1 ≤ n) : tl_S (n + 1) = tl_S n + tb_C n := (tb_s1 n hn h1).1
theorem xi_add {post : SX → Prop} {T n : Nat} {p0 p1 p2 p3 p4 : Int32} (hT : T < 570) (e0 : p0 = nI (tb_l T)) (e1 : p1 = nI (tb_c T)) (e2 : p2 = nI (tb_d T)) (e3 : p3 = nI (tb_z T)) (e4 : p4 = nI (tb_r T))
    (h : post (nI (T + 1), 0, 0, fun _ => 0, fun _ => 0, fun _ => 0, fun _ => 0, tb_L (T + 1), tb_F (T + 1), tb_G (T + 1), tb_Z (T + 1), tb_R (T + 1), tb_N 12, tb_T (n), fun _ => 0, fun _ => 0)) : wpX_addTree post (nI (T), 0, 0, fun _ => 0, fun _ => 0, fun _ => 0, fun _ => 0, tb_L (T), tb_F (T), tb_G (T), tb_Z (T), tb_R (T), tb_N 12, tb_T (n), fun _ => 0, fun _ => 0) p0 p1 p2 p3 p4 := by
  refine xm_add (by omega) ?_
  have a0 : upd (tb_L T) T p0 = tb_L (T + 1) := tb_up e0
  have a1 : upd (tb_F T) T p1 = tb_F (T + 1) := tb_up e1
  have a2 : upd (tb_G T) T p2 = tb_G (T + 1) := tb_up e2
  have a3 : upd (tb_Z T) T p3 = tb_Z (T + 1) := tb_up e3
  have a4 : upd (tb_R T) T p4 = tb_R (T + 1) := tb_up e4
  rw [a0, a1, a2, a3, a4]
  exact h
theorem xi_one {post : SX → Prop} {n i : Nat} (hn : n < 8) (h2 : 2 ≤ n) (hi : i < tb_C (n - 1)) (h : post (nI (tl_S n + i + 1), 0, 0, fun _ => 0, fun _ => 0, fun _ => 0, fun _ => 0, tb_L (tl_S n + i + 1), tb_F (tl_S n + i + 1), tb_G (tl_S n + i + 1), tb_Z (tl_S n + i + 1), tb_R (tl_S n + i + 1), tb_N 12, tb_T (n), fun _ => 0, fun _ => 0)) : wpX_addOne post (nI (tl_S n + i), 0, 0, fun _ => 0, fun _ => 0, fun _ => 0, fun _ => 0, tb_L (tl_S n + i), tb_F (tl_S n + i), tb_G (tl_S n + i), tb_Z (tl_S n + i), tb_R (tl_S n + i), tb_N 12, tb_T (n), fun _ => 0, fun _ => 0) (nI (tl_S (n - 1) + i)) := by
  obtain ⟨o1, o2, o3⟩ := tb_o1 n hn h2 i hi
  obtain ⟨o4, o5, o6⟩ := tb_o2 n hn h2 i hi
  have s1 := tb_pos (n := n - 1) (by omega) (by omega)
  rw [show n - 1 + 1 = n by omega] at s1
  have k1 := tb_k1 (n - 1) (by omega) (by omega) i hi
  have hc : tl_S (n - 1) + i < tl_S n + i := by omega
  have hcl : (nI (tl_S (n - 1) + i)).toNatClampNeg = tl_S (n - 1) + i := nI_clamp (by omega)
  have it : vp_in (nI (tl_S (n - 1) + i)) 582 := vp_in_nI (by omega) (by decide)
  have ez : tb_Z (tl_S n + i) (tl_S (n - 1) + i) = nI (tb_z (tl_S (n - 1) + i)) := tb_lo hc
  have er : tb_R (tl_S n + i) (tl_S (n - 1) + i) = nI (tb_r (tl_S (n - 1) + i)) := tb_lo hc
  unfold wpX_addOne
  dsimp only
  refine ⟨it, it, ?_⟩
  refine xi_add o1 (by rw [o2]; rfl) (by rw [o3]) (by rw [o4]; rfl) ?_ ?_ h
  · rw [hcl, ez, k1, o5, show (1 : Int32) = nI 1 from rfl, nI_add]; exact congrArg nI (by omega)
  · rw [hcl, er, o6]
theorem tb_Tj {n j : Nat} (h : j ≤ n) : tb_T n j = nI (tl_S j) := tb_lo (by omega)
theorem xi_listOne {post : SX → Prop} {n : Nat} (hn : n < 8) (h2 : 2 ≤ n) (h : post (nI (tl_S n + tb_C (n - 1)), 0, 0, fun _ => 0, fun _ => 0, fun _ => 0, fun _ => 0, tb_L (tl_S n + tb_C (n - 1)), tb_F (tl_S n + tb_C (n - 1)), tb_G (tl_S n + tb_C (n - 1)), tb_Z (tl_S n + tb_C (n - 1)), tb_R (tl_S n + tb_C (n - 1)), tb_N 12, tb_T (n), fun _ => 0, fun _ => 0)) : wpX_listOneTrees post (nI (tl_S n), 0, 0, fun _ => 0, fun _ => 0, fun _ => 0, fun _ => 0, tb_L (tl_S n), tb_F (tl_S n), tb_G (tl_S n), tb_Z (tl_S n), tb_R (tl_S n), tb_N 12, tb_T (n), fun _ => 0, fun _ => 0) (nI n) := by
  have s1 := tb_pos (n := n - 1) (by omega) (by omega)
  rw [show n - 1 + 1 = n by omega] at s1
  have s2 := (tb_s1 (n - 1) (by omega) (by omega)).2
  rw [show n - 1 + 1 = n by omega] at s2
  have e1 : nI n - 1 = nI (n - 1) := pk_sub (b := 1) (by omega)
  refine ⟨vp_in_nI (by omega) (by decide), nm_r (e' := nI (tl_S n)) (by rw [nI_clamp (by omega), tb_Tj (Nat.le_refl n)]) ⟨pk_in (n - 1) 9 (by omega) e1, nm_r (e' := nI (tl_S (n - 1))) (by rw [pk_cl _ e1, tb_Tj (by omega)]) ?_⟩⟩
  refine loop_0 (fun f i (_ : Unit) => wX_listOneTrees_16 post (nI (tl_S n)) f (nI (tl_S (n - 1) + i)) (nI (tl_S n + i)) 0 0 (fun _ => 0) (fun _ => 0) (fun _ => 0) (fun _ => 0) (tb_L (tl_S n + i)) (tb_F (tl_S n + i)) (tb_G (tl_S n + i)) (tb_Z (tl_S n + i)) (tb_R (tl_S n + i)) (tb_N 12) (tb_T (n)) (fun _ => 0) (fun _ => 0)) (fun _ _ => True) (tb_C (n - 1)) () trivial ?_ ?_
  · intro f _ _
    exact br_t (nI_le (by omega) (by omega)) h
  · intro f i _ hi _ K
    refine br_f (nI_ge (by omega) (by omega)) ?_
    refine xi_one hn h2 hi ?_
    exact nm_r (nI_1 _) (K () trivial)
theorem xi_two {post : SX → Prop} {n k i j : Nat} (hn : n < 8) (hk1 : 1 ≤ k) (hk : k + 1 < n) (hi : i < tb_C k) (hj : j < tb_C (n - 1 - k)) (h : post (nI (tb_B n k + i * tb_C (n - 1 - k) + j + 1), 0, 0, fun _ => 0, fun _ => 0, fun _ => 0, fun _ => 0, tb_L (tb_B n k + i * tb_C (n - 1 - k) + j + 1), tb_F (tb_B n k + i * tb_C (n - 1 - k) + j + 1), tb_G (tb_B n k + i * tb_C (n - 1 - k) + j + 1), tb_Z (tb_B n k + i * tb_C (n - 1 - k) + j + 1), tb_R (tb_B n k + i * tb_C (n - 1 - k) + j + 1), tb_N 12, tb_T (n), fun _ => 0, fun _ => 0)) :
    wpX_addTwo post (nI (tb_B n k + i * tb_C (n - 1 - k) + j), 0, 0, fun _ => 0, fun _ => 0, fun _ => 0, fun _ => 0, tb_L (tb_B n k + i * tb_C (n - 1 - k) + j), tb_F (tb_B n k + i * tb_C (n - 1 - k) + j), tb_G (tb_B n k + i * tb_C (n - 1 - k) + j), tb_Z (tb_B n k + i * tb_C (n - 1 - k) + j), tb_R (tb_B n k + i * tb_C (n - 1 - k) + j), tb_N 12, tb_T (n), fun _ => 0, fun _ => 0) (nI (tl_S k + i)) (nI (tl_S (n - 1 - k) + j)) := by
  obtain ⟨a1, a2⟩ := tb_t1 n hn k (by omega) hk1 hk i hi j hj
  obtain ⟨a3, a4⟩ := tb_t2 n hn k (by omega) hk1 hk i hi j hj
  obtain ⟨a5, a6⟩ := tb_t3 n hn k (by omega) hk1 hk i hi j hj
  obtain ⟨a7, a8⟩ := tb_t4 n hn k (by omega) hk1 hk i hi j hj
  have z1 := tb_k1 k (by omega) hk1 i hi
  have z2 := tb_k1 (n - 1 - k) (by omega) (by omega) j hj
  have sI := tb_sI1 n hn k (by omega)
  generalize tb_B n k + i * tb_C (n - 1 - k) + j = T at *
  have e1 : tb_Z T (tl_S k + i) = nI k := by
    have : tb_Z T (tl_S k + i) = nI (tb_z (tl_S k + i)) := tb_lo a7
    rw [this, z1]
  have e2 : tb_Z T (tl_S (n - 1 - k) + j) = nI (n - 1 - k) := by
    have : tb_Z T (tl_S (n - 1 - k) + j) = nI (tb_z (tl_S (n - 1 - k) + j)) := tb_lo a8
    rw [this, z2]
  have r1 : tb_R T (tl_S k + i) = nI (tb_r (tl_S k + i)) := tb_lo a7
  have r2 : tb_R T (tl_S (n - 1 - k) + j) = nI (tb_r (tl_S (n - 1 - k) + j)) := tb_lo a8
  have n1 : tb_N 12 (n - 1) = nI (tb_C (n - 1)) := by
    have : tb_N 12 (n - 1) = tb_D (n - 1) := tb_lo (by omega)
    rw [this]; unfold tb_D; rw [tb_n1 (n - 1) (by omega)]
  have n2 : tb_N 12 (n - 1 - k) = nI (tb_C (n - 1 - k)) := by
    have : tb_N 12 (n - 1 - k) = tb_D (n - 1 - k) := tb_lo (by omega)
    rw [this]; unfold tb_D; rw [tb_n1 (n - 1 - k) (by omega)]
  refine xm_two (by omega) a7 a8 e1 e2 hk1 (by omega) (by omega) ?_
  rw [show 1 + k + (n - 1 - k) = n by omega, show k + (n - 1 - k) = n - 1 by omega, n1, n2, r1, r2, sI, pk_mul, nI_add, nI_add, nI_add, ← a6]
  have b0 : upd (tb_L T) T 3 = tb_L (T + 1) := tb_up (by rw [a2]; rfl)
  have b1 : upd (tb_F T) T (nI (tl_S k + i)) = tb_F (T + 1) := tb_up (by rw [a3])
  have b2 : upd (tb_G T) T (nI (tl_S (n - 1 - k) + j)) = tb_G (T + 1) := tb_up (by rw [a4])
  have b3 : upd (tb_Z T) T (nI n) = tb_Z (T + 1) := tb_up (by rw [a5])
  have b4 : upd (tb_R T) T (nI (tb_r T)) = tb_R (T + 1) := tb_up rfl
  rw [b0, b1, b2, b3, b4]
  exact h
theorem xi_listTwo {post : SX → Prop} {n k : Nat} (hn : n < 8) (hk1 : 1 ≤ k) (hk : k + 1 < n) (h : post (nI (tb_B n (k + 1)), 0, 0, fun _ => 0, fun _ => 0, fun _ => 0, fun _ => 0, tb_L (tb_B n (k + 1)), tb_F (tb_B n (k + 1)), tb_G (tb_B n (k + 1)), tb_Z (tb_B n (k + 1)), tb_R (tb_B n (k + 1)), tb_N 12, tb_T (n), fun _ => 0, fun _ => 0)) : wpX_listTwoTrees post (nI (tb_B n k), 0, 0, fun _ => 0, fun _ => 0, fun _ => 0, fun _ => 0, tb_L (tb_B n k), tb_F (tb_B n k), tb_G (tb_B n k), tb_Z (tb_B n k), tb_R (tb_B n k), tb_N 12, tb_T (n), fun _ => 0, fun _ => 0) (nI k) (nI (n - 1 - k)) := by
  have s1 := tb_pos (n := k) (by omega) hk1
  have s2 := (tb_s1 k (by omega) hk1).2
  have u1 := tb_pos (n := n - 1 - k) (by omega) (by omega)
  have u2 := (tb_s1 (n - 1 - k) (by omega) (by omega)).2
  rw [tb_b2 n hn k (by omega) hk1 hk] at h
  refine ⟨pk_in (k + 1) 9 (by omega) (nI_1 k), nm_r (e' := nI (tl_S (k + 1))) (by rw [pk_cl _ (nI_1 k), tb_Tj (by omega)]) ⟨pk_in (n - 1 - k + 1) 9 (by omega) (nI_1 _), nm_r (e' := nI (tl_S (n - 1 - k + 1))) (by rw [pk_cl _ (nI_1 _), tb_Tj (by omega)]) ⟨vp_in_nI (by omega) (by decide), nm_r (e' := nI (tl_S k)) (by rw [nI_clamp (by omega), tb_Tj (by omega)]) ?_⟩⟩⟩
  refine loop_0 (fun f i (T : Nat) => wX_listTwoTrees_27 post (nI (n - 1 - k)) (nI (tl_S (k + 1))) (nI (tl_S (n - 1 - k + 1))) f (nI (tl_S k + i)) (nI (T)) 0 0 (fun _ => 0) (fun _ => 0) (fun _ => 0) (fun _ => 0) (tb_L (T)) (tb_F (T)) (tb_G (T)) (tb_Z (T)) (tb_R (T)) (tb_N 12) (tb_T (n)) (fun _ => 0) (fun _ => 0)) (fun i T => T = tb_B n k + i * tb_C (n - 1 - k)) (tb_C k) (tb_B n k) (by rw [Nat.zero_mul]; rfl) ?_ ?_
  · intro f T e
    subst e
    exact br_t (nI_le (by omega) (by omega)) h
  · intro f i T hi e K
    subst e
    refine br_f (nI_ge (by omega) (by omega)) ⟨vp_in_nI (by omega) (by decide), nm_r (e' := nI (tl_S (n - 1 - k))) (by rw [nI_clamp (by omega), tb_Tj (by omega)]) ?_⟩
    refine loop_0 (fun f' j (_ : Unit) => wX_listTwoTrees_41 post (wX_listTwoTrees_27 post (nI (n - 1 - k)) (nI (tl_S (k + 1))) (nI (tl_S (n - 1 - k + 1))) f) (nI (n - 1 - k)) (nI (tl_S (k + 1))) (nI (tl_S (n - 1 - k + 1))) (nI (tl_S k + i)) f' (nI (tl_S (n - 1 - k) + j)) (nI (tb_B n k + i * tb_C (n - 1 - k) + j)) 0 0 (fun _ => 0) (fun _ => 0) (fun _ => 0) (fun _ => 0) (tb_L (tb_B n k + i * tb_C (n - 1 - k) + j)) (tb_F (tb_B n k + i * tb_C (n - 1 - k) + j)) (tb_G (tb_B n k + i * tb_C (n - 1 - k) + j)) (tb_Z (tb_B n k + i * tb_C (n - 1 - k) + j)) (tb_R (tb_B n k + i * tb_C (n - 1 - k) + j)) (tb_N 12) (tb_T (n)) (fun _ => 0) (fun _ => 0)) (fun _ _ => True) (tb_C (n - 1 - k)) () trivial ?_ ?_
    · intro f' _ _
      refine br_t (nI_le (by omega) (by omega)) (nm_r (nI_1 _) (K _ ?_))
      rw [Nat.succ_mul, Nat.add_assoc]
    · intro f' j _ hj _ K2
      refine br_f (nI_ge (by omega) (by omega)) ?_
      refine xi_two hn hk1 hk hi hj ?_
      exact nm_r (nI_1 _) (K2 () trivial)
/-- sizes from n on -/
theorem xi_37 {post : SX → Prop} (h : post (nI (570), 0, 0, fun _ => 0, fun _ => 0, fun _ => 0, fun _ => 0, tb_L (570), tb_F (570), tb_G (570), tb_Z (570), tb_R (570), tb_N 12, tb_T (8), fun _ => 0, fun _ => 0)) : ∀ f n, n + f = 8 → 2 ≤ n → wX_listTrees_37 post (f + 1) (nI n) (nI (tl_S n)) 0 0 (fun _ => 0) (fun _ => 0) (fun _ => 0) (fun _ => 0) (tb_L (tl_S n)) (tb_F (tl_S n)) (tb_G (tl_S n)) (tb_Z (tl_S n)) (tb_R (tl_S n)) (tb_N 12) (tb_T (n)) (fun _ => 0) (fun _ => 0) := by
  intro f
  induction f with
  | zero =>
    intro n e _
    have e8 : n = 8 := by omega
    subst e8
    exact br_t (by decide) h
  | succ f ih =>
    intro n e h2
    have e1 : nI n - 1 = nI (n - 1) := pk_sub (b := 1) (by omega)
    refine br_f (nI_nlt (a := 7) (by omega) (by decide)) ?_
    refine xi_listOne (by omega) h2 ?_
    rw [← (tb_b1 n (by omega) h2).1]
    dsimp only
    refine loop_0 (fun f' i (_ : Unit) => wX_listTrees_50 post (wX_listTrees_37 post (f + 1)) (nI n) f' (nI (i + 1)) (nI (tb_B n (i + 1))) 0 0 (fun _ => 0) (fun _ => 0) (fun _ => 0) (fun _ => 0) (tb_L (tb_B n (i + 1))) (tb_F (tb_B n (i + 1))) (tb_G (tb_B n (i + 1))) (tb_Z (tb_B n (i + 1))) (tb_R (tb_B n (i + 1))) (tb_N 12) (tb_T (n)) (fun _ => 0) (fun _ => 0)) (fun _ _ => True) (n - 2) () trivial ?_ ?_
    · intro f' _ _
      have s2 := (tb_b1 n (by omega) h2).2
      refine br_t (by rw [e1]; exact nI_le (by omega) (by omega)) ⟨pk_in (n + 1) 9 (by omega) (nI_1 n), nm_r (e' := tb_T (n + 1)) ?_ (nm_r (nI_1 n) ?_)⟩
      · rw [pk_cl _ (nI_1 n)]
        exact tb_up (by rw [← s2]; exact congrArg (fun x => nI (tb_B n x)) (by omega))
      · rw [show n - 2 + 1 = n - 1 by omega, s2]
        exact ih (n + 1) (by omega) (by omega)
    · intro f' i _ hi _ K
      have e2 : nI n - 1 - nI (i + 1) = nI (n - 1 - (i + 1)) := by rw [e1, pk_sub (by omega)]
      refine br_f (by rw [e1]; exact nI_ge (by omega) (by omega)) ?_
      rw [e2]
      refine xi_listTwo (by omega) (by omega) (by omega) ?_
      exact nm_r (nI_1 _) (K () trivial)
theorem xi_list {post : SX → Prop} (h : post (nI (570), 0, 0, fun _ => 0, fun _ => 0, fun _ => 0, fun _ => 0, tb_L (570), tb_F (570), tb_G (570), tb_Z (570), tb_R (570), tb_N 12, tb_T (8), fun _ => 0, fun _ => 0)) : wpX_listTrees post (0, 0, 0, fun _ => 0, fun _ => 0, fun _ => 0, fun _ => 0, fun _ => 0, fun _ => 0, fun _ => 0, fun _ => 0, fun _ => 0, tb_N 12, fun _ => 0, fun _ => 0, fun _ => 0) := by
  have e0 : upd (fun _ => 0) 1 0 = tb_T 1 := by
    funext j
    by_cases e : j = 1
    · subst e; exact pk_us
    · rw [pk_un e]
      unfold tb_T tb_cut
      by_cases h : j < 1 + 1
      · rw [if_pos h]
        have : j = 0 := by omega
        subst this; rfl
      · rw [if_neg h]
  refine nm_r e0 ?_
  refine loop_0 (fun f i (_ : Unit) => wX_listTrees_9 post f (nI i) (nI (i)) 0 0 (fun _ => 0) (fun _ => 0) (fun _ => 0) (fun _ => 0) (tb_L (i)) (tb_F (i)) (tb_G (i)) (tb_Z (i)) (tb_R (i)) (tb_N 12) (tb_T (1)) (fun _ => 0) (fun _ => 0)) (fun _ _ => True) 2 () trivial ?_ ?_
  · intro f _ _
    refine br_t (by decide) (nm_r (e' := tb_T 2) (tb_up rfl) ⟨7, ?_⟩)
    exact xi_37 h 6 2 (by decide) (by decide)
  · intro f i _ hi _ K
    obtain ⟨a1, a2, a3⟩ := tb_p5 i hi
    obtain ⟨a4, a5⟩ := tb_p6 i hi
    refine br_f (nI_ge (b := 2) hi (by decide)) ?_
    unfold wpX_addLeaf
    dsimp only
    refine xi_add (by omega) (by rw [a1]) (by rw [a2]; rfl) (by rw [a3]; rfl) (by rw [a4]; rfl) (by rw [a5]) ?_
    exact nm_r (nI_1 i) (K () trivial)
theorem xi_init {post : SX → Prop} (h : post (nI (570), 0, 0, fun _ => 0, fun _ => 0, fun _ => 0, fun _ => 0, tb_L (570), tb_F (570), tb_G (570), tb_Z (570), tb_R (570), tb_N 12, tb_T (8), fun _ => 0, fun _ => 0)) : wpX_init post := by
  unfold wpX_init
  have e0 : upd (fun _ => 0) 1 2 = tb_N 2 := by
    funext j
    by_cases e : j = 1
    · subst e; exact pk_us
    · rw [pk_un e]
      unfold tb_N tb_cut
      by_cases h : j < 2
      · rw [if_pos h]
        have : j = 0 := by omega
        subst this; rfl
      · rw [if_neg h]
  refine nm_r e0 ?_
  refine loop_0 (fun f i (_ : Unit) => wX_countTreesOfSizes_9 _ 0 0 0 f (nI (i + 2)) (fun _ => 0) (fun _ => 0) (fun _ => 0) (fun _ => 0) (fun _ => 0) (fun _ => 0) (fun _ => 0) (fun _ => 0) (fun _ => 0) (tb_N (i + 2)) (fun _ => 0) (fun _ => 0) (fun _ => 0)) (fun _ _ => True) 10 () trivial ?_ ?_
  · intro f _ _
    exact br_t (by decide) (xi_list h)
  · intro f i _ hi _ K
    have e1 : nI (i + 2) - 1 = nI (i + 1) := nI_pred (i + 1)
    refine br_f (nI_ge (b := 12) (by omega) (by decide)) ⟨pk_in (i + 1) 12 (by omega) e1, ?_⟩
    rw [e1]
    refine xm_twb (by omega) (by omega) (by omega) ?_
    refine ⟨vp_in_nI (by omega) (by decide), nm_r (e' := tb_N (i + 2 + 1)) ?_ (nm_r (nI_1 (i + 2)) (K () trivial))⟩
    rw [nI_clamp (by omega), nI_clamp (by omega)]
    exact tb_up (tb_D1 (i + 2) (by omega) (by omega))
end
