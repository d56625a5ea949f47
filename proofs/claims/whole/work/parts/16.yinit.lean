section
/-- the reference adds tree T of the list -/
theorem yi_add {post : SY → Prop} {T n : Nat} {p0 p1 p2 : Int32} (hT : T < 570) (e0 : p0 = nI (tb_l T)) (e1 : p1 = if tb_l T < 2 then -1 else nI (tb_c T)) (e2 : p2 = if tb_l T < 3 then -1 else nI (tb_d T))
    (h : post (nI (T + 1), 0, 0, 0, fun _ => 0, fun _ => 0, fun _ => 0, fun _ => 0, tb_L (T + 1), tb_P (T + 1), tb_Q (T + 1), tb_Z (T + 1), tb_T (n), tb_N 20, tb_R (0), fun _ => 0, fun _ => 0, fun _ => 0, fun _ => 0, fun _ => 0)) : wpY_add post (nI (T), 0, 0, 0, fun _ => 0, fun _ => 0, fun _ => 0, fun _ => 0, tb_L (T), tb_P (T), tb_Q (T), tb_Z (T), tb_T (n), tb_N 20, tb_R (0), fun _ => 0, fun _ => 0, fun _ => 0, fun _ => 0, fun _ => 0) p0 p1 p2 := by
  obtain ⟨q1, q2, q3⟩ := tb_p1 T hT
  obtain ⟨q4, q5⟩ := tb_p2 T hT
  obtain ⟨q6, _⟩ := tb_p3 T hT
  have hin : vp_in (nI T) 600 := vp_in_nI (by omega) (by decide)
  have hcl : (nI T).toNatClampNeg = T := nI_clamp (by omega)
  have b0 : upd (tb_L T) T p0 = tb_L (T + 1) := tb_up e0
  have b1 : upd (tb_P T) T p1 = tb_P (T + 1) := tb_up e1
  have b2 : upd (tb_Q T) T p2 = tb_Q (T + 1) := tb_up e2
  refine ⟨hin, nm_r (e' := tb_L (T + 1)) (by rw [hcl, b0]) ⟨hin, nm_r (e' := tb_P (T + 1)) (by rw [hcl, b1]) ⟨hin, nm_r (e' := tb_Q (T + 1)) (by rw [hcl, b2]) ?_⟩⟩⟩
  have fin : ∀ a b : Int32, a + b = nI (tb_z T) → wY_add_68 post b a (nI T) (nI T) 0 0 0 (fun _ => 0) (fun _ => 0) (fun _ => 0) (fun _ => 0) (tb_L (T + 1)) (tb_P (T + 1)) (tb_Q (T + 1)) (tb_Z T) (tb_T n) (tb_N 20) (tb_R 0) (fun _ => 0) (fun _ => 0) (fun _ => 0) (fun _ => 0) (fun _ => 0) := by
    intro a b e
    have b3 : upd (tb_Z T) T (nI (tb_z T)) = tb_Z (T + 1) := tb_up rfl
    exact ⟨hin, nm_r (e' := tb_Z (T + 1)) (by rw [hcl, e, b3]) (nm_r (nI_1 T) h)⟩
  by_cases h2 : tb_l T < 2
  · rw [if_pos h2] at e1
    rw [if_pos (by omega)] at e2
    subst e1 e2
    refine br_f (by decide) (br_f (by decide) (fin _ _ ?_))
    rw [q4 h2]; rfl
  · rw [if_neg h2] at e1
    subst e1
    have hc := q2 (by omega)
    have cc : (nI (tb_c T)).toNatClampNeg = tb_c T := nI_clamp (by omega)
    have zc : tb_Z T (tb_c T) = nI (tb_z (tb_c T)) := tb_lo hc
    refine br_t (nI_pos' (by omega)) ⟨vp_in_nI (by omega) (by decide), ?_⟩
    rw [cc, zc]
    by_cases h3 : tb_l T < 3
    · rw [if_pos h3] at e2
      subst e2
      refine br_f (by decide) (fin _ _ ?_)
      rw [q5 (by omega), Int32.add_zero]; exact nI_add 1 _
    · rw [if_neg h3] at e2
      subst e2
      have hd := q3 (by omega)
      have cd : (nI (tb_d T)).toNatClampNeg = tb_d T := nI_clamp (by omega)
      have zd : tb_Z T (tb_d T) = nI (tb_z (tb_d T)) := tb_lo hd
      refine br_t (nI_pos' (by omega)) ⟨vp_in_nI (by omega) (by decide), ?_⟩
      rw [cd, zd]
      refine fin _ _ ?_
      rw [q6 (by omega), show (1 : Int32) = nI 1 from rfl, nI_add, nI_add]
theorem yi_pairs {post : SY → Prop} {n k : Nat} (hn : n < 8) (hk1 : 1 ≤ k) (hk : k + 1 < n) (h : post (nI (tb_B n (k + 1)), 0, 0, 0, fun _ => 0, fun _ => 0, fun _ => 0, fun _ => 0, tb_L (tb_B n (k + 1)), tb_P (tb_B n (k + 1)), tb_Q (tb_B n (k + 1)), tb_Z (tb_B n (k + 1)), tb_T (n), tb_N 20, tb_R (0), fun _ => 0, fun _ => 0, fun _ => 0, fun _ => 0, fun _ => 0)) : wpY_pairs post (nI (tb_B n k), 0, 0, 0, fun _ => 0, fun _ => 0, fun _ => 0, fun _ => 0, tb_L (tb_B n k), tb_P (tb_B n k), tb_Q (tb_B n k), tb_Z (tb_B n k), tb_T (n), tb_N 20, tb_R (0), fun _ => 0, fun _ => 0, fun _ => 0, fun _ => 0, fun _ => 0) (nI k) (nI (n - 1 - k)) := by
  have s1 := tb_pos (n := k) (by omega) hk1
  have s2 := (tb_s1 k (by omega) hk1).2
  have u1 := tb_pos (n := n - 1 - k) (by omega) (by omega)
  have u2 := (tb_s1 (n - 1 - k) (by omega) (by omega)).2
  rw [tb_b2 n hn k (by omega) hk1 hk] at h
  have i1 : vp_in (nI k + 1) 9 := pk_in (k + 1) 9 (by omega) (nI_1 k)
  have i2 : vp_in (nI (n - 1 - k) + 1) 9 := pk_in (n - 1 - k + 1) 9 (by omega) (nI_1 _)
  have t1 : tb_T n (nI k + 1).toNatClampNeg = nI (tl_S (k + 1)) := by rw [pk_cl _ (nI_1 k), tb_Tj (by omega)]
  have t2 : tb_T n (nI (n - 1 - k) + 1).toNatClampNeg = nI (tl_S (n - 1 - k + 1)) := by rw [pk_cl _ (nI_1 _), tb_Tj (by omega)]
  refine ⟨vp_in_nI (by omega) (by decide), nm_r (e' := nI (tl_S k)) (by rw [nI_clamp (by omega), tb_Tj (by omega)]) ?_⟩
  refine loop_0 (fun f i (T : Nat) => wY_pairs_7 post (nI k) (nI (n - 1 - k)) f (nI (tl_S k + i)) (nI (T)) 0 0 0 (fun _ => 0) (fun _ => 0) (fun _ => 0) (fun _ => 0) (tb_L (T)) (tb_P (T)) (tb_Q (T)) (tb_Z (T)) (tb_T (n)) (tb_N 20) (tb_R (0)) (fun _ => 0) (fun _ => 0) (fun _ => 0) (fun _ => 0) (fun _ => 0)) (fun i T => T = tb_B n k + i * tb_C (n - 1 - k)) (tb_C k) (tb_B n k) (by rw [Nat.zero_mul]; rfl) ?_ ?_
  · intro f T e
    subst e
    exact ⟨i1, br_t (by rw [t1]; exact nI_le (by omega) (by omega)) h⟩
  · intro f i T hi e K
    subst e
    refine ⟨i1, br_f (by rw [t1]; exact nI_ge (by omega) (by omega)) ⟨vp_in_nI (by omega) (by decide), nm_r (e' := nI (tl_S (n - 1 - k))) (by rw [nI_clamp (by omega), tb_Tj (by omega)]) ?_⟩⟩
    refine loop_0 (fun f' j (_ : Unit) => wY_pairs_27 post (wY_pairs_7 post (nI k) (nI (n - 1 - k)) f) (nI k) (nI (n - 1 - k)) (nI (tl_S k + i)) f' (nI (tl_S (n - 1 - k) + j)) (nI (tb_B n k + i * tb_C (n - 1 - k) + j)) 0 0 0 (fun _ => 0) (fun _ => 0) (fun _ => 0) (fun _ => 0) (tb_L (tb_B n k + i * tb_C (n - 1 - k) + j)) (tb_P (tb_B n k + i * tb_C (n - 1 - k) + j)) (tb_Q (tb_B n k + i * tb_C (n - 1 - k) + j)) (tb_Z (tb_B n k + i * tb_C (n - 1 - k) + j)) (tb_T (n)) (tb_N 20) (tb_R (0)) (fun _ => 0) (fun _ => 0) (fun _ => 0) (fun _ => 0) (fun _ => 0)) (fun _ _ => True) (tb_C (n - 1 - k)) () trivial ?_ ?_
    · intro f' _ _
      refine ⟨i2, br_t (by rw [t2]; exact nI_le (by omega) (by omega)) (nm_r (nI_1 _) (K _ ?_))⟩
      rw [Nat.succ_mul, Nat.add_assoc]
    · intro f' j _ hj _ K2
      obtain ⟨a1, a2⟩ := tb_t1 n hn k (by omega) hk1 hk i hi j hj
      obtain ⟨a3, a4⟩ := tb_t2 n hn k (by omega) hk1 hk i hi j hj
      refine ⟨i2, br_f (by rw [t2]; exact nI_ge (by omega) (by omega)) ?_⟩
      refine yi_add a1 (by rw [a2]; rfl) (by rw [a2, a3, if_neg (by decide)]) (by rw [a2, a4, if_neg (by decide)]) ?_
      exact nm_r (nI_1 _) (K2 () trivial)
/-- the ranks of the list -/
theorem yi_329 {post : SY → Prop} (h : post (nI (570), 0, 0, 0, fun _ => 0, fun _ => 0, fun _ => 0, fun _ => 0, tb_L (570), tb_P (570), tb_Q (570), tb_Z (570), tb_T (8), tb_N 20, tb_R (570), fun _ => 0, fun _ => 0, fun _ => 0, fun _ => 0, fun _ => 0)) : ∃ f, wY_init_329 post (nI (570)) 0 0 0 f 0 (fun _ => 0) (fun _ => 0) (fun _ => 0) (fun _ => 0) (tb_L (570)) (tb_P (570)) (tb_Q (570)) (tb_Z (570)) (tb_T (8)) (tb_N 20) (tb_R (0)) (fun _ => 0) (fun _ => 0) (fun _ => 0) (fun _ => 0) (fun _ => 0) := by
  refine loop_0 (fun f i (_ : Unit) => wY_init_329 post (nI (570)) 0 0 0 f (nI i) (fun _ => 0) (fun _ => 0) (fun _ => 0) (fun _ => 0) (tb_L (570)) (tb_P (570)) (tb_Q (570)) (tb_Z (570)) (tb_T (8)) (tb_N 20) (tb_R (i)) (fun _ => 0) (fun _ => 0) (fun _ => 0) (fun _ => 0) (fun _ => 0)) (fun _ _ => True) 570 () trivial ?_ ?_
  · intro f _ _
    exact br_t (by decide) h
  · intro f i _ hi _ K
    obtain ⟨p1, p2, p3⟩ := tb_p4 i hi
    have hin : vp_in (nI i) 600 := vp_in_nI (by omega) (by decide)
    have hcl : (nI i).toNatClampNeg = i := nI_clamp (by omega)
    have ez : tb_Z 570 i = nI (tb_z i) := tb_lo hi
    refine br_f (nI_ge hi (by decide)) ⟨hin, ?_⟩
    rw [hcl, ez]
    refine ⟨vp_in_nI (by omega) (by decide), hin, nm_r (e' := tb_R (i + 1)) ?_ (nm_r (nI_1 i) (K () trivial))⟩
    rw [nI_clamp (by omega), tb_Tj (by omega), pk_sub p1]
    exact tb_up rfl
theorem yi_237 {post : SY → Prop} (h : post (nI (570), 0, 0, 0, fun _ => 0, fun _ => 0, fun _ => 0, fun _ => 0, tb_L (570), tb_P (570), tb_Q (570), tb_Z (570), tb_T (8), tb_N 20, tb_R (570), fun _ => 0, fun _ => 0, fun _ => 0, fun _ => 0, fun _ => 0)) : ∀ f n, n + f = 8 → 2 ≤ n → wY_init_237 post (f + 1) (nI n) (nI (tl_S n)) 0 0 0 (fun _ => 0) (fun _ => 0) (fun _ => 0) (fun _ => 0) (tb_L (tl_S n)) (tb_P (tl_S n)) (tb_Q (tl_S n)) (tb_Z (tl_S n)) (tb_T (n - 1)) (tb_N 20) (tb_R (0)) (fun _ => 0) (fun _ => 0) (fun _ => 0) (fun _ => 0) (fun _ => 0) := by
  intro f
  induction f with
  | zero =>
    intro n e _
    have e8 : n = 8 := by omega
    subst e8
    refine br_t (by decide) (nm_r (e' := tb_T 8) (tb_up rfl) ?_)
    exact yi_329 h
  | succ f ih =>
    intro n e h2
    have e1 : nI n - 1 = nI (n - 1) := pk_sub (b := 1) (by omega)
    have cn : (nI n).toNatClampNeg = n := nI_clamp (by omega)
    have inn : vp_in (nI n) 9 := vp_in_nI (by omega) (by decide)
    have s1 := tb_pos (n := n - 1) (by omega) (by omega)
    have s2 := (tb_s1 (n - 1) (by omega) (by omega)).2
    rw [show n - 1 + 1 = n by omega] at s1 s2
    have tu : upd (tb_T (n - 1)) n (nI (tl_S n)) = tb_T n := by
      obtain ⟨y, rfl⟩ : ∃ y, n = y + 1 := ⟨n - 1, by omega⟩
      exact tb_up rfl
    refine br_f (nI_nlt (a := 7) (by omega) (by decide)) ⟨inn, nm_r (e' := tb_T n) (by rw [cn, tu]) ⟨pk_in (n - 1) 9 (by omega) e1, nm_r (e' := nI (tl_S (n - 1))) (by rw [pk_cl _ e1, tb_Tj (by omega)]) ?_⟩⟩
    refine loop_0 (fun f' i (_ : Unit) => wY_init_262 post (wY_init_237 post (f + 1)) (nI n) f' (nI (tl_S (n - 1) + i)) (nI (tl_S n + i)) 0 0 0 (fun _ => 0) (fun _ => 0) (fun _ => 0) (fun _ => 0) (tb_L (tl_S n + i)) (tb_P (tl_S n + i)) (tb_Q (tl_S n + i)) (tb_Z (tl_S n + i)) (tb_T (n)) (tb_N 20) (tb_R (0)) (fun _ => 0) (fun _ => 0) (fun _ => 0) (fun _ => 0) (fun _ => 0)) (fun _ _ => True) (tb_C (n - 1)) () trivial ?_ ?_
    · intro f' _ _
      refine ⟨inn, br_t (by rw [cn, tb_Tj (Nat.le_refl n)]; exact nI_le (by omega) (by omega)) ?_⟩
      rw [← (tb_b1 n (by omega) h2).1]
      refine loop_0 (fun f' i (_ : Unit) => wY_init_287 post (wY_init_237 post (f + 1)) (nI n) f' (nI (i + 1)) (nI (tb_B n (i + 1))) 0 0 0 (fun _ => 0) (fun _ => 0) (fun _ => 0) (fun _ => 0) (tb_L (tb_B n (i + 1))) (tb_P (tb_B n (i + 1))) (tb_Q (tb_B n (i + 1))) (tb_Z (tb_B n (i + 1))) (tb_T (n)) (tb_N 20) (tb_R (0)) (fun _ => 0) (fun _ => 0) (fun _ => 0) (fun _ => 0) (fun _ => 0)) (fun _ _ => True) (n - 2) () trivial ?_ ?_
      · intro f' _ _
        have s2 := (tb_b1 n (by omega) h2).2
        refine br_t (by rw [e1]; exact nI_le (by omega) (by omega)) (nm_r (nI_1 n) ?_)
        rw [show n - 2 + 1 = n - 1 by omega, s2]
        exact ih (n + 1) (by omega) (by omega)
      · intro f' i _ hi _ K
        have e2 : nI n - 1 - nI (i + 1) = nI (n - 1 - (i + 1)) := by rw [e1, pk_sub (by omega)]
        refine br_f (by rw [e1]; exact nI_ge (by omega) (by omega)) ?_
        rw [e2]
        refine yi_pairs (by omega) (by omega) (by omega) ?_
        exact nm_r (nI_1 _) (K () trivial)
    · intro f' i _ hi _ K
      obtain ⟨o1, o2, o3⟩ := tb_o1 n (by omega) h2 i hi
      obtain ⟨o4, o5, o6⟩ := tb_o2 n (by omega) h2 i hi
      refine ⟨inn, br_f (by rw [cn, tb_Tj (Nat.le_refl n)]; exact nI_ge (by omega) (by omega)) ?_⟩
      refine yi_add o1 (by rw [o2]; rfl) (by rw [o2, o3, if_neg (by decide)]) (by rw [o2, if_pos (by decide)]) ?_
      exact nm_r (nI_1 _) (K () trivial)
theorem tb_uu {a : Nat → Int32} {n : Nat} {x y : Int32} : upd (upd a n x) n y = upd a n y := by
  funext j
  by_cases e : j = n
  · subst e; rw [pk_us, pk_us]
  · rw [pk_un e, pk_un e, pk_un e]
theorem yi_init {post : SY → Prop} (h : post (nI (570), 0, 0, 0, fun _ => 0, fun _ => 0, fun _ => 0, fun _ => 0, tb_L (570), tb_P (570), tb_Q (570), tb_Z (570), tb_T (8), tb_N 20, tb_R (570), fun _ => 0, fun _ => 0, fun _ => 0, fun _ => 0, fun _ => 0)) : wpY_init post := by
  have e0 : upd (fun _ => 0) 1 2 = tb_N 2 := by
    funext j
    by_cases e : j = 1
    · subst e; exact pk_us
    · rw [pk_un e]
      unfold tb_N tb_cut
      by_cases h : j < 2
      · rw [if_pos h]
        have : j = 0 := by omega
        subst this; rfl
      · rw [if_neg h]
  refine nm_r e0 ?_
  refine loop_0 (fun f i (_ : Unit) => wY_init_147 post 0 0 0 0 f (nI (i + 2)) (fun _ => 0) (fun _ => 0) (fun _ => 0) (fun _ => 0) (fun _ => 0) (fun _ => 0) (fun _ => 0) (fun _ => 0) (fun _ => 0) (tb_N (i + 2)) (fun _ => 0) (fun _ => 0) (fun _ => 0) (fun _ => 0) (fun _ => 0) (fun _ => 0)) (fun _ _ => True) 18 () trivial ?_ ?_
  · intro f _ _
    have e1 : upd (fun _ => 0) 1 0 = tb_T 1 := by
      funext j
      by_cases e : j = 1
      · subst e; exact pk_us
      · rw [pk_un e]
        unfold tb_T tb_cut
        by_cases h : j < 1 + 1
        · rw [if_pos h]
          have : j = 0 := by omega
          subst this; rfl
        · rw [if_neg h]
    refine br_t (by decide) (nm_r e1 ?_)
    refine yi_add (T := 0) (n := 1) (by decide) (by decide +kernel) (by decide +kernel) (by decide +kernel) ?_
    refine yi_add (T := 1) (n := 1) (by decide) (by decide +kernel) (by decide +kernel) (by decide +kernel) ?_
    exact ⟨7, yi_237 h 6 2 (by decide) (by decide)⟩
  · intro f i _ hi _ K
    have e1 : nI (i + 2) - 1 = nI (i + 1) := nI_pred (i + 1)
    have cn : (nI (i + 2)).toNatClampNeg = i + 2 := nI_clamp (by omega)
    have inn : vp_in (nI (i + 2)) 20 := vp_in_nI (by omega) (by decide)
    refine br_f (nI_ge (b := 20) (by omega) (by decide)) ⟨pk_in (i + 1) 20 (by omega) e1, inn, nm_r (e' := upd (tb_N (i + 2)) (i + 2) (tb_N (i + 2) (i + 1))) (by rw [cn, pk_cl _ e1]) ?_⟩
    refine loop_0 (fun f' j (x : Int32) => wY_init_169 post (wY_init_147 post 0 0 0 0 f) (nI (i + 2)) 0 0 0 0 f' (nI (j + 1)) (fun _ => 0) (fun _ => 0) (fun _ => 0) (fun _ => 0) (fun _ => 0) (fun _ => 0) (fun _ => 0) (fun _ => 0) (fun _ => 0) (upd (tb_N (i + 2)) (i + 2) x) (fun _ => 0) (fun _ => 0) (fun _ => 0) (fun _ => 0) (fun _ => 0) (fun _ => 0)) (fun j x => x = tb_N (i + 2) (i + 1) + tl_sI (tb_N (i + 2)) (i + 2) j) i (tb_N (i + 2) (i + 1)) (Int32.add_zero _).symm ?_ ?_
    · intro f' x ex
      refine br_t (by rw [e1]; exact nI_le (by omega) (by omega)) (nm_r (nI_1 (i + 2)) ?_)
      have eu : upd (tb_N (i + 2)) (i + 2) x = tb_N (i + 2 + 1) := tb_up (by rw [ex]; exact tb_D1 (i + 2) (by omega) (by omega))
      rw [eu]
      exact K () trivial
    · intro f' j x hj ex L
      have e2 : nI (i + 2) - 1 - nI (j + 1) = nI (i + 2 - 1 - (j + 1)) := by rw [e1, pk_sub (by omega)]; exact congrArg nI (by omega)
      refine br_f (by rw [e1]; exact nI_ge (by omega) (by omega)) ⟨inn, vp_in_nI (by omega) (by decide), pk_in (i + 2 - 1 - (j + 1)) 20 (by omega) e2, inn, nm_r (e' := upd (tb_N (i + 2)) (i + 2) (tb_N (i + 2) (i + 1) + tl_sI (tb_N (i + 2)) (i + 2) (j + 1))) ?_ (nm_r (nI_1 (j + 1)) (L _ rfl))⟩
      rw [cn, pk_cl _ e2, nI_clamp (by omega), tb_uu, pk_us, pk_un (by omega), pk_un (by omega), ex, Int32.add_assoc]
      rfl
end
