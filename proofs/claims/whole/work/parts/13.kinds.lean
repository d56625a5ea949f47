section
theorem tl_sum1 {f : Nat → Nat} : ∀ n, (∀ j, j < n → f j ≤ 1) → tl_sum f n ≤ n
  | 0, _ => Nat.le_refl 0
  | n + 1, h => by
    show tl_sum f n + f n ≤ n + 1
    have := tl_sum1 n (fun j hj => h j (by omega))
    have := h n (by omega)
    omega
theorem tl_Sle : ∀ n, n < 8 → tl_S n ≤ tl_S (n + 1) ∧ tl_S (n + 1) ≤ 570 := by decide
/-- is listed tree t of kind k -/
def tl_K (fS lS oS tS : Nat → Int32) (l c d : Nat → Nat) (k t : Nat) : Bool := tl_kind k (tl_acc (fS 0) (tl_w lS oS tS 0 l c d t)) (tl_acc (fS 1) (tl_w lS oS tS 1 l c d t))
/-- how many trees of size n -/
def tl_g (K : Nat → Bool) (n : Nat) : Nat := tl_sum (fun j => (K (tl_S n + j)).toNat) (tl_S (n + 1) - tl_S n)
theorem tl_gB {K : Nat → Bool} {n : Nat} (h : n < 8) : tl_g K n < 2 ^ 31 := by
  have h1 := tl_sum1 (f := fun j => (K (tl_S n + j)).toNat) (tl_S (n + 1) - tl_S n) fun j _ => Bool.toNat_le _
  have h2 := (tl_Sle n h).2
  have h3 : tl_g K n ≤ tl_S (n + 1) - tl_S n := h1
  omega
def tl_lst (g : Nat → Nat) : Nat → Nat → Int32
  | 0, _ => -4
  | f + 1, n => if g n = 0 then tl_lst g f (n + 1) else nI n
end
section
variable {xt xd xm : Int32} {lS oS tS fS le fi se si ra tz st ru sk : Nat → Int32}
variable {l c d z : Nat → Nat}
theorem xr_read {post : SX → Prop} (tp : tl_TP 570 l c d z) (ta : xr_TA 570 l c d le fi se)
    (h : ∀ ru' : Nat → Int32, (∀ k, k < 7 → xr_KX k (tl_K fS lS oS tS l c d k) (xt, xd, xm, lS, oS, tS, fS, le, fi, se, si, ra, tz, st, ru', sk)) → post (xt, xd, xm, lS, oS, tS, fS, le, fi, se, si, ra, tz, st, ru', sk)) : wpX_readListedTrees post (xt, xd, xm, lS, oS, tS, fS, le, fi, se, si, ra, tz, st, ru, sk) := by
  unfold wpX_readListedTrees
  dsimp only
  refine xr_all (m := 0) (T := 570) (by decide) (by decide) tp ta ?_
  intro r1 _ h1
  dsimp only
  refine xr_all (m := 1) (T := 570) (by decide) (by decide) tp ta ?_
  intro r2 f2 h2
  refine h r2 fun k hk t ht post hp => ?_
  refine xr_kind (tl_w lS oS tS 0 l c d t) (tl_w lS oS tS 1 l c d t) hk (by omega) (fun q hq => ?_) (fun q hq => h2 t ht q hq) (tl_wB2 tp t ht) (tl_wB2 tp t ht) hp
  rw [f2 _ (by omega)]
  exact h1 t ht q hq
theorem xr_least {post : Int32 → SX → Prop} {k : Nat} {g : Nat → Nat} (hg : ∀ n, n < 8 → g n < 2 ^ 31) (hc : ∀ n, 1 ≤ n → n ≤ 7 → ∀ q : Int32 → Prop, q (nI (g n)) → wpX_countOfKind q (xt, xd, xm, lS, oS, tS, fS, le, fi, se, si, ra, tz, st, ru, sk) (nI k) (nI n)) :
    ∀ f n, n + f = 8 → 1 ≤ n → post (tl_lst g f n) (xt, xd, xm, lS, oS, tS, fS, le, fi, se, si, ra, tz, st, ru, sk) → wX_least_16 post (nI k) xt xd xm lS oS tS fS le fi se si ra tz st ru sk (f + 1) (nI n) := by
  intro f
  induction f with
  | zero =>
    intro n e h1 h
    exact br_t (nI_lt (a := 7) (by omega) (by omega)) h
  | succ f ih =>
    intro n e h1 h
    refine br_f (nI_nlt (a := 7) (by omega) (by decide)) (hc n h1 (by omega) _ ?_)
    by_cases h0 : g n = 0
    · have e1 : tl_lst g (f + 1) n = tl_lst g f (n + 1) := if_pos h0
      rw [e1] at h
      exact br_t (by rw [h0]; decide) (nm_r (nI_1 n) (ih (n + 1) (by omega) (by omega) h))
    · have e1 : tl_lst g (f + 1) n = nI n := if_neg h0
      rw [e1] at h
      exact br_f (nI_nle (by omega) (hg n (by omega))) h
end
section
variable {yn ye ys yd : Int32} {lS oS tS fS le fI sE si bg tO ra sts wy mk sk op : Nat → Int32}
theorem yr_least {post : Int32 → SY → Prop} {k : Nat} {g : Nat → Nat} (hg : ∀ n, n < 8 → g n < 2 ^ 31) (hc : ∀ n, 1 ≤ n → n ≤ 7 → ∀ q : Int32 → Prop, q (nI (g n)) → wpY_counted q (yn, ye, ys, yd, lS, oS, tS, fS, le, fI, sE, si, bg, tO, ra, sts, wy, mk, sk, op) (nI k) (nI n)) :
    ∀ f n, n + f = 8 → 1 ≤ n → post (tl_lst g f n) (yn, ye, ys, yd, lS, oS, tS, fS, le, fI, sE, si, bg, tO, ra, sts, wy, mk, sk, op) → wY_least_16 post (nI k) yn ye ys yd lS oS tS fS le fI sE si bg tO ra sts wy mk sk op (f + 1) (nI n) := by
  intro f
  induction f with
  | zero =>
    intro n e h1 h
    exact br_t (nI_lt (a := 7) (by omega) (by omega)) h
  | succ f ih =>
    intro n e h1 h
    refine br_f (nI_nlt (a := 7) (by omega) (by decide)) (hc n h1 (by omega) _ ?_)
    by_cases h0 : g n = 0
    · have e1 : tl_lst g (f + 1) n = tl_lst g f (n + 1) := if_pos h0
      rw [e1] at h
      exact br_t (by rw [h0]; decide) (nm_r (nI_1 n) (ih (n + 1) (by omega) (by omega) h))
    · have e1 : tl_lst g (f + 1) n = nI n := if_neg h0
      rw [e1] at h
      exact br_f (nI_nle (by omega) (hg n (by omega))) h
end
section
theorem i_vc_count {k : Nat} {u : SX} {v : SY} (I : i_Rel k u v) (hk : k + 4 ≤ 2048) (v1 : Int32) (v2 : Int32) : wpX_count (fun r u' => wpY_count (fun r' v' => r' = r ∧ i_Rel (k + 4) u' v') v v1 v2) u v1 v2 := by
  have I0 := I
  obtain ⟨e, s, D, l, c, d, z, lS, oS, tS, fS, le, fi, se, si, ra, tz, st, ru, sk, fI, sE, bg, tO, sts, wy, mk, op, rfl, rfl, F, R, B, S⟩ := I
  unfold wpX_count wpY_count
  dsimp only
  by_cases h1 : ∃ j, j < 7 ∧ v1 = nI j
  · obtain ⟨a, ha, rfl⟩ := h1
    refine xg_kindT ha ?_
    refine br_f (by decide) ?_
    by_cases h2 : ∃ n, 1 ≤ n ∧ n ≤ 7 ∧ v2 = nI n
    · obtain ⟨n, h1, h7, rfl⟩ := h2
      have he : e ≤ 12 := by have := S.1; have := S.2.1; omega
      refine xg_sizeT h1 h7 ?_
      refine br_f (by decide) ?_
      refine xr_read (tl_TPm (by omega) R.1) (xr_TAm (by omega) R.2.1) ?_
      intro ru' hK
      dsimp only
      refine xr_cnt (hK a ha) (by omega) (B.2.1 n h1 (by omega)).1 (B.2.1 (n + 1) (by omega) (by omega)).1 (tl_Sle n (by omega)).1 (tl_Sle n (by omega)).2 ?_
      refine yg_nokindF ha ?_
      refine br_t rfl ?_
      refine yg_sizeT h1 h7 ?_
      refine yr_mark (T := 570 + e) (by omega) (by omega) rfl (nI_add 570 e) R.1 R.2.2.1 F.1 F.2.1 F.2.2 ?_
      intro wy' sts' mk' hM
      dsimp only
      refine yr_cnt ha hM (by omega) (B.2.1 n h1 (by omega)).2 (B.2.1 (n + 1) (by omega) (by omega)).2 (tl_Sle n (by omega)).1 (tl_Sle n (by omega)).2 ?_
      exact ⟨rfl, e, s, D, l, c, d, z, lS, oS, tS, fS, le, fi, se, si, ra, tz, st, ru', sk, fI, sE, bg, tO, sts', wy', mk', op, rfl, rfl, F, R, B, S⟩
    · refine xg_sizeF h2 ?_
      refine br_t rfl ?_
      refine yg_nokindF ha ?_
      exact br_t rfl (yg_sizeF h2 ⟨rfl, I0⟩)
  · refine xg_kindF h1 ?_
    refine br_t rfl ?_
    refine yg_nokindT h1 ?_
    exact br_f (by decide) ⟨rfl, I0⟩
theorem i_vc_least {k : Nat} {u : SX} {v : SY} (I : i_Rel k u v) (hk : k + 4 ≤ 2048) (v1 : Int32) : wpX_least (fun r u' => wpY_least (fun r' v' => r' = r ∧ i_Rel (k + 4) u' v') v v1) u v1 := by
  have I0 := I
  obtain ⟨e, s, D, l, c, d, z, lS, oS, tS, fS, le, fi, se, si, ra, tz, st, ru, sk, fI, sE, bg, tO, sts, wy, mk, op, rfl, rfl, F, R, B, S⟩ := I
  unfold wpX_least wpY_least
  dsimp only
  by_cases h1 : ∃ j, j < 7 ∧ v1 = nI j
  · obtain ⟨a, ha, rfl⟩ := h1
    have he : e ≤ 12 := by have := S.1; have := S.2.1; omega
    refine xg_kindT ha ?_
    refine br_f (by decide) ?_
    refine xr_read (tl_TPm (by omega) R.1) (xr_TAm (by omega) R.2.1) ?_
    intro ru' hK
    dsimp only
    refine ⟨8, ?_⟩
    refine xr_least (g := tl_g (tl_K fS lS oS tS l c d a)) (fun n hn => tl_gB hn) ?_ 7 1 (by decide) (by decide) ?_
    · intro n h1 h7 q hq
      exact xr_cnt (hK a ha) (by omega) (B.2.1 n h1 (by omega)).1 (B.2.1 (n + 1) (by omega) (by omega)).1 (tl_Sle n (by omega)).1 (tl_Sle n (by omega)).2 hq
    refine yg_nokindF ha ?_
    refine br_t rfl ?_
    refine yr_mark (T := 570 + e) (by omega) (by omega) rfl (nI_add 570 e) R.1 R.2.2.1 F.1 F.2.1 F.2.2 ?_
    intro wy' sts' mk' hM
    dsimp only
    refine ⟨8, ?_⟩
    refine yr_least (g := tl_g (tl_K fS lS oS tS l c d a)) (fun n hn => tl_gB hn) ?_ 7 1 (by decide) (by decide) ?_
    · intro n h1 h7 q hq
      exact yr_cnt ha hM (by omega) (B.2.1 n h1 (by omega)).2 (B.2.1 (n + 1) (by omega) (by omega)).2 (tl_Sle n (by omega)).1 (tl_Sle n (by omega)).2 hq
    exact ⟨rfl, e, s, D, l, c, d, z, lS, oS, tS, fS, le, fi, se, si, ra, tz, st, ru', sk, fI, sE, bg, tO, sts', wy', mk', op, rfl, rfl, F, R, B, S⟩
  · refine xg_kindF h1 ?_
    refine br_t rfl ?_
    refine yg_nokindT h1 ?_
    exact br_f (by decide) ⟨rfl, I0⟩
theorem i_vc_load {k : Nat} {u : SX} {v : SY} (I : i_Rel k u v) (hk : k + 4 ≤ 2048) (v1 : Int32) (v2 : Int32) (v3 : Int32) : wpX_load (fun r u' => wpY_load (fun r' v' => r' = r ∧ i_Rel (k + 4) u' v') v v1 v2 v3) u v1 v2 v3 := by
  have I0 := I
  obtain ⟨e, s, D, l, c, d, z, lS, oS, tS, fS, le, fi, se, si, ra, tz, st, ru, sk, fI, sE, bg, tO, sts, wy, mk, op, rfl, rfl, F, R, B, S⟩ := I
  unfold wpX_load wpY_load
  dsimp only
  by_cases h1 : ∃ j, j < 7 ∧ v1 = nI j
  · obtain ⟨a, ha, rfl⟩ := h1
    refine xg_kindT ha ?_
    refine br_f (by decide) ?_
    by_cases h2 : ∃ n, 1 ≤ n ∧ n ≤ 7 ∧ v2 = nI n
    · obtain ⟨n, h1, h7, rfl⟩ := h2
      have he : e ≤ 12 := by have := S.1; have := S.2.1; omega
      have hS := tl_Sle n (by omega)
      refine xg_sizeT h1 h7 ?_
      refine br_f (by decide) ?_
      refine xr_read (tl_TPm (by omega) R.1) (xr_TAm (by omega) R.2.1) ?_
      intro ru' hK
      dsimp only
      have Y : ∀ post : Int32 → SY → Prop, (∀ wy' sts' mk' : Nat → Int32, (tl_find (tl_K fS lS oS tS l c d a) v3 (tl_S (n + 1) - tl_S n) 0 (tl_S n) = none → post (-4) (nI 570, nI e, nI s, nI D, lS, oS, tS, fS, le, fI, sE, si, bg, tO, ra, sts', wy', mk', sk, op)) ∧
          (∀ t, tl_find (tl_K fS lS oS tS l c d a) v3 (tl_S (n + 1) - tl_S n) 0 (tl_S n) = some t → post 0 (nI 570, 0, nI n, 1, lS, oS, tS, fS, le, fI, sE, si, bg, tO, ra, sts', wy', mk', upd sk 0 (nI t), op))) →
          wpY_load post (nI 570, nI e, nI s, nI D, lS, oS, tS, fS, le, fI, sE, si, bg, tO, ra, sts, wy, mk, sk, op) (nI a) (nI n) v3 := by
        intro post H
        unfold wpY_load
        dsimp only
        refine yg_nokindF ha ?_
        refine br_t rfl ?_
        refine yg_sizeT h1 h7 ?_
        refine yr_mark (T := 570 + e) (by omega) (by omega) rfl (nI_add 570 e) R.1 R.2.2.1 F.1 F.2.1 F.2.2 ?_
        intro wy' sts' mk' hM
        dsimp only
        refine ⟨vp_in_nI (by omega) (by decide), nm_r (e' := nI (tl_S n)) (by rw [nI_clamp (by omega), (B.2.1 n h1 (by omega)).2]) ?_⟩
        exact yr_find ha hM (by omega) (B.2.1 (n + 1) (by omega) (by omega)).2 hS.1 hS.2 (H wy' sts' mk').1 (H wy' sts' mk').2
      unfold wpY_load at Y
      dsimp only at Y
      refine xr_find (hK a ha) (by omega) (B.2.1 n h1 (by omega)).1 (B.2.1 (n + 1) (by omega) (by omega)).1 hS.1 hS.2 ?_ ?_
      · intro hN
        refine br_t rfl ?_
        refine Y (fun r' v' => r' = -4 ∧ i_Rel (k + 4) (nI (570 + e), nI D, nI s, lS, oS, tS, fS, le, fi, se, si, ra, tz, st, ru', sk) v') fun wy' sts' mk' => ⟨fun _ => ?_, fun t ht => ?_⟩
        · exact ⟨rfl, e, s, D, l, c, d, z, lS, oS, tS, fS, le, fi, se, si, ra, tz, st, ru', sk, fI, sE, bg, tO, sts', wy', mk', op, rfl, rfl, F, R, B, S⟩
        · rw [hN] at ht; exact nomatch ht
      · intro t ht
        have hin := tl_findIn _ _ _ _ ht
        have htz : z t = n := B.2.2 n h1 h7 t hin.1 (by omega)
        have h4 : ¬ nI t = -4 := fun h => nI_pos (by omega : t < 2 ^ 31) (by rw [h]; decide)
        refine br_f h4 ?_
        unfold wpX_emptyStack
        dsimp only
        unfold wpX_pushTree
        dsimp only
        refine ⟨by rw [tl_i0]; exact vp_in_nI (by decide) (by decide), nm_r (e' := upd sk 0 (nI t)) rfl (nm_r (e' := nI 1) rfl ?_)⟩
        refine Y (fun r' v' => r' = 0 ∧ i_Rel (k + 4) (570, nI 1, nI n, lS, oS, tS, fS, le, fi, se, si, ra, tz, st, ru', upd sk 0 (nI t)) v') fun wy' sts' mk' => ⟨fun hn => ?_, fun t' ht' => ?_⟩
        · rw [ht] at hn; exact nomatch hn
        · rw [ht] at ht'
          cases ht'
          refine ⟨rfl, 0, n, 1, l, c, d, z, lS, oS, tS, fS, le, fi, se, si, ra, tz, st, ru', upd sk 0 (nI t), fI, sE, bg, tO, sts', wy', mk', op, rfl, rfl, F, tl_Trm (by omega) R, B, by omega, by omega, fun j hj => ⟨t, by omega, ?_⟩, ?_⟩
          · have : j = 0 := by omega
            subst this; exact pk_us
          · show 0 + z (upd sk 0 (nI t) 0).toNatClampNeg ≤ n
            rw [pk_us, nI_clamp (by omega), htz, Nat.zero_add]
            exact Nat.le_refl n
    · refine xg_sizeF h2 ?_
      refine br_t rfl ?_
      refine yg_nokindF ha ?_
      exact br_t rfl (yg_sizeF h2 ⟨rfl, I0⟩)
  · refine xg_kindF h1 ?_
    refine br_t rfl ?_
    refine yg_nokindT h1 ?_
    exact br_f (by decide) ⟨rfl, I0⟩
end
