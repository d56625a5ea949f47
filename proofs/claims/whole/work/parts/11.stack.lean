section
theorem tl_full {s : Nat} (h : s ≤ 12) : (s < 12 ∧ nI s < 12 ∧ ¬ nI s = 12) ∨ (s = 12) := by
  by_cases e : s = 12
  · exact Or.inr e
  · exact Or.inl ⟨by omega, nI_lt (b := 12) (by omega) (by decide), yr_ne (b := 12) e (by omega) (by decide)⟩
theorem i_vc_leaf {k : Nat} {u : SX} {v : SY} (I : i_Rel k u v) (hk : k + 4 ≤ 2048) (v1 : Int32) : wpX_leaf (fun r u' => wpY_leaf (fun r' v' => r' = r ∧ i_Rel (k + 4) u' v') v v1) u v1 := by
  have I0 := I
  obtain ⟨e, s, D, l, c, d, z, lS, oS, tS, fS, le, fi, se, si, ra, tz, st, ru, sk, fI, sE, bg, tO, sts, wy, mk, op, rfl, rfl, F, R, B, S⟩ := I
  unfold wpX_leaf wpY_leaf
  dsimp only
  by_cases h1 : ∃ j, j < 2 ∧ v1 = nI j
  · obtain ⟨a, ha, rfl⟩ := h1
    refine xg_leafT ha ?_
    refine br_f (by decide) ?_
    rcases tl_full S.2.1 with ⟨h12, hx, hy⟩ | h12
    · have h1 := S.1
      have h3 := tl_Dz R.1 S
      refine br_t hx ?_
      unfold wpX_addLeaf
      dsimp only
      refine xm_add (T := 570 + e) (by omega) ?_
      refine xm_push (by omega) ?_
      refine tl_leT 1 (by decide) ha ?_
      refine br_f hy ?_
      refine ym_leaf (by omega) (by omega) ha ?_
      refine ⟨rfl, e + 1, s + 1, D + 1, tl_uN l (570 + e) a, tl_uN c (570 + e) 0, tl_uN d (570 + e) 0, tl_uN z (570 + e) 1, lS, oS, tS, fS, upd le (570 + e) (nI a), upd fi (570 + e) 0, upd se (570 + e) 0, upd si (570 + e) (nI 1), upd ra (570 + e) (nI a), tz, st, ru, upd sk D (nI (570 + e)), upd fI (570 + e) (-1), upd sE (570 + e) (-1), bg, tO, sts, wy, mk, op, rfl, rfl, F, ?_, tl_TbX (by omega) B, ?_⟩
      · exact tl_TrX R (by omega) (fun h => by omega) (fun h => by omega) (fun _ => rfl) (fun _ => rfl) (fun _ => rfl) (fun h => by omega) (fun h => by omega) (by omega)
      · exact tl_SkX h1 h12 S.2.2.1 (by have := S.2.2.2; omega)
    · subst h12
      exact br_f (by decide) (tl_leT 1 (by decide) ha (br_t rfl ⟨rfl, I0⟩))
  · refine xg_leafF h1 ?_
    exact br_t rfl (tl_leF 1 (by decide) h1 ⟨rfl, I0⟩)
theorem i_vc_one {k : Nat} {u : SX} {v : SY} (I : i_Rel k u v) (hk : k + 4 ≤ 2048) : wpX_one (fun r u' => wpY_one (fun r' v' => r' = r ∧ i_Rel (k + 4) u' v') v) u := by
  have I0 := I
  obtain ⟨e, s, D, l, c, d, z, lS, oS, tS, fS, le, fi, se, si, ra, tz, st, ru, sk, fI, sE, bg, tO, sts, wy, mk, op, rfl, rfl, F, R, B, S⟩ := I
  unfold wpX_one wpY_one
  dsimp only
  rcases tl_full S.2.1 with ⟨h12, hx, hy⟩ | h12
  · refine br_t hx ?_
    cases D with
    | zero => exact br_f (by decide) (br_f hy (br_f (by decide) ⟨rfl, I0⟩))
    | succ D =>
      obtain ⟨he, hD, t, ht, et⟩ := tl_top R.1 S
      have h1 := S.1
      have hd : (1 : Int32) ≤ nI (D + 1) := nI_le (a := 1) (by omega) (by omega)
      have hi : vp_in (nI D) 12 := vp_in_nI hD (by decide)
      have hcD : (nI D).toNatClampNeg = D := nI_clamp (by omega)
      have ct : (nI t).toNatClampNeg = t := nI_clamp (by omega)
      have it : vp_in (nI t) 582 := vp_in_nI (by omega) (by decide)
      have ez := R.2.2.2.2 t ht
      have hz1 := tl_z1 R.1 ht
      have hsum : tl_sum (fun j => z (sk j).toNatClampNeg) D + z t ≤ s := by
        have : tl_sum (fun j => z (sk j).toNatClampNeg) D + z (sk D).toNatClampNeg ≤ s := S.2.2.2
        rw [et, ct] at this; exact this
      refine br_t hd (nm_r (nI_pred D) ⟨hi, ?_⟩)
      rw [hcD, et]
      unfold wpX_addOne
      dsimp only
      refine ⟨it, it, ?_⟩
      refine xm_add (T := 570 + e) (by omega) ?_
      refine xm_push (by omega) ?_
      refine br_f hy (br_t hd (nm_r (nI_pred D) ⟨hi, ?_⟩))
      rw [hcD, et]
      refine ym_one (by omega) hD ht ez ?_
      rw [ct, ez]
      refine ⟨rfl, e + 1, s + 1, D + 1, tl_uN l (570 + e) 2, tl_uN c (570 + e) t, tl_uN d (570 + e) 0, tl_uN z (570 + e) (1 + z t), lS, oS, tS, fS, upd le (570 + e) (nI 2), upd fi (570 + e) (nI t), upd se (570 + e) 0, upd si (570 + e) (nI (1 + z t)), upd ra (570 + e) (ra t), tz, st, ru, upd sk D (nI (570 + e)), upd fI (570 + e) (nI t), upd sE (570 + e) (-1), bg, tO, sts, wy, mk, op, ?_, rfl, F, ?_, tl_TbX (by omega) B, ?_⟩
      · rw [← nI_add 1 (z t)]; rfl
      · exact tl_TrX R (by omega) (fun _ => ⟨ht, rfl, rfl⟩) (fun h => by omega) (fun h => by omega) (fun _ => rfl) (fun h => by omega) (fun _ => rfl) (fun h => by omega) (by omega)
      · exact tl_SkX h1 h12 (fun j hj => S.2.2.1 j (by omega)) (by omega)
  · subst h12
    exact br_f (by decide) (br_t rfl ⟨rfl, I0⟩)
theorem tl_rk {a s b r : Int32} : a + s + b + r = a + b + r + s := by
  rw [Int32.add_assoc a s b, Int32.add_comm s b, ← Int32.add_assoc a b s, Int32.add_assoc (a + b) s r, Int32.add_comm s r, ← Int32.add_assoc (a + b) r s]
theorem i_vc_two {k : Nat} {u : SX} {v : SY} (I : i_Rel k u v) (hk : k + 4 ≤ 2048) : wpX_two (fun r u' => wpY_two (fun r' v' => r' = r ∧ i_Rel (k + 4) u' v') v) u := by
  have I0 := I
  obtain ⟨e, s, D, l, c, d, z, lS, oS, tS, fS, le, fi, se, si, ra, tz, st, ru, sk, fI, sE, bg, tO, sts, wy, mk, op, rfl, rfl, F, R, B, S⟩ := I
  unfold wpX_two wpY_two
  dsimp only
  rcases tl_full S.2.1 with ⟨h12, hx, hy⟩ | h12
  · refine br_t hx ?_
    rcases Nat.lt_or_ge D 2 with h2 | h2
    · have hd : ¬ (2 : Int32) ≤ nI D := nI_ge (b := 2) h2 (by decide)
      exact br_f hd (br_f hy (br_f hd ⟨rfl, I0⟩))
    · obtain ⟨D, rfl⟩ : ∃ D', D = D' + 2 := ⟨D - 2, by omega⟩
      have h1 := S.1
      have h3 := tl_Dz R.1 S
      obtain ⟨t, ht, et⟩ := S.2.2.1 D (by omega)
      obtain ⟨w, hw, ew⟩ := S.2.2.1 (D + 1) (by omega)
      have hd : (2 : Int32) ≤ nI (D + 2) := nI_le (a := 2) (by omega) (by omega)
      have ed : nI (D + 2) - 2 = nI D := pk_sub (a := D + 2) (b := 2) (by omega)
      have hi : vp_in (nI D) 12 := vp_in_nI (by omega) (by decide)
      have hcD : (nI D).toNatClampNeg = D := nI_clamp (by omega)
      have hi1 : vp_in (nI D + 1) 12 := pk_in (D + 1) 12 (by omega) (nI_1 D)
      have hc1 : (nI D + 1).toNatClampNeg = D + 1 := pk_cl (D + 1) (nI_1 D)
      have ct : (nI t).toNatClampNeg = t := nI_clamp (by omega)
      have cw : (nI w).toNatClampNeg = w := nI_clamp (by omega)
      have zt := R.2.2.2.2 t ht
      have zw := R.2.2.2.2 w hw
      have ht1 := tl_z1 R.1 ht
      have hw1 := tl_z1 R.1 hw
      have hsum : tl_sum (fun j => z (sk j).toNatClampNeg) D + z t + z w ≤ s := by
        have : tl_sum (fun j => z (sk j).toNatClampNeg) D + z (sk D).toNatClampNeg + z (sk (D + 1)).toNatClampNeg ≤ s := S.2.2.2
        rw [et, ew, ct, cw] at this; exact this
      refine br_t hd (nm_r ed ⟨hi, hi1, ?_⟩)
      rw [hcD, hc1, et, ew]
      refine xm_two (T := 570 + e) (by omega) ht hw zt zw ht1 hw1 (by omega) ?_
      refine xm_push (by omega) ?_
      refine br_f hy (br_t hd (nm_r ed ⟨hi, hi1, ?_⟩))
      rw [hcD, hc1, et, ew]
      refine ym_two (by omega) (by omega) ht hw zt zw ht1 hw1 (by omega) ?_
      have eO : tl_sI tO (1 + z t + z w) (z t - 1) = tl_sI tz (1 + z t + z w) (z t - 1) := tl_sIE _ (fun j hj => B.1 j (by omega)) (fun j hj => B.1 j (by omega)) (by omega)
      have er : ((tO (z t + z w) + ra t * tO (z w)) + ra w) + tl_sI tO (1 + z t + z w) (z t - 1) = ((tz (z t + z w) + tl_sI tz (1 + z t + z w) (z t - 1)) + ra t * tz (z w)) + ra w := by
        rw [eO, B.1 (z t + z w) (by omega), B.1 (z w) (by omega)]; exact tl_rk.symm
      rw [er]
      refine ⟨rfl, e + 1, s + 1, D + 1, tl_uN l (570 + e) 3, tl_uN c (570 + e) t, tl_uN d (570 + e) w, tl_uN z (570 + e) (1 + z t + z w), lS, oS, tS, fS, upd le (570 + e) (nI 3), upd fi (570 + e) (nI t), upd se (570 + e) (nI w), upd si (570 + e) (nI (1 + z t + z w)), upd ra (570 + e) (((tz (z t + z w) + tl_sI tz (1 + z t + z w) (z t - 1)) + ra t * tz (z w)) + ra w), tz, st, ru, upd sk D (nI (570 + e)), upd fI (570 + e) (nI t), upd sE (570 + e) (nI w), bg, tO, sts, wy, mk, op, rfl, rfl, F, ?_, tl_TbX (by omega) B, ?_⟩
      · exact tl_TrX R (by omega) (fun _ => ⟨ht, rfl, rfl⟩) (fun _ => ⟨hw, rfl, rfl⟩) (fun h => by omega) (fun h => by omega) (fun h => by omega) (fun h => by omega) (fun _ => rfl) (by omega)
      · exact tl_SkX h1 h12 (fun j hj => S.2.2.1 j (by omega)) (by omega)
  · subst h12
    exact br_f (by decide) (br_t rfl ⟨rfl, I0⟩)
end
