section
theorem tl_S4u {a : Nat → Int32} {i b : Nat} (h : ∀ j, tl_S4 (a j)) (hb : b < 16) : ∀ j, tl_S4 (upd a i (nI b) j) := by
  intro j
  by_cases e : j = i
  · rw [e, pk_us]; exact tl_s4 hb
  · rw [pk_un e]; exact h j
theorem i_vc_leafRule {k : Nat} {u : SX} {v : SY} (I : i_Rel k u v) (hk : k + 4 ≤ 2048) (v1 : Int32) (v2 : Int32) (v3 : Int32) : wpX_leafRule (fun r u' => wpY_leafRule (fun r' v' => r' = r ∧ i_Rel (k + 4) u' v') v v1 v2 v3) u v1 v2 v3 := by
  have I0 := I
  obtain ⟨e, s, D, l, c, d, z, lS, oS, tS, fS, le, fi, se, si, ra, tz, st, ru, sk, fI, sE, bg, tO, sts, wy, mk, op, rfl, rfl, F, R, B, S⟩ := I
  unfold wpX_leafRule wpY_leafRule
  dsimp only
  by_cases h1 : ∃ j, j < 2 ∧ v1 = nI j
  · obtain ⟨m, hm, rfl⟩ := h1
    refine xg_autT hm ?_
    refine br_f (by decide) ?_
    by_cases h2 : ∃ j, j < 2 ∧ v2 = nI j
    · obtain ⟨a, ha, rfl⟩ := h2
      refine xg_leafT ha ?_
      refine br_f (by decide) ?_
      by_cases h3 : ∃ j, j < 16 ∧ v3 = nI j
      · obtain ⟨b, hb, rfl⟩ := h3
        have ex : nI m * 2 + nI a = nI (2 * m + a) := by rw [show (2 : Int32) = nI 2 from rfl, pk_mul, nI_add, Nat.mul_comm]
        have ey : 2 * nI m + nI a = nI (2 * m + a) := by rw [show (2 : Int32) = nI 2 from rfl, pk_mul, nI_add]
        have hix : vp_in (nI m * 2 + nI a) 4 := pk_in (2 * m + a) 4 (by omega) ex
        have hiy : vp_in (2 * nI m + nI a) 4 := pk_in (2 * m + a) 4 (by omega) ey
        refine xg_setT hb ?_
        refine br_f (by decide) ?_
        refine ⟨hix, nm_r (e' := lS (2 * m + a)) (by rw [pk_cl _ ex]) ⟨hix, nm_r (e' := upd lS (2 * m + a) (nI b)) (by rw [pk_cl _ ex]) ?_⟩⟩
        refine yg_badF hm ?_
        refine br_t rfl ?_
        refine tl_gtT (1) (by decide) ha ?_
        refine yg_nosetF hb ?_
        refine br_t rfl ?_
        refine ⟨hiy, nm_r (e' := lS (2 * m + a)) (by rw [pk_cl _ ey]) ⟨hiy, nm_r (e' := upd lS (2 * m + a) (nI b)) (by rw [pk_cl _ ey]) ⟨rfl, ?_⟩⟩⟩
        exact ⟨e, s, D, l, c, d, z, upd lS (2 * m + a) (nI b), oS, tS, fS, le, fi, se, si, ra, tz, st, ru, sk, fI, sE, bg, tO, sts, wy, mk, op, rfl, rfl, ⟨tl_S4u F.1 hb, F.2⟩, R, B, S⟩
      · refine xg_setF h3 ?_
        refine br_t rfl ?_
        refine yg_badF hm ?_
        refine br_t rfl ?_
        refine tl_gtT (1) (by decide) ha ?_
        refine yg_nosetT h3 ?_
        exact br_f (by decide) ⟨rfl, I0⟩
    · refine xg_leafF h2 ?_
      refine br_t rfl ?_
      refine yg_badF hm ?_
      refine br_t rfl ?_
      exact tl_gtF (1) (by decide) h2 ⟨rfl, I0⟩
  · refine xg_autF h1 ?_
    refine br_t rfl ?_
    refine yg_badT h1 ?_
    exact br_f (by decide) ⟨rfl, I0⟩
theorem i_vc_oneRule {k : Nat} {u : SX} {v : SY} (I : i_Rel k u v) (hk : k + 4 ≤ 2048) (v1 : Int32) (v2 : Int32) (v3 : Int32) : wpX_oneRule (fun r u' => wpY_oneRule (fun r' v' => r' = r ∧ i_Rel (k + 4) u' v') v v1 v2 v3) u v1 v2 v3 := by
  have I0 := I
  obtain ⟨e, s, D, l, c, d, z, lS, oS, tS, fS, le, fi, se, si, ra, tz, st, ru, sk, fI, sE, bg, tO, sts, wy, mk, op, rfl, rfl, F, R, B, S⟩ := I
  unfold wpX_oneRule wpY_oneRule
  dsimp only
  by_cases h1 : ∃ j, j < 2 ∧ v1 = nI j
  · obtain ⟨m, hm, rfl⟩ := h1
    refine xg_autT hm ?_
    refine br_f (by decide) ?_
    by_cases h2 : ∃ j, j < 4 ∧ v2 = nI j
    · obtain ⟨a, ha, rfl⟩ := h2
      refine tl_geT 4 (by decide) ha ?_
      by_cases h3 : ∃ j, j < 16 ∧ v3 = nI j
      · obtain ⟨b, hb, rfl⟩ := h3
        have ex : nI m * 4 + nI a = nI (4 * m + a) := by rw [show (4 : Int32) = nI 4 from rfl, pk_mul, nI_add, Nat.mul_comm]
        have ey : 4 * nI m + nI a = nI (4 * m + a) := by rw [show (4 : Int32) = nI 4 from rfl, pk_mul, nI_add]
        have hix : vp_in (nI m * 4 + nI a) 8 := pk_in (4 * m + a) 8 (by omega) ex
        have hiy : vp_in (4 * nI m + nI a) 8 := pk_in (4 * m + a) 8 (by omega) ey
        refine xg_setT hb ?_
        refine br_f (by decide) ?_
        refine ⟨hix, nm_r (e' := oS (4 * m + a)) (by rw [pk_cl _ ex]) ⟨hix, nm_r (e' := upd oS (4 * m + a) (nI b)) (by rw [pk_cl _ ex]) ?_⟩⟩
        refine yg_badF hm ?_
        refine br_t rfl ?_
        refine tl_gtT (3) (by decide) ha ?_
        refine yg_nosetF hb ?_
        refine br_t rfl ?_
        refine ⟨hiy, nm_r (e' := oS (4 * m + a)) (by rw [pk_cl _ ey]) ⟨hiy, nm_r (e' := upd oS (4 * m + a) (nI b)) (by rw [pk_cl _ ey]) ⟨rfl, ?_⟩⟩⟩
        exact ⟨e, s, D, l, c, d, z, lS, upd oS (4 * m + a) (nI b), tS, fS, le, fi, se, si, ra, tz, st, ru, sk, fI, sE, bg, tO, sts, wy, mk, op, rfl, rfl, ⟨F.1, tl_S4u F.2.1 hb, F.2.2⟩, R, B, S⟩
      · refine xg_setF h3 ?_
        refine br_t rfl ?_
        refine yg_badF hm ?_
        refine br_t rfl ?_
        refine tl_gtT (3) (by decide) ha ?_
        refine yg_nosetT h3 ?_
        exact br_f (by decide) ⟨rfl, I0⟩
    · refine tl_geF 4 (by decide) h2 ?_
      refine yg_badF hm ?_
      refine br_t rfl ?_
      exact tl_gtF (3) (by decide) h2 ⟨rfl, I0⟩
  · refine xg_autF h1 ?_
    refine br_t rfl ?_
    refine yg_badT h1 ?_
    exact br_f (by decide) ⟨rfl, I0⟩
theorem i_vc_twoRule {k : Nat} {u : SX} {v : SY} (I : i_Rel k u v) (hk : k + 4 ≤ 2048) (v1 : Int32) (v2 : Int32) (v3 : Int32) : wpX_twoRule (fun r u' => wpY_twoRule (fun r' v' => r' = r ∧ i_Rel (k + 4) u' v') v v1 v2 v3) u v1 v2 v3 := by
  have I0 := I
  obtain ⟨e, s, D, l, c, d, z, lS, oS, tS, fS, le, fi, se, si, ra, tz, st, ru, sk, fI, sE, bg, tO, sts, wy, mk, op, rfl, rfl, F, R, B, S⟩ := I
  unfold wpX_twoRule wpY_twoRule
  dsimp only
  by_cases h1 : ∃ j, j < 2 ∧ v1 = nI j
  · obtain ⟨m, hm, rfl⟩ := h1
    refine xg_autT hm ?_
    refine br_f (by decide) ?_
    by_cases h2 : ∃ j, j < 16 ∧ v2 = nI j
    · obtain ⟨a, ha, rfl⟩ := h2
      refine tl_geT 16 (by decide) ha ?_
      by_cases h3 : ∃ j, j < 16 ∧ v3 = nI j
      · obtain ⟨b, hb, rfl⟩ := h3
        have ex : nI m * 16 + nI a = nI (16 * m + a) := by rw [show (16 : Int32) = nI 16 from rfl, pk_mul, nI_add, Nat.mul_comm]
        have ey : 16 * nI m + nI a = nI (16 * m + a) := by rw [show (16 : Int32) = nI 16 from rfl, pk_mul, nI_add]
        have hix : vp_in (nI m * 16 + nI a) 32 := pk_in (16 * m + a) 32 (by omega) ex
        have hiy : vp_in (16 * nI m + nI a) 32 := pk_in (16 * m + a) 32 (by omega) ey
        refine xg_setT hb ?_
        refine br_f (by decide) ?_
        refine ⟨hix, nm_r (e' := tS (16 * m + a)) (by rw [pk_cl _ ex]) ⟨hix, nm_r (e' := upd tS (16 * m + a) (nI b)) (by rw [pk_cl _ ex]) ?_⟩⟩
        refine yg_badF hm ?_
        refine br_t rfl ?_
        refine tl_gtT (15) (by decide) ha ?_
        refine yg_nosetF hb ?_
        refine br_t rfl ?_
        refine ⟨hiy, nm_r (e' := tS (16 * m + a)) (by rw [pk_cl _ ey]) ⟨hiy, nm_r (e' := upd tS (16 * m + a) (nI b)) (by rw [pk_cl _ ey]) ⟨rfl, ?_⟩⟩⟩
        exact ⟨e, s, D, l, c, d, z, lS, oS, upd tS (16 * m + a) (nI b), fS, le, fi, se, si, ra, tz, st, ru, sk, fI, sE, bg, tO, sts, wy, mk, op, rfl, rfl, ⟨F.1, F.2.1, tl_S4u F.2.2 hb⟩, R, B, S⟩
      · refine xg_setF h3 ?_
        refine br_t rfl ?_
        refine yg_badF hm ?_
        refine br_t rfl ?_
        refine tl_gtT (15) (by decide) ha ?_
        refine yg_nosetT h3 ?_
        exact br_f (by decide) ⟨rfl, I0⟩
    · refine tl_geF 16 (by decide) h2 ?_
      refine yg_badF hm ?_
      refine br_t rfl ?_
      exact tl_gtF (15) (by decide) h2 ⟨rfl, I0⟩
  · refine xg_autF h1 ?_
    refine br_t rfl ?_
    refine yg_badT h1 ?_
    exact br_f (by decide) ⟨rfl, I0⟩
theorem i_vc_finals {k : Nat} {u : SX} {v : SY} (I : i_Rel k u v) (hk : k + 4 ≤ 2048) (v1 : Int32) (v2 : Int32) : wpX_finals (fun r u' => wpY_finals (fun r' v' => r' = r ∧ i_Rel (k + 4) u' v') v v1 v2) u v1 v2 := by
  have I0 := I
  obtain ⟨e, s, D, l, c, d, z, lS, oS, tS, fS, le, fi, se, si, ra, tz, st, ru, sk, fI, sE, bg, tO, sts, wy, mk, op, rfl, rfl, F, R, B, S⟩ := I
  unfold wpX_finals wpY_finals
  dsimp only
  by_cases h1 : ∃ j, j < 2 ∧ v1 = nI j
  · obtain ⟨m, hm, rfl⟩ := h1
    refine xg_autT hm ?_
    refine br_f (by decide) ?_
    by_cases h3 : ∃ j, j < 16 ∧ v2 = nI j
    · obtain ⟨b, hb, rfl⟩ := h3
      have hin : vp_in (nI m) 2 := vp_in_nI hm (by decide)
      have hcl : (nI m).toNatClampNeg = m := nI_clamp (by omega)
      refine xg_setT hb ?_
      refine br_f (by decide) ?_
      refine ⟨hin, nm_r (e' := fS m) (by rw [hcl]) ⟨hin, nm_r (e' := upd fS m (nI b)) (by rw [hcl]) ?_⟩⟩
      refine yg_badF hm ?_
      refine br_t rfl ?_
      refine yg_nosetF hb ?_
      refine br_t rfl ?_
      refine ⟨hin, nm_r (e' := fS m) (by rw [hcl]) ⟨hin, nm_r (e' := upd fS m (nI b)) (by rw [hcl]) ⟨rfl, ?_⟩⟩⟩
      exact ⟨e, s, D, l, c, d, z, lS, oS, tS, upd fS m (nI b), le, fi, se, si, ra, tz, st, ru, sk, fI, sE, bg, tO, sts, wy, mk, op, rfl, rfl, F, R, B, S⟩
    · refine xg_setF h3 ?_
      refine br_t rfl ?_
      refine yg_badF hm ?_
      refine br_t rfl ?_
      refine yg_nosetT h3 ?_
      exact br_f (by decide) ⟨rfl, I0⟩
  · refine xg_autF h1 ?_
    refine br_t rfl ?_
    refine yg_badT h1 ?_
    exact br_f (by decide) ⟨rfl, I0⟩
theorem i_vc_discard {k : Nat} {u : SX} {v : SY} (I : i_Rel k u v) (hk : k + 4 ≤ 2048) : wpX_discard (fun r u' => wpY_discard (fun r' v' => r' = r ∧ i_Rel (k + 4) u' v') v) u := by
  obtain ⟨e, s, D, l, c, d, z, lS, oS, tS, fS, le, fi, se, si, ra, tz, st, ru, sk, fI, sE, bg, tO, sts, wy, mk, op, rfl, rfl, F, R, B, S⟩ := I
  exact ⟨rfl, 0, 0, 0, l, c, d, z, lS, oS, tS, fS, le, fi, se, si, ra, tz, st, ru, sk, fI, sE, bg, tO, sts, wy, mk, op, rfl, rfl, F, tl_Trm (by omega) R, B, Nat.le_refl 0, by decide, fun j hj => absurd hj (Nat.not_lt_zero j), Nat.le_refl 0⟩
theorem tl_Dz {e s D : Nat} {l c d z : Nat → Nat} {sk : Nat → Int32} (tp : tl_TP (570 + e) l c d z) (S : tl_Sk e s D z sk) : D ≤ s := by
  refine Nat.le_trans (tl_sumGe (f := fun j => z (sk j).toNatClampNeg) D fun j hj => ?_) S.2.2.2
  obtain ⟨t, ht, et⟩ := S.2.2.1 j hj
  rw [et, nI_clamp (by have := S.1; have := S.2.1; omega)]
  exact tl_z1 tp ht
/-- the top of the stack -/
theorem tl_top {e s D : Nat} {l c d z : Nat → Nat} {sk : Nat → Int32} (tp : tl_TP (570 + e) l c d z) (S : tl_Sk e s (D + 1) z sk) : e ≤ 12 ∧ D < 12 ∧ ∃ t, t < 570 + e ∧ sk D = nI t := by
  have h1 := S.1
  have h2 := S.2.1
  have h3 := tl_Dz tp S
  exact ⟨by omega, by omega, S.2.2.1 D (by omega)⟩
theorem i_vc_size {k : Nat} {u : SX} {v : SY} (I : i_Rel k u v) (hk : k + 4 ≤ 2048) : wpX_size (fun r => wpY_size (fun r' => r' = r ∧ i_Rel (k + 4) u v) v) u := by
  have I0 := I
  obtain ⟨e, s, D, l, c, d, z, lS, oS, tS, fS, le, fi, se, si, ra, tz, st, ru, sk, fI, sE, bg, tO, sts, wy, mk, op, rfl, rfl, F, R, B, S⟩ := I
  cases D with
  | zero => exact br_t rfl (br_t rfl ⟨rfl, I0⟩)
  | succ D =>
    obtain ⟨he, hD, t, ht, et⟩ := tl_top R.1 S
    have h0 : ¬ nI (D + 1) = 0 := nI_ne0 (by omega) (by omega)
    have ep : nI (D + 1) - 1 = nI D := nI_pred D
    have hi : vp_in (nI (D + 1) - 1) 12 := pk_in D 12 hD ep
    have ek : sk (nI (D + 1) - 1).toNatClampNeg = nI t := by rw [pk_cl D ep, et]
    refine br_f h0 ⟨hi, by rw [ek]; exact vp_in_nI (by omega) (by decide), br_f h0 ⟨hi, by rw [ek]; exact vp_in_nI (by omega) (by decide), rfl, I0⟩⟩
theorem i_vc_rank {k : Nat} {u : SX} {v : SY} (I : i_Rel k u v) (hk : k + 4 ≤ 2048) : wpX_rank (fun r => wpY_rank (fun r' => r' = r ∧ i_Rel (k + 4) u v) v) u := by
  have I0 := I
  obtain ⟨e, s, D, l, c, d, z, lS, oS, tS, fS, le, fi, se, si, ra, tz, st, ru, sk, fI, sE, bg, tO, sts, wy, mk, op, rfl, rfl, F, R, B, S⟩ := I
  cases D with
  | zero => exact br_t rfl (br_t rfl ⟨rfl, I0⟩)
  | succ D =>
    obtain ⟨he, hD, t, ht, et⟩ := tl_top R.1 S
    have h0 : ¬ nI (D + 1) = 0 := nI_ne0 (by omega) (by omega)
    have ep : nI (D + 1) - 1 = nI D := nI_pred D
    have hi : vp_in (nI (D + 1) - 1) 12 := pk_in D 12 hD ep
    have ek : sk (nI (D + 1) - 1).toNatClampNeg = nI t := by rw [pk_cl D ep, et]
    refine br_f h0 ⟨hi, by rw [ek]; exact vp_in_nI (by omega) (by decide), br_f h0 ⟨hi, by rw [ek]; exact vp_in_nI (by omega) (by decide), rfl, I0⟩⟩
end
