section
theorem i_vc_letter {k : Nat} {u : SX} {v : SY} (I : i_Rel k u v) (hk : k + 4 ≤ 2048) (v1 : Int32) : wpX_letter (fun r => wpY_letter (fun r' v' => r' = r ∧ i_Rel (k + 4) u v') v v1) u v1 := by
  have I0 := I
  obtain ⟨e, s, D, l, c, d, z, lS, oS, tS, fS, le, fi, se, si, ra, tz, st, ru, sk, fI, sE, bg, tO, sts, wy, mk, op, rfl, rfl, F, R, B, S⟩ := I
  cases D with
  | zero => exact br_t rfl (br_t rfl ⟨rfl, I0⟩)
  | succ D =>
    obtain ⟨he, hD, t, ht, et⟩ := tl_top R.1 S
    have h0 : ¬ nI (D + 1) = 0 := nI_ne0 (by omega) (by omega)
    have ep : nI (D + 1) - 1 = nI D := nI_pred D
    have hi : vp_in (nI (D + 1) - 1) 12 := pk_in D 12 hD ep
    have ek : sk (nI (D + 1) - 1).toNatClampNeg = nI t := by rw [pk_cl D ep, et]
    have ct : (nI t).toNatClampNeg = t := nI_clamp (by omega)
    have hz12 := (R.1 t ht).2.2.2.2.2.2
    have R2 : ∀ op' : Nat → Int32, i_Rel (k + 4) (nI (570 + e), nI (D + 1), nI s, lS, oS, tS, fS, le, fi, se, si, ra, tz, st, ru, sk) (nI 570, nI e, nI s, nI (D + 1), lS, oS, tS, fS, le, fI, sE, si, bg, tO, ra, sts, wy, mk, sk, op') :=
      fun op' => ⟨e, s, D + 1, l, c, d, z, lS, oS, tS, fS, le, fi, se, si, ra, tz, st, ru, sk, fI, sE, bg, tO, sts, wy, mk, op', rfl, rfl, F, R, B, S⟩
    have Y : ∀ r : Int32, (∀ j, j < z t → v1 = nI j → le (tl_su l c d z t j) = r) → ((∀ j, j < z t → v1 ≠ nI j) → r = -4) →
        wpY_letter (fun r' v' => r' = r ∧ i_Rel (k + 4) (nI (570 + e), nI (D + 1), nI s, lS, oS, tS, fS, le, fi, se, si, ra, tz, st, ru, sk) v') (nI 570, nI e, nI s, nI (D + 1), lS, oS, tS, fS, le, fI, sE, si, bg, tO, ra, sts, wy, mk, sk, op) v1 := by
      intro r H1 H2
      refine br_f h0 ⟨hi, nm_r (e' := upd op 0 (nI t)) (by rw [ek]) ⟨1 + z t, ?_⟩⟩
      refine yr_walk (T := 570 + e) (by omega) R.1 R.2.2.1 R.2.2.2.1 t ht 0 0 1 (upd op 0 (nI t)) (by omega) (by omega) pk_us ?_ ?_
      · intro j hj ej op'
        rw [Nat.zero_add] at ej
        exact ⟨H1 j hj ej, R2 op'⟩
      · intro nj op' _
        refine br_t (by decide) ⟨?_, R2 op'⟩
        exact (H2 fun j hj ej => nj j hj (by rw [Nat.zero_add]; exact ej)).symm
    refine br_f h0 ⟨hi, nm_r ek ?_⟩
    by_cases hneg : v1 < 0
    · refine br_t hneg (Y (-4) ?_ fun _ => rfl)
      intro j hj ej
      rw [ej] at hneg
      exact absurd hneg (nI_pos (by omega))
    · obtain ⟨j, hj, rfl⟩ := nI_of hneg
      refine br_f hneg ⟨vp_in_nI (by omega) (by decide), ?_⟩
      rw [ct, R.2.2.2.2 t ht]
      rcases Nat.lt_or_ge j (z t) with hjz | hjz
      · refine br_t (nI_lt hjz (by omega)) ⟨j + 1, ?_⟩
        have hle := tl_suLe R.1 j j t (Nat.le_refl j) ht hjz
        refine xr_sub (T := 570 + e) (by omega) R.1 R.2.1 R.2.2.2.2 j j t 0 (Nat.le_refl j) (by omega) ht hjz ?_
        refine ⟨vp_in_nI (by omega) (by decide), Y _ ?_ ?_⟩
        · intro i hi2 ei
          rw [nI_eq (by omega) (by omega)] at ei
          subst ei
          rw [nI_clamp (by omega)]
        · intro nj
          exact absurd rfl (nj j hjz)
      · refine br_f (nI_nlt hjz hj) (Y (-4) ?_ fun _ => rfl)
        intro i hi2 ei
        rw [nI_eq (by omega) (by omega)] at ei
        omega
end
section
variable {yn ye ys yd : Int32} {lS oS tS fS le fI sE si bg tO ra sts wy mk sk op : Nat → Int32}
theorem yr_runs {post : Int32 → SY → Prop} {m t D : Nat} (w : Nat → Nat) (hm : m < 2) (ht : t < 600) (hD : D < 12) (et : sk D = nI t) (hw : ∀ q, q < 4 → wy (4 * t + q) = nI (w q))
    (h : post (nI (tl_sum (fun q => tl_bi (fS m) q (w q)) 4)) (yn, ye, ys, nI (D + 1), lS, oS, tS, fS, le, fI, sE, si, bg, tO, ra, sts, wy, mk, sk, op)) : ∃ n, wY_runs_29 post (nI m) yn ye ys (nI (D + 1)) lS oS tS fS le fI sE si bg tO ra sts wy mk sk op n 0 0 := by
  have ep : nI (D + 1) - 1 = nI D := nI_pred D
  have hi : vp_in (nI (D + 1) - 1) 12 := pk_in D 12 hD ep
  have ek : sk (nI (D + 1) - 1).toNatClampNeg = nI t := by rw [pk_cl D ep, et]
  have hcl : (nI m).toNatClampNeg = m := nI_clamp (by omega)
  refine loop_0 (fun n i (r : Int32) => wY_runs_29 post (nI m) yn ye ys (nI (D + 1)) lS oS tS fS le fI sE si bg tO ra sts wy mk sk op n r (nI i))
    (fun i r => r = nI (tl_sum (fun q => tl_bi (fS m) q (w q)) i)) 4 0 rfl ?_ ?_
  · intro n r I
    exact br_t (by decide) (by rw [I]; exact h)
  · intro n i r hq I K
    have hn : ¬ (4 : Int32) ≤ nI i := nI_ge (b := 4) hq (by decide)
    have e := yr_4 t i
    refine br_f hn ⟨vp_in_nI hm (by decide), ?_⟩
    rw [hcl, ek]
    by_cases hb : bt (fS m) i = true
    · refine br_t (by rw [tl_bit1 _ (by omega), hb]) ⟨hi, pk_in (4 * t + i) 2400 (by omega) e, nm_r (e' := nI (tl_sum (fun q => tl_bi (fS m) q (w q)) (i + 1))) ?_ (nm_r (nI_1 i) (K _ rfl))⟩
      rw [pk_cl _ e, hw i hq, I, nI_add]
      show _ = nI (tl_sum (fun q => tl_bi (fS m) q (w q)) i + tl_bi (fS m) i (w i))
      unfold tl_bi; rw [if_pos hb]
    · refine br_f (by rw [tl_bit1 _ (by omega)]; exact hb) (nm_r (nI_1 i) (K _ ?_))
      show r = nI (tl_sum (fun q => tl_bi (fS m) q (w q)) i + tl_bi (fS m) i (w i))
      rw [I]; unfold tl_bi; rw [if_neg hb]; rfl
end
section
theorem i_vc_states {k : Nat} {u : SX} {v : SY} (I : i_Rel k u v) (hk : k + 4 ≤ 2048) (v1 : Int32) : wpX_states (fun r u' => wpY_states (fun r' v' => r' = r ∧ i_Rel (k + 4) u' v') v v1) u v1 := by
  have I0 := I
  obtain ⟨e, s, D, l, c, d, z, lS, oS, tS, fS, le, fi, se, si, ra, tz, st, ru, sk, fI, sE, bg, tO, sts, wy, mk, op, rfl, rfl, F, R, B, S⟩ := I
  unfold wpX_states wpY_states
  dsimp only
  by_cases h1 : ∃ j, j < 2 ∧ v1 = nI j
  · obtain ⟨m, hm, rfl⟩ := h1
    refine xg_autT hm ?_
    refine br_f (by decide) ?_
    cases D with
    | zero =>
      refine br_t rfl ?_
      refine yg_badF hm ?_
      exact br_t rfl (br_t rfl ⟨rfl, I0⟩)
    | succ D =>
      obtain ⟨he, hD, t, ht, et⟩ := tl_top R.1 S
      have h0 : ¬ nI (D + 1) = 0 := nI_ne0 (by omega) (by omega)
      have ep : nI (D + 1) - 1 = nI D := nI_pred D
      have hi : vp_in (nI (D + 1) - 1) 12 := pk_in D 12 hD ep
      have ek : sk (nI (D + 1) - 1).toNatClampNeg = nI t := by rw [pk_cl D ep, et]
      have ct : (nI t).toNatClampNeg = t := nI_clamp (by omega)
      have hb := tl_wB2 (lS := lS) (oS := oS) (tS := tS) (m := m) R.1 t ht
      refine br_f h0 ?_
      refine xr_all (T := 570 + e) hm (by omega) R.1 R.2.1 ?_
      intro ru' _ hru
      refine ⟨hi, ?_⟩
      dsimp only
      rw [ek]
      refine xr_sot (tl_w lS oS tS m l c d t) hm (by omega) (hru t ht) (fun q hq => Nat.lt_of_le_of_lt (tl_sumLe hq) hb) ?_
      intro r hr
      refine yg_badF hm ?_
      refine br_t rfl ?_
      refine br_f h0 ?_
      refine yr_all (T := 570 + e) hm (by omega) (nI_add 570 e) R.1 R.2.2.1 F.1 F.2.1 F.2.2 ?_
      intro wy' sts' hY
      refine ⟨hi, ?_⟩
      dsimp only
      rw [ek, ct]
      refine ⟨vp_in_nI (by omega) (by decide), ?_, ?_⟩
      · have hy := (hY t ht).2
        exact tl_s4e hy.1 hr.1 fun q hq => (hy.2 q hq).trans (hr.2 q hq).symm
      · exact ⟨e, s, D + 1, l, c, d, z, lS, oS, tS, fS, le, fi, se, si, ra, tz, st, ru', sk, fI, sE, bg, tO, sts', wy', mk, op, rfl, rfl, F, R, B, S⟩
  · refine xg_autF h1 ?_
    refine br_t rfl ?_
    refine yg_badT h1 ?_
    exact br_f (by decide) ⟨rfl, I0⟩
theorem i_vc_runs {k : Nat} {u : SX} {v : SY} (I : i_Rel k u v) (hk : k + 4 ≤ 2048) (v1 : Int32) : wpX_runs (fun r u' => wpY_runs (fun r' v' => r' = r ∧ i_Rel (k + 4) u' v') v v1) u v1 := by
  have I0 := I
  obtain ⟨e, s, D, l, c, d, z, lS, oS, tS, fS, le, fi, se, si, ra, tz, st, ru, sk, fI, sE, bg, tO, sts, wy, mk, op, rfl, rfl, F, R, B, S⟩ := I
  unfold wpX_runs wpY_runs
  dsimp only
  by_cases h1 : ∃ j, j < 2 ∧ v1 = nI j
  · obtain ⟨m, hm, rfl⟩ := h1
    refine xg_autT hm ?_
    refine br_f (by decide) ?_
    cases D with
    | zero =>
      refine br_t rfl ?_
      refine yg_badF hm ?_
      exact br_t rfl (br_t rfl ⟨rfl, I0⟩)
    | succ D =>
      obtain ⟨he, hD, t, ht, et⟩ := tl_top R.1 S
      have h0 : ¬ nI (D + 1) = 0 := nI_ne0 (by omega) (by omega)
      have ep : nI (D + 1) - 1 = nI D := nI_pred D
      have hi : vp_in (nI (D + 1) - 1) 12 := pk_in D 12 hD ep
      have ek : sk (nI (D + 1) - 1).toNatClampNeg = nI t := by rw [pk_cl D ep, et]
      refine br_f h0 ?_
      refine xr_all (T := 570 + e) hm (by omega) R.1 R.2.1 ?_
      intro ru' _ hru
      refine ⟨hi, ?_⟩
      dsimp only
      rw [ek]
      refine xr_fin (tl_w lS oS tS m l c d t) hm (by omega) (hru t ht) ?_
      refine yg_badF hm ?_
      refine br_t rfl ?_
      refine br_f h0 ?_
      refine yr_all (T := 570 + e) hm (by omega) (nI_add 570 e) R.1 R.2.2.1 F.1 F.2.1 F.2.2 ?_
      intro wy' sts' hY
      refine yr_runs (tl_w lS oS tS m l c d t) hm (by omega) hD et (hY t ht).1 ?_
      exact ⟨rfl, e, s, D + 1, l, c, d, z, lS, oS, tS, fS, le, fi, se, si, ra, tz, st, ru', sk, fI, sE, bg, tO, sts', wy', mk, op, rfl, rfl, F, R, B, S⟩
  · refine xg_autF h1 ?_
    refine br_t rfl ?_
    refine yg_badT h1 ?_
    exact br_f (by decide) ⟨rfl, I0⟩
end
