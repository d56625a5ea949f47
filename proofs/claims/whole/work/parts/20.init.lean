section
theorem i_vc0 : wpX_init (fun u => wpY_init (fun v => i_Rel 0 u v)) := by
  refine xi_init (yi_init ?_)
  refine ⟨0, 0, 0, tb_l, tb_c, tb_d, tb_z, fun _ => 0, fun _ => 0, fun _ => 0, fun _ => 0, tb_L 570, tb_F 570, tb_G 570, tb_Z 570, tb_R 570, tb_N 12, tb_T 8, fun _ => 0, fun _ => 0, tb_P 570, tb_Q 570, tb_T 8, tb_N 20, fun _ => 0, fun _ => 0, fun _ => 0, fun _ => 0, rfl, rfl, ?_, ?_, ?_, ?_⟩
  · exact ⟨fun _ => tl_s40, fun _ => tl_s40, fun _ => tl_s40⟩
  · refine ⟨fun t ht => ?_, fun t ht => ?_, fun t ht => ?_, fun t ht => ?_, fun t ht => tb_lo ht⟩
    · obtain ⟨a1, a2, a3⟩ := tb_p1 t ht
      obtain ⟨a4, a5⟩ := tb_p2 t ht
      obtain ⟨a6, a7⟩ := tb_p3 t ht
      exact ⟨a1, a2, a3, a4, a5, a6, a7⟩
    · exact ⟨tb_lo ht, fun _ => tb_lo ht, fun _ => tb_lo ht⟩
    · refine ⟨tb_lo ht, fun h => ?_, fun h => ?_⟩
      · exact (tb_lo ht).trans (if_neg (by omega))
      · exact (tb_lo ht).trans (if_neg (by omega))
    · refine ⟨fun h => ?_, fun h => ?_⟩
      · exact (tb_lo ht).trans (if_pos h)
      · exact (tb_lo ht).trans (if_pos h)
  · refine ⟨fun j hj => ?_, fun n h1 h8 => ⟨tb_Tj h8, tb_Tj h8⟩, fun n h1 h7 t a b => ?_⟩
    · have x1 : tb_N 20 j = tb_D j := tb_lo (by omega)
      have x2 : tb_N 12 j = tb_D j := tb_lo hj
      rw [x1, x2]
    · have s1 := tb_pos (n := n) (by omega) h1
      have k1 := tb_k1 n (by omega) h1 (t - tl_S n) (by omega)
      rw [show tl_S n + (t - tl_S n) = t by omega] at k1
      exact k1
  · exact ⟨Nat.le_refl 0, by decide, fun j hj => absurd hj (Nat.not_lt_zero j), Nat.le_refl 0⟩
end
